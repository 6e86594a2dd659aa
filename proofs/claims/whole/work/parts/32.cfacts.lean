theorem oi_inst : Cond.instanceMethod objectInit ∈ lw_g := in_g (List.mem_of_getElem? (i := 132) (by decide +kernel)) rfl
theorem oi_code : Cond.code objectInit ⟨#[0xb1]⟩ 1 none ∈ lw_g := in_g (List.mem_of_getElem? (i := 133) (by decide +kernel)) rfl
theorem ol_1 : Cond.methodLink RX1 3 objectInit ∈ lw_g := in_g (List.mem_of_getElem? (i := 221) (by decide +kernel)) rfl
theorem cf_1_9 : FPf RX1 9 1 0 (.array .int) := ⟨⟨by decide, by decide, in_g (List.mem_of_getElem? (i := 222) (by decide +kernel)) rfl, rfl⟩, rfl, rfl, rfl, by decide +kernel⟩
theorem cf_1_15 : FPf RX1 15 1 1 (.array .int) := ⟨⟨by decide, by decide, in_g (List.mem_of_getElem? (i := 225) (by decide +kernel)) rfl, rfl⟩, rfl, rfl, rfl, by decide +kernel⟩
theorem cf_1_18 : FPf RX1 18 1 2 (.array .int) := ⟨⟨by decide, by decide, in_g (List.mem_of_getElem? (i := 228) (by decide +kernel)) rfl, rfl⟩, rfl, rfl, rfl, by decide +kernel⟩
theorem cf_1_21 : FPf RX1 21 1 3 (.array .int) := ⟨⟨by decide, by decide, in_g (List.mem_of_getElem? (i := 231) (by decide +kernel)) rfl, rfl⟩, rfl, rfl, rfl, by decide +kernel⟩
theorem cf_1_24 : FPf RX1 24 1 4 (.array .int) := ⟨⟨by decide, by decide, in_g (List.mem_of_getElem? (i := 234) (by decide +kernel)) rfl, rfl⟩, rfl, rfl, rfl, by decide +kernel⟩
theorem ol_4 : Cond.methodLink RX4 3 objectInit ∈ lw_g := in_g (List.mem_of_getElem? (i := 253) (by decide +kernel)) rfl
theorem cf_4_9 : FPf RX4 9 4 0 (.array .int) := ⟨⟨by decide, by decide, in_g (List.mem_of_getElem? (i := 254) (by decide +kernel)) rfl, rfl⟩, rfl, rfl, rfl, by decide +kernel⟩
theorem cf_4_15 : FPf RX4 15 4 1 (.array .int) := ⟨⟨by decide, by decide, in_g (List.mem_of_getElem? (i := 255) (by decide +kernel)) rfl, rfl⟩, rfl, rfl, rfl, by decide +kernel⟩
theorem ci_4_18 : FPi RX4 18 4 2 := ⟨⟨⟨by decide, by decide, in_g (List.mem_of_getElem? (i := 256) (by decide +kernel)) rfl, rfl⟩, rfl, rfl⟩, by decide +kernel⟩
theorem cf_4_22 : FPf RX4 22 4 3 (.array .int) := ⟨⟨by decide, by decide, in_g (List.mem_of_getElem? (i := 257) (by decide +kernel)) rfl, rfl⟩, rfl, rfl, rfl, by decide +kernel⟩
theorem cf_4_25 : FPf RX4 25 4 4 (.array .int) := ⟨⟨by decide, by decide, in_g (List.mem_of_getElem? (i := 258) (by decide +kernel)) rfl, rfl⟩, rfl, rfl, rfl, by decide +kernel⟩
theorem ol_5 : Cond.methodLink RX5 3 objectInit ∈ lw_g := in_g (List.mem_of_getElem? (i := 428) (by decide +kernel)) rfl
theorem ci_5_9 : FPi RX5 9 5 0 := ⟨⟨⟨by decide, by decide, in_g (List.mem_of_getElem? (i := 429) (by decide +kernel)) rfl, rfl⟩, rfl, rfl⟩, by decide +kernel⟩
theorem ci_5_15 : FPi RX5 15 5 1 := ⟨⟨⟨by decide, by decide, in_g (List.mem_of_getElem? (i := 432) (by decide +kernel)) rfl, rfl⟩, rfl, rfl⟩, by decide +kernel⟩
theorem ci_5_18 : FPi RX5 18 5 2 := ⟨⟨⟨by decide, by decide, in_g (List.mem_of_getElem? (i := 435) (by decide +kernel)) rfl, rfl⟩, rfl, rfl⟩, by decide +kernel⟩
theorem ci_5_21 : FPi RX5 21 5 3 := ⟨⟨⟨by decide, by decide, in_g (List.mem_of_getElem? (i := 438) (by decide +kernel)) rfl, rfl⟩, rfl, rfl⟩, by decide +kernel⟩
theorem cf_5_24 : FPf RX5 24 5 4 (.array .int) := ⟨⟨by decide, by decide, in_g (List.mem_of_getElem? (i := 441) (by decide +kernel)) rfl, rfl⟩, rfl, rfl, rfl, by decide +kernel⟩
theorem ol_3 : Cond.methodLink RX3 3 objectInit ∈ lw_g := in_g (List.mem_of_getElem? (i := 215) (by decide +kernel)) rfl
theorem ci_3_9 : FPi RX3 9 3 0 := ⟨⟨⟨by decide, by decide, in_g (List.mem_of_getElem? (i := 282) (by decide +kernel)) rfl, rfl⟩, rfl, rfl⟩, by decide +kernel⟩
theorem ci_3_15 : FPi RX3 15 3 1 := ⟨⟨⟨by decide, by decide, in_g (List.mem_of_getElem? (i := 285) (by decide +kernel)) rfl, rfl⟩, rfl, rfl⟩, by decide +kernel⟩
theorem ci_3_18 : FPi RX3 18 3 2 := ⟨⟨⟨by decide, by decide, in_g (List.mem_of_getElem? (i := 289) (by decide +kernel)) rfl, rfl⟩, rfl, rfl⟩, by decide +kernel⟩
theorem ci_3_21 : FPi RX3 21 3 3 := ⟨⟨⟨by decide, by decide, in_g (List.mem_of_getElem? (i := 294) (by decide +kernel)) rfl, rfl⟩, rfl, rfl⟩, by decide +kernel⟩
theorem ci_3_24 : FPi RX3 24 3 4 := ⟨⟨⟨by decide, by decide, in_g (List.mem_of_getElem? (i := 297) (by decide +kernel)) rfl, rfl⟩, rfl, rfl⟩, by decide +kernel⟩
theorem ci_3_27 : FPi RX3 27 3 5 := ⟨⟨⟨by decide, by decide, in_g (List.mem_of_getElem? (i := 301) (by decide +kernel)) rfl, rfl⟩, rfl, rfl⟩, by decide +kernel⟩
theorem cf_3_30 : FPf RX3 30 3 6 (.array .int) := ⟨⟨by decide, by decide, in_g (List.mem_of_getElem? (i := 304) (by decide +kernel)) rfl, rfl⟩, rfl, rfl, rfl, by decide +kernel⟩
theorem cf_3_34 : FPf RX3 34 3 7 (.array .int) := ⟨⟨by decide, by decide, in_g (List.mem_of_getElem? (i := 308) (by decide +kernel)) rfl, rfl⟩, rfl, rfl, rfl, by decide +kernel⟩
theorem cf_3_37 : FPf RX3 37 3 8 (.array .int) := ⟨⟨by decide, by decide, in_g (List.mem_of_getElem? (i := 312) (by decide +kernel)) rfl, rfl⟩, rfl, rfl, rfl, by decide +kernel⟩
theorem cf_3_40 : FPf RX3 40 3 9 (.array .int) := ⟨⟨by decide, by decide, in_g (List.mem_of_getElem? (i := 316) (by decide +kernel)) rfl, rfl⟩, rfl, rfl, rfl, by decide +kernel⟩
theorem cf_3_43 : FPf RX3 43 3 10 (.array .int) := ⟨⟨by decide, by decide, in_g (List.mem_of_getElem? (i := 319) (by decide +kernel)) rfl, rfl⟩, rfl, rfl, rfl, by decide +kernel⟩
theorem cl_3_46 : Cond.classLink RX3 46 (clC 1) ∈ lw_g := in_g (List.mem_of_getElem? (i := 216) (by decide +kernel)) rfl
theorem ins_1 : Cond.instantiable (clC 1) 5 ∈ lw_g := in_g (List.mem_of_getElem? (i := 217) (by decide +kernel)) rfl
theorem ini_1 : Cond.initialized (clC 1) ∈ lw_g := in_g (List.mem_of_getElem? (i := 112) (by decide +kernel)) rfl
theorem mi_3_48 : MI RX3 48 yX1_init cX1_init 1 0 := ⟨Or.inr (by decide +kernel), in_g (List.mem_of_getElem? (i := 219) (by decide +kernel)) rfl, in_g (List.mem_of_getElem? (i := 112) (by decide +kernel)) rfl, in_g (List.mem_of_getElem? (i := 220) (by decide +kernel)) rfl, rfl, by decide +kernel, by decide +kernel, by decide +kernel⟩
theorem cf_3_49 : FPf RX3 49 3 11 (.object "TurfGiving$Givings") := ⟨⟨by decide, by decide, in_g (List.mem_of_getElem? (i := 323) (by decide +kernel)) rfl, rfl⟩, rfl, rfl, rfl, by decide +kernel⟩
theorem cl_3_53 : Cond.classLink RX3 53 (clC 4) ∈ lw_g := in_g (List.mem_of_getElem? (i := 248) (by decide +kernel)) rfl
theorem ins_4 : Cond.instantiable (clC 4) 5 ∈ lw_g := in_g (List.mem_of_getElem? (i := 249) (by decide +kernel)) rfl
theorem ini_4 : Cond.initialized (clC 4) ∈ lw_g := in_g (List.mem_of_getElem? (i := 113) (by decide +kernel)) rfl
theorem mi_3_55 : MI RX3 55 yX4_init cX4_init 1 0 := ⟨Or.inr (by decide +kernel), in_g (List.mem_of_getElem? (i := 251) (by decide +kernel)) rfl, in_g (List.mem_of_getElem? (i := 113) (by decide +kernel)) rfl, in_g (List.mem_of_getElem? (i := 252) (by decide +kernel)) rfl, rfl, by decide +kernel, by decide +kernel, by decide +kernel⟩
theorem cf_3_56 : FPf RX3 56 3 12 (.object "TurfGiving$Laws") := ⟨⟨by decide, by decide, in_g (List.mem_of_getElem? (i := 327) (by decide +kernel)) rfl, rfl⟩, rfl, rfl, rfl, by decide +kernel⟩
theorem cf_3_60 : FPf RX3 60 3 13 (.array .long) := ⟨⟨by decide, by decide, in_g (List.mem_of_getElem? (i := 329) (by decide +kernel)) rfl, rfl⟩, rfl, rfl, rfl, by decide +kernel⟩
theorem cf_3_64 : FPf RX3 64 3 14 (.array .int) := ⟨⟨by decide, by decide, in_g (List.mem_of_getElem? (i := 330) (by decide +kernel)) rfl, rfl⟩, rfl, rfl, rfl, by decide +kernel⟩
theorem cf_3_67 : FPf RX3 67 3 15 (.array .int) := ⟨⟨by decide, by decide, in_g (List.mem_of_getElem? (i := 331) (by decide +kernel)) rfl, rfl⟩, rfl, rfl, rfl, by decide +kernel⟩
theorem ci_3_70 : FPi RX3 70 3 16 := ⟨⟨⟨by decide, by decide, in_g (List.mem_of_getElem? (i := 332) (by decide +kernel)) rfl, rfl⟩, rfl, rfl⟩, by decide +kernel⟩
theorem cg_3_56 : FKr RX3 56 3 12 := ⟨⟨by decide, by decide, in_g (List.mem_of_getElem? (i := 327) (by decide +kernel)) rfl, rfl⟩, by decide +kernel⟩
theorem cv_3_73 : MV RX3 73 4 yX4_clear cX4_clear 1 (none) 0 := ⟨in_g (List.mem_of_getElem? (i := 270) (by decide +kernel)) rfl, in_g (List.mem_of_getElem? (i := 271) (by decide +kernel)) rfl, in_g (List.mem_of_getElem? (i := 272) (by decide +kernel)) rfl, in_g (List.mem_of_getElem? (i := 113) (by decide +kernel)) rfl, in_g (List.mem_of_getElem? (i := 273) (by decide +kernel)) rfl, by decide, rfl, by decide +kernel, by decide +kernel, by decide +kernel⟩
theorem ol_9 : Cond.methodLink RX9 3 objectInit ∈ lw_g := in_g (List.mem_of_getElem? (i := 139) (by decide +kernel)) rfl
theorem cf_9_9 : FPf RX9 9 9 0 (.array .int) := ⟨⟨by decide, by decide, in_g (List.mem_of_getElem? (i := 185) (by decide +kernel)) rfl, rfl⟩, rfl, rfl, rfl, by decide +kernel⟩
theorem cf_9_15 : FPf RX9 15 9 1 (.array .int) := ⟨⟨by decide, by decide, in_g (List.mem_of_getElem? (i := 186) (by decide +kernel)) rfl, rfl⟩, rfl, rfl, rfl, by decide +kernel⟩
theorem cf_9_18 : FPf RX9 18 9 2 (.array .long) := ⟨⟨by decide, by decide, in_g (List.mem_of_getElem? (i := 187) (by decide +kernel)) rfl, rfl⟩, rfl, rfl, rfl, by decide +kernel⟩
theorem cf_9_22 : FPf RX9 22 9 3 (.array .long) := ⟨⟨by decide, by decide, in_g (List.mem_of_getElem? (i := 188) (by decide +kernel)) rfl, rfl⟩, rfl, rfl, rfl, by decide +kernel⟩
theorem ci_9_25 : FPi RX9 25 9 4 := ⟨⟨⟨by decide, by decide, in_g (List.mem_of_getElem? (i := 189) (by decide +kernel)) rfl, rfl⟩, rfl, rfl⟩, by decide +kernel⟩
theorem ci_9_29 : FPi RX9 29 9 5 := ⟨⟨⟨by decide, by decide, in_g (List.mem_of_getElem? (i := 192) (by decide +kernel)) rfl, rfl⟩, rfl, rfl⟩, by decide +kernel⟩
theorem ol_2 : Cond.methodLink RX2 3 objectInit ∈ lw_g := in_g (List.mem_of_getElem? (i := 373) (by decide +kernel)) rfl
theorem ci_2_9 : FPi RX2 9 2 2 := ⟨⟨⟨by decide, by decide, in_g (List.mem_of_getElem? (i := 376) (by decide +kernel)) rfl, rfl⟩, rfl, rfl⟩, by decide +kernel⟩
theorem ci_2_15 : FPi RX2 15 2 3 := ⟨⟨⟨by decide, by decide, in_g (List.mem_of_getElem? (i := 377) (by decide +kernel)) rfl, rfl⟩, rfl, rfl⟩, by decide +kernel⟩
theorem ci_2_18 : FPi RX2 18 2 4 := ⟨⟨⟨by decide, by decide, in_g (List.mem_of_getElem? (i := 378) (by decide +kernel)) rfl, rfl⟩, rfl, rfl⟩, by decide +kernel⟩
theorem ci_2_21 : FPi RX2 21 2 5 := ⟨⟨⟨by decide, by decide, in_g (List.mem_of_getElem? (i := 379) (by decide +kernel)) rfl, rfl⟩, rfl, rfl⟩, by decide +kernel⟩
theorem ci_2_24 : FPi RX2 24 2 6 := ⟨⟨⟨by decide, by decide, in_g (List.mem_of_getElem? (i := 380) (by decide +kernel)) rfl, rfl⟩, rfl, rfl⟩, by decide +kernel⟩
theorem cf_2_27 : FPf RX2 27 2 7 (.array .int) := ⟨⟨by decide, by decide, in_g (List.mem_of_getElem? (i := 381) (by decide +kernel)) rfl, rfl⟩, rfl, rfl, rfl, by decide +kernel⟩
theorem ci_2_31 : FPi RX2 31 2 8 := ⟨⟨⟨by decide, by decide, in_g (List.mem_of_getElem? (i := 382) (by decide +kernel)) rfl, rfl⟩, rfl, rfl⟩, by decide +kernel⟩
theorem ci_2_34 : FPi RX2 34 2 9 := ⟨⟨⟨by decide, by decide, in_g (List.mem_of_getElem? (i := 383) (by decide +kernel)) rfl, rfl⟩, rfl, rfl⟩, by decide +kernel⟩
theorem cf_2_37 : FPf RX2 37 2 0 (.object "TurfGiving$Text") := ⟨⟨by decide, by decide, in_g (List.mem_of_getElem? (i := 374) (by decide +kernel)) rfl, rfl⟩, rfl, rfl, rfl, by decide +kernel⟩
theorem cg_2_41 : FKr RX2 41 3 12 := ⟨⟨by decide, by decide, in_g (List.mem_of_getElem? (i := 326) (by decide +kernel)) rfl, rfl⟩, by decide +kernel⟩
theorem cr_2_47 : FPr RX2 47 2 1 "TurfGiving$Laws" := ⟨⟨⟨by decide, by decide, in_g (List.mem_of_getElem? (i := 375) (by decide +kernel)) rfl, rfl⟩, rfl, rfl⟩, by decide +kernel⟩
theorem ol_8 : Cond.methodLink RX8 3 objectInit ∈ lw_g := in_g (List.mem_of_getElem? (i := 410) (by decide +kernel)) rfl
theorem ci_8_9 : FPi RX8 9 8 2 := ⟨⟨⟨by decide, by decide, in_g (List.mem_of_getElem? (i := 413) (by decide +kernel)) rfl, rfl⟩, rfl, rfl⟩, by decide +kernel⟩
theorem cf_8_15 : FPf RX8 15 8 0 (.object "TurfGiving$Text") := ⟨⟨by decide, by decide, in_g (List.mem_of_getElem? (i := 411) (by decide +kernel)) rfl, rfl⟩, rfl, rfl, rfl, by decide +kernel⟩
theorem cr_8_19 : FPr RX8 19 8 1 "TurfGiving$Land" := ⟨⟨⟨by decide, by decide, in_g (List.mem_of_getElem? (i := 412) (by decide +kernel)) rfl, rfl⟩, rfl, rfl⟩, by decide +kernel⟩
theorem ol_0 : Cond.methodLink RX0 3 objectInit ∈ lw_g := in_g (List.mem_of_getElem? (i := 460) (by decide +kernel)) rfl
theorem cf_0_9 : FPf RX0 9 0 2 (.array .int) := ⟨⟨by decide, by decide, in_g (List.mem_of_getElem? (i := 464) (by decide +kernel)) rfl, rfl⟩, rfl, rfl, rfl, by decide +kernel⟩
theorem cf_0_15 : FPf RX0 15 0 3 (.array .int) := ⟨⟨by decide, by decide, in_g (List.mem_of_getElem? (i := 465) (by decide +kernel)) rfl, rfl⟩, rfl, rfl, rfl, by decide +kernel⟩
theorem cf_0_18 : FPf RX0 18 0 4 (.array .int) := ⟨⟨by decide, by decide, in_g (List.mem_of_getElem? (i := 466) (by decide +kernel)) rfl, rfl⟩, rfl, rfl, rfl, by decide +kernel⟩
theorem cf_0_21 : FPf RX0 21 0 5 (.array .int) := ⟨⟨by decide, by decide, in_g (List.mem_of_getElem? (i := 467) (by decide +kernel)) rfl, rfl⟩, rfl, rfl, rfl, by decide +kernel⟩
theorem cf_0_24 : FPf RX0 24 0 6 (.array .int) := ⟨⟨by decide, by decide, in_g (List.mem_of_getElem? (i := 468) (by decide +kernel)) rfl, rfl⟩, rfl, rfl, rfl, by decide +kernel⟩
theorem cf_0_27 : FPf RX0 27 0 0 (.object "TurfGiving$Givings") := ⟨⟨by decide, by decide, in_g (List.mem_of_getElem? (i := 461) (by decide +kernel)) rfl, rfl⟩, rfl, rfl, rfl, by decide +kernel⟩
theorem cr_0_31 : FPr RX0 31 0 1 "TurfGiving$Land" := ⟨⟨⟨by decide, by decide, in_g (List.mem_of_getElem? (i := 462) (by decide +kernel)) rfl, rfl⟩, rfl, rfl⟩, by decide +kernel⟩
theorem ol_7 : Cond.methodLink RX7 3 objectInit ∈ lw_g := in_g (List.mem_of_getElem? (i := 490) (by decide +kernel)) rfl
theorem cf_7_9 : FPf RX7 9 7 0 (.array .int) := ⟨⟨by decide, by decide, in_g (List.mem_of_getElem? (i := 491) (by decide +kernel)) rfl, rfl⟩, rfl, rfl, rfl, by decide +kernel⟩
theorem cf_7_15 : FPf RX7 15 7 1 (.array .int) := ⟨⟨by decide, by decide, in_g (List.mem_of_getElem? (i := 492) (by decide +kernel)) rfl, rfl⟩, rfl, rfl, rfl, by decide +kernel⟩
theorem cf_7_18 : FPf RX7 18 7 2 (.array .int) := ⟨⟨by decide, by decide, in_g (List.mem_of_getElem? (i := 493) (by decide +kernel)) rfl, rfl⟩, rfl, rfl, rfl, by decide +kernel⟩
theorem ol_6 : Cond.methodLink RX6 3 objectInit ∈ lw_g := in_g (List.mem_of_getElem? (i := 506) (by decide +kernel)) rfl
theorem cq_6_9 : Cond.classLink RX6 9 RX5 ∈ lw_g := in_g (List.mem_of_getElem? (i := 507) (by decide +kernel)) rfl
theorem cf_6_11 : FPf RX6 11 6 0 (.array (.object "TurfGiving$Moment")) := ⟨⟨by decide, by decide, in_g (List.mem_of_getElem? (i := 513) (by decide +kernel)) rfl, rfl⟩, rfl, rfl, rfl, by decide +kernel⟩
theorem ci_6_17 : FPi RX6 17 6 1 := ⟨⟨⟨by decide, by decide, in_g (List.mem_of_getElem? (i := 514) (by decide +kernel)) rfl, rfl⟩, rfl, rfl⟩, by decide +kernel⟩
theorem ci_6_21 : FPi RX6 21 6 2 := ⟨⟨⟨by decide, by decide, in_g (List.mem_of_getElem? (i := 515) (by decide +kernel)) rfl, rfl⟩, rfl, rfl⟩, by decide +kernel⟩
theorem cf_6_24 : FPf RX6 24 6 3 (.array (.object "TurfGiving$Moment")) := ⟨⟨by decide, by decide, in_g (List.mem_of_getElem? (i := 517) (by decide +kernel)) rfl, rfl⟩, rfl, rfl, rfl, by decide +kernel⟩
theorem cq_6_27 : Cond.classLink RX6 27 RX1 ∈ lw_g := in_g (List.mem_of_getElem? (i := 509) (by decide +kernel)) rfl
theorem cf_6_29 : FPf RX6 29 6 4 (.array (.object "TurfGiving$Givings")) := ⟨⟨by decide, by decide, in_g (List.mem_of_getElem? (i := 518) (by decide +kernel)) rfl, rfl⟩, rfl, rfl, rfl, by decide +kernel⟩
theorem ci_6_33 : FPi RX6 33 6 5 := ⟨⟨⟨by decide, by decide, in_g (List.mem_of_getElem? (i := 519) (by decide +kernel)) rfl, rfl⟩, rfl, rfl⟩, by decide +kernel⟩
theorem cg_6_11 : FKr RX6 11 6 0 := ⟨⟨by decide, by decide, in_g (List.mem_of_getElem? (i := 513) (by decide +kernel)) rfl, rfl⟩, by decide +kernel⟩
theorem cl_6_9 : Cond.classLink RX6 9 (clC 5) ∈ lw_g := in_g (List.mem_of_getElem? (i := 507) (by decide +kernel)) rfl
theorem ins_5 : Cond.instantiable (clC 5) 5 ∈ lw_g := in_g (List.mem_of_getElem? (i := 424) (by decide +kernel)) rfl
theorem ini_5 : Cond.initialized (clC 5) ∈ lw_g := in_g (List.mem_of_getElem? (i := 116) (by decide +kernel)) rfl
theorem mi_6_36 : MI RX6 36 yX5_init cX5_init 1 0 := ⟨Or.inr (by decide +kernel), in_g (List.mem_of_getElem? (i := 426) (by decide +kernel)) rfl, in_g (List.mem_of_getElem? (i := 116) (by decide +kernel)) rfl, in_g (List.mem_of_getElem? (i := 427) (by decide +kernel)) rfl, rfl, by decide +kernel, by decide +kernel, by decide +kernel⟩
theorem cg_6_24 : FKr RX6 24 6 3 := ⟨⟨by decide, by decide, in_g (List.mem_of_getElem? (i := 517) (by decide +kernel)) rfl, rfl⟩, by decide +kernel⟩
theorem cg_6_29 : FKr RX6 29 6 4 := ⟨⟨by decide, by decide, in_g (List.mem_of_getElem? (i := 518) (by decide +kernel)) rfl, rfl⟩, by decide +kernel⟩
theorem cl_6_27 : Cond.classLink RX6 27 (clC 1) ∈ lw_g := in_g (List.mem_of_getElem? (i := 509) (by decide +kernel)) rfl
theorem mi_6_37 : MI RX6 37 yX1_init cX1_init 1 0 := ⟨Or.inr (by decide +kernel), in_g (List.mem_of_getElem? (i := 219) (by decide +kernel)) rfl, in_g (List.mem_of_getElem? (i := 112) (by decide +kernel)) rfl, in_g (List.mem_of_getElem? (i := 220) (by decide +kernel)) rfl, rfl, by decide +kernel, by decide +kernel, by decide +kernel⟩
theorem ol_10 : Cond.methodLink RX10 3 objectInit ∈ lw_g := in_g (List.mem_of_getElem? (i := 131) (by decide +kernel)) rfl
theorem cf_10_9 : FPf RX10 9 10 0 (.array .byte) := ⟨⟨by decide, by decide, in_g (List.mem_of_getElem? (i := 534) (by decide +kernel)) rfl, rfl⟩, rfl, rfl, rfl, by decide +kernel⟩
theorem ci_10_13 : FPi RX10 13 10 1 := ⟨⟨⟨by decide, by decide, in_g (List.mem_of_getElem? (i := 535) (by decide +kernel)) rfl, rfl⟩, rfl, rfl⟩, by decide +kernel⟩
theorem cl_10_17 : Cond.classLink RX10 17 (clC 9) ∈ lw_g := in_g (List.mem_of_getElem? (i := 134) (by decide +kernel)) rfl
theorem ins_9 : Cond.instantiable (clC 9) 6 ∈ lw_g := in_g (List.mem_of_getElem? (i := 135) (by decide +kernel)) rfl
theorem ini_9 : Cond.initialized (clC 9) ∈ lw_g := in_g (List.mem_of_getElem? (i := 106) (by decide +kernel)) rfl
theorem mi_10_19 : MI RX10 19 yX9_init cX9_init 4 0 := ⟨Or.inl (in_g (List.mem_of_getElem? (i := 136) (by decide +kernel)) rfl), in_g (List.mem_of_getElem? (i := 137) (by decide +kernel)) rfl, in_g (List.mem_of_getElem? (i := 106) (by decide +kernel)) rfl, in_g (List.mem_of_getElem? (i := 138) (by decide +kernel)) rfl, rfl, by decide +kernel, by decide +kernel, by decide +kernel⟩
theorem cf_10_20 : FPf RX10 20 10 2 (.object "TurfGiving$Text") := ⟨⟨by decide, by decide, in_g (List.mem_of_getElem? (i := 536) (by decide +kernel)) rfl, rfl⟩, rfl, rfl, rfl, by decide +kernel⟩
theorem cl_10_24 : Cond.classLink RX10 24 (clC 3) ∈ lw_g := in_g (List.mem_of_getElem? (i := 210) (by decide +kernel)) rfl
theorem ins_3 : Cond.instantiable (clC 3) 17 ∈ lw_g := in_g (List.mem_of_getElem? (i := 211) (by decide +kernel)) rfl
theorem ini_3 : Cond.initialized (clC 3) ∈ lw_g := in_g (List.mem_of_getElem? (i := 111) (by decide +kernel)) rfl
theorem mi_10_26 : MI RX10 26 yX3_init cX3_init 1 0 := ⟨Or.inl (in_g (List.mem_of_getElem? (i := 212) (by decide +kernel)) rfl), in_g (List.mem_of_getElem? (i := 213) (by decide +kernel)) rfl, in_g (List.mem_of_getElem? (i := 111) (by decide +kernel)) rfl, in_g (List.mem_of_getElem? (i := 214) (by decide +kernel)) rfl, rfl, by decide +kernel, by decide +kernel, by decide +kernel⟩
theorem cr_10_27 : FPr RX10 27 10 3 "TurfGiving$Land" := ⟨⟨⟨by decide, by decide, in_g (List.mem_of_getElem? (i := 537) (by decide +kernel)) rfl, rfl⟩, rfl, rfl⟩, by decide +kernel⟩
theorem cr_10_31 : FPr RX10 31 10 4 "TurfGiving$Land" := ⟨⟨⟨by decide, by decide, in_g (List.mem_of_getElem? (i := 538) (by decide +kernel)) rfl, rfl⟩, rfl, rfl⟩, by decide +kernel⟩
theorem cl_10_34 : Cond.classLink RX10 34 (clC 2) ∈ lw_g := in_g (List.mem_of_getElem? (i := 368) (by decide +kernel)) rfl
theorem ins_2 : Cond.instantiable (clC 2) 10 ∈ lw_g := in_g (List.mem_of_getElem? (i := 369) (by decide +kernel)) rfl
theorem ini_2 : Cond.initialized (clC 2) ∈ lw_g := in_g (List.mem_of_getElem? (i := 114) (by decide +kernel)) rfl
theorem cg_10_20 : FKr RX10 20 10 2 := ⟨⟨by decide, by decide, in_g (List.mem_of_getElem? (i := 536) (by decide +kernel)) rfl, rfl⟩, by decide +kernel⟩
theorem cg_10_31 : FKr RX10 31 10 4 := ⟨⟨by decide, by decide, in_g (List.mem_of_getElem? (i := 538) (by decide +kernel)) rfl, rfl⟩, by decide +kernel⟩
theorem mi_10_36 : MI RX10 36 yX2_init cX2_init 3 2 := ⟨Or.inl (in_g (List.mem_of_getElem? (i := 370) (by decide +kernel)) rfl), in_g (List.mem_of_getElem? (i := 371) (by decide +kernel)) rfl, in_g (List.mem_of_getElem? (i := 114) (by decide +kernel)) rfl, in_g (List.mem_of_getElem? (i := 372) (by decide +kernel)) rfl, rfl, by decide +kernel, by decide +kernel, by decide +kernel⟩
theorem cf_10_39 : FPf RX10 39 10 5 (.object "TurfGiving$Grammar") := ⟨⟨by decide, by decide, in_g (List.mem_of_getElem? (i := 539) (by decide +kernel)) rfl, rfl⟩, rfl, rfl, rfl, by decide +kernel⟩
theorem cl_10_43 : Cond.classLink RX10 43 (clC 8) ∈ lw_g := in_g (List.mem_of_getElem? (i := 405) (by decide +kernel)) rfl
theorem ins_8 : Cond.instantiable (clC 8) 3 ∈ lw_g := in_g (List.mem_of_getElem? (i := 406) (by decide +kernel)) rfl
theorem ini_8 : Cond.initialized (clC 8) ∈ lw_g := in_g (List.mem_of_getElem? (i := 115) (by decide +kernel)) rfl
theorem mi_10_45 : MI RX10 45 yX8_init cX8_init 3 2 := ⟨Or.inl (in_g (List.mem_of_getElem? (i := 407) (by decide +kernel)) rfl), in_g (List.mem_of_getElem? (i := 408) (by decide +kernel)) rfl, in_g (List.mem_of_getElem? (i := 115) (by decide +kernel)) rfl, in_g (List.mem_of_getElem? (i := 409) (by decide +kernel)) rfl, rfl, by decide +kernel, by decide +kernel, by decide +kernel⟩
theorem cf_10_46 : FPf RX10 46 10 6 (.object "TurfGiving$Telling") := ⟨⟨by decide, by decide, in_g (List.mem_of_getElem? (i := 540) (by decide +kernel)) rfl, rfl⟩, rfl, rfl, rfl, by decide +kernel⟩
theorem cl_10_50 : Cond.classLink RX10 50 (clC 1) ∈ lw_g := in_g (List.mem_of_getElem? (i := 421) (by decide +kernel)) rfl
theorem mi_10_52 : MI RX10 52 yX1_init cX1_init 1 0 := ⟨Or.inr (by decide +kernel), in_g (List.mem_of_getElem? (i := 219) (by decide +kernel)) rfl, in_g (List.mem_of_getElem? (i := 112) (by decide +kernel)) rfl, in_g (List.mem_of_getElem? (i := 220) (by decide +kernel)) rfl, rfl, by decide +kernel, by decide +kernel, by decide +kernel⟩
theorem cf_10_53 : FPf RX10 53 10 7 (.object "TurfGiving$Givings") := ⟨⟨by decide, by decide, in_g (List.mem_of_getElem? (i := 541) (by decide +kernel)) rfl, rfl⟩, rfl, rfl, rfl, by decide +kernel⟩
theorem cl_10_57 : Cond.classLink RX10 57 (clC 5) ∈ lw_g := in_g (List.mem_of_getElem? (i := 423) (by decide +kernel)) rfl
theorem mi_10_59 : MI RX10 59 yX5_init cX5_init 1 0 := ⟨Or.inr (by decide +kernel), in_g (List.mem_of_getElem? (i := 426) (by decide +kernel)) rfl, in_g (List.mem_of_getElem? (i := 116) (by decide +kernel)) rfl, in_g (List.mem_of_getElem? (i := 427) (by decide +kernel)) rfl, rfl, by decide +kernel, by decide +kernel, by decide +kernel⟩
theorem cf_10_60 : FPf RX10 60 10 8 (.object "TurfGiving$Moment") := ⟨⟨by decide, by decide, in_g (List.mem_of_getElem? (i := 542) (by decide +kernel)) rfl, rfl⟩, rfl, rfl, rfl, by decide +kernel⟩
theorem cf_10_64 : FPf RX10 64 10 9 (.object "TurfGiving$Moment") := ⟨⟨by decide, by decide, in_g (List.mem_of_getElem? (i := 543) (by decide +kernel)) rfl, rfl⟩, rfl, rfl, rfl, by decide +kernel⟩
theorem cl_10_67 : Cond.classLink RX10 67 (clC 0) ∈ lw_g := in_g (List.mem_of_getElem? (i := 455) (by decide +kernel)) rfl
theorem ins_0 : Cond.instantiable (clC 0) 7 ∈ lw_g := in_g (List.mem_of_getElem? (i := 456) (by decide +kernel)) rfl
theorem ini_0 : Cond.initialized (clC 0) ∈ lw_g := in_g (List.mem_of_getElem? (i := 117) (by decide +kernel)) rfl
theorem cg_10_53 : FKr RX10 53 10 7 := ⟨⟨by decide, by decide, in_g (List.mem_of_getElem? (i := 541) (by decide +kernel)) rfl, rfl⟩, by decide +kernel⟩
theorem cg_10_27 : FKr RX10 27 10 3 := ⟨⟨by decide, by decide, in_g (List.mem_of_getElem? (i := 537) (by decide +kernel)) rfl, rfl⟩, by decide +kernel⟩
theorem mi_10_69 : MI RX10 69 yX0_init cX0_init 3 2 := ⟨Or.inl (in_g (List.mem_of_getElem? (i := 457) (by decide +kernel)) rfl), in_g (List.mem_of_getElem? (i := 458) (by decide +kernel)) rfl, in_g (List.mem_of_getElem? (i := 117) (by decide +kernel)) rfl, in_g (List.mem_of_getElem? (i := 459) (by decide +kernel)) rfl, rfl, by decide +kernel, by decide +kernel, by decide +kernel⟩
theorem cf_10_72 : FPf RX10 72 10 10 (.object "TurfGiving$Court") := ⟨⟨by decide, by decide, in_g (List.mem_of_getElem? (i := 544) (by decide +kernel)) rfl, rfl⟩, rfl, rfl, rfl, by decide +kernel⟩
theorem cl_10_76 : Cond.classLink RX10 76 (clC 7) ∈ lw_g := in_g (List.mem_of_getElem? (i := 485) (by decide +kernel)) rfl
theorem ins_7 : Cond.instantiable (clC 7) 3 ∈ lw_g := in_g (List.mem_of_getElem? (i := 486) (by decide +kernel)) rfl
theorem ini_7 : Cond.initialized (clC 7) ∈ lw_g := in_g (List.mem_of_getElem? (i := 118) (by decide +kernel)) rfl
theorem mi_10_78 : MI RX10 78 yX7_init cX7_init 1 0 := ⟨Or.inr (by decide +kernel), in_g (List.mem_of_getElem? (i := 488) (by decide +kernel)) rfl, in_g (List.mem_of_getElem? (i := 118) (by decide +kernel)) rfl, in_g (List.mem_of_getElem? (i := 489) (by decide +kernel)) rfl, rfl, by decide +kernel, by decide +kernel, by decide +kernel⟩
theorem cf_10_79 : FPf RX10 79 10 11 (.object "TurfGiving$Rounds") := ⟨⟨by decide, by decide, in_g (List.mem_of_getElem? (i := 545) (by decide +kernel)) rfl, rfl⟩, rfl, rfl, rfl, by decide +kernel⟩
theorem cl_10_83 : Cond.classLink RX10 83 (clC 6) ∈ lw_g := in_g (List.mem_of_getElem? (i := 501) (by decide +kernel)) rfl
theorem ins_6 : Cond.instantiable (clC 6) 6 ∈ lw_g := in_g (List.mem_of_getElem? (i := 502) (by decide +kernel)) rfl
theorem ini_6 : Cond.initialized (clC 6) ∈ lw_g := in_g (List.mem_of_getElem? (i := 119) (by decide +kernel)) rfl
theorem mi_10_85 : MI RX10 85 yX6_init cX6_init 2 0 := ⟨Or.inl (in_g (List.mem_of_getElem? (i := 503) (by decide +kernel)) rfl), in_g (List.mem_of_getElem? (i := 504) (by decide +kernel)) rfl, in_g (List.mem_of_getElem? (i := 119) (by decide +kernel)) rfl, in_g (List.mem_of_getElem? (i := 505) (by decide +kernel)) rfl, rfl, by decide +kernel, by decide +kernel, by decide +kernel⟩
theorem cf_10_86 : FPf RX10 86 10 12 (.object "TurfGiving$Past") := ⟨⟨by decide, by decide, in_g (List.mem_of_getElem? (i := 546) (by decide +kernel)) rfl, rfl⟩, rfl, rfl, rfl, by decide +kernel⟩
theorem cf_10_90 : FPf RX10 90 10 13 (.array .int) := ⟨⟨by decide, by decide, in_g (List.mem_of_getElem? (i := 547) (by decide +kernel)) rfl, rfl⟩, rfl, rfl, rfl, by decide +kernel⟩
theorem ci_10_94 : FPi RX10 94 10 14 := ⟨⟨⟨by decide, by decide, in_g (List.mem_of_getElem? (i := 548) (by decide +kernel)) rfl, rfl⟩, rfl, rfl⟩, by decide +kernel⟩
theorem ci_10_97 : FPi RX10 97 10 15 := ⟨⟨⟨by decide, by decide, in_g (List.mem_of_getElem? (i := 549) (by decide +kernel)) rfl, rfl⟩, rfl, rfl⟩, by decide +kernel⟩
theorem cf_10_100 : FPf RX10 100 10 16 (.array .int) := ⟨⟨by decide, by decide, in_g (List.mem_of_getElem? (i := 550) (by decide +kernel)) rfl, rfl⟩, rfl, rfl, rfl, by decide +kernel⟩
theorem ol_11 : Cond.methodLink RX11 7 objectInit ∈ lw_g := in_g (List.mem_of_getElem? (i := 1236) (by decide +kernel)) rfl
theorem cf_11_13 : FPf RX11 13 11 1 (.array .byte) := ⟨⟨by decide, by decide, in_g (List.mem_of_getElem? (i := 1256) (by decide +kernel)) rfl, rfl⟩, rfl, rfl, rfl, by decide +kernel⟩
theorem cf_11_17 : FPf RX11 17 11 3 (.array .byte) := ⟨⟨by decide, by decide, in_g (List.mem_of_getElem? (i := 1258) (by decide +kernel)) rfl, rfl⟩, rfl, rfl, rfl, by decide +kernel⟩
theorem cf_11_20 : FPf RX11 20 11 5 (.array .int) := ⟨⟨by decide, by decide, in_g (List.mem_of_getElem? (i := 1260) (by decide +kernel)) rfl, rfl⟩, rfl, rfl, rfl, by decide +kernel⟩
theorem cf_11_24 : FPf RX11 24 11 6 (.array .int) := ⟨⟨by decide, by decide, in_g (List.mem_of_getElem? (i := 1261) (by decide +kernel)) rfl, rfl⟩, rfl, rfl, rfl, by decide +kernel⟩
theorem cf_11_27 : FPf RX11 27 11 7 (.array .int) := ⟨⟨by decide, by decide, in_g (List.mem_of_getElem? (i := 1262) (by decide +kernel)) rfl, rfl⟩, rfl, rfl, rfl, by decide +kernel⟩
theorem cf_11_30 : FPf RX11 30 11 8 (.array .long) := ⟨⟨by decide, by decide, in_g (List.mem_of_getElem? (i := 1263) (by decide +kernel)) rfl, rfl⟩, rfl, rfl, rfl, by decide +kernel⟩
theorem cf_11_34 : FPf RX11 34 11 9 (.array .long) := ⟨⟨by decide, by decide, in_g (List.mem_of_getElem? (i := 1264) (by decide +kernel)) rfl, rfl⟩, rfl, rfl, rfl, by decide +kernel⟩
theorem ci_11_37 : FPi RX11 37 11 17 := ⟨⟨⟨by decide, by decide, in_g (List.mem_of_getElem? (i := 1272) (by decide +kernel)) rfl, rfl⟩, rfl, rfl⟩, by decide +kernel⟩
theorem cf_11_40 : FPf RX11 40 11 21 (.array .long) := ⟨⟨by decide, by decide, in_g (List.mem_of_getElem? (i := 1276) (by decide +kernel)) rfl, rfl⟩, rfl, rfl, rfl, by decide +kernel⟩
theorem cf_11_43 : FPf RX11 43 11 22 (.array .int) := ⟨⟨by decide, by decide, in_g (List.mem_of_getElem? (i := 1277) (by decide +kernel)) rfl, rfl⟩, rfl, rfl, rfl, by decide +kernel⟩
theorem cf_11_46 : FPf RX11 46 11 23 (.array .int) := ⟨⟨by decide, by decide, in_g (List.mem_of_getElem? (i := 1278) (by decide +kernel)) rfl, rfl⟩, rfl, rfl, rfl, by decide +kernel⟩
theorem cf_11_49 : FPf RX11 49 11 24 (.array .int) := ⟨⟨by decide, by decide, in_g (List.mem_of_getElem? (i := 1279) (by decide +kernel)) rfl, rfl⟩, rfl, rfl, rfl, by decide +kernel⟩
theorem cf_11_52 : FPf RX11 52 11 25 (.array .int) := ⟨⟨by decide, by decide, in_g (List.mem_of_getElem? (i := 1280) (by decide +kernel)) rfl, rfl⟩, rfl, rfl, rfl, by decide +kernel⟩
theorem cf_11_55 : FPf RX11 55 11 26 (.array .int) := ⟨⟨by decide, by decide, in_g (List.mem_of_getElem? (i := 1281) (by decide +kernel)) rfl, rfl⟩, rfl, rfl, rfl, by decide +kernel⟩
theorem cf_11_58 : FPf RX11 58 11 27 (.array .int) := ⟨⟨by decide, by decide, in_g (List.mem_of_getElem? (i := 1282) (by decide +kernel)) rfl, rfl⟩, rfl, rfl, rfl, by decide +kernel⟩
theorem cf_11_61 : FPf RX11 61 11 28 (.array .int) := ⟨⟨by decide, by decide, in_g (List.mem_of_getElem? (i := 1283) (by decide +kernel)) rfl, rfl⟩, rfl, rfl, rfl, by decide +kernel⟩
theorem cf_11_64 : FPf RX11 64 11 29 (.array .int) := ⟨⟨by decide, by decide, in_g (List.mem_of_getElem? (i := 1284) (by decide +kernel)) rfl, rfl⟩, rfl, rfl, rfl, by decide +kernel⟩
theorem cf_11_67 : FPf RX11 67 11 30 (.array .int) := ⟨⟨by decide, by decide, in_g (List.mem_of_getElem? (i := 1285) (by decide +kernel)) rfl, rfl⟩, rfl, rfl, rfl, by decide +kernel⟩
theorem cf_11_70 : FPf RX11 70 11 31 (.array .int) := ⟨⟨by decide, by decide, in_g (List.mem_of_getElem? (i := 1286) (by decide +kernel)) rfl, rfl⟩, rfl, rfl, rfl, by decide +kernel⟩
theorem cf_11_73 : FPf RX11 73 11 32 (.array .int) := ⟨⟨by decide, by decide, in_g (List.mem_of_getElem? (i := 1287) (by decide +kernel)) rfl, rfl⟩, rfl, rfl, rfl, by decide +kernel⟩
theorem cf_11_76 : FPf RX11 76 11 33 (.array .int) := ⟨⟨by decide, by decide, in_g (List.mem_of_getElem? (i := 1288) (by decide +kernel)) rfl, rfl⟩, rfl, rfl, rfl, by decide +kernel⟩
theorem cf_11_79 : FPf RX11 79 11 34 (.array .int) := ⟨⟨by decide, by decide, in_g (List.mem_of_getElem? (i := 1289) (by decide +kernel)) rfl, rfl⟩, rfl, rfl, rfl, by decide +kernel⟩
theorem cf_11_82 : FPf RX11 82 11 35 (.array .int) := ⟨⟨by decide, by decide, in_g (List.mem_of_getElem? (i := 1290) (by decide +kernel)) rfl, rfl⟩, rfl, rfl, rfl, by decide +kernel⟩
theorem cf_11_85 : FPf RX11 85 11 36 (.array .int) := ⟨⟨by decide, by decide, in_g (List.mem_of_getElem? (i := 1291) (by decide +kernel)) rfl, rfl⟩, rfl, rfl, rfl, by decide +kernel⟩
theorem cf_11_88 : FPf RX11 88 11 37 (.array .int) := ⟨⟨by decide, by decide, in_g (List.mem_of_getElem? (i := 1292) (by decide +kernel)) rfl, rfl⟩, rfl, rfl, rfl, by decide +kernel⟩
theorem cf_11_91 : FPf RX11 91 11 38 (.array .int) := ⟨⟨by decide, by decide, in_g (List.mem_of_getElem? (i := 1293) (by decide +kernel)) rfl, rfl⟩, rfl, rfl, rfl, by decide +kernel⟩
theorem cf_11_94 : FPf RX11 94 11 39 (.array .int) := ⟨⟨by decide, by decide, in_g (List.mem_of_getElem? (i := 1294) (by decide +kernel)) rfl, rfl⟩, rfl, rfl, rfl, by decide +kernel⟩
theorem cf_11_97 : FPf RX11 97 11 40 (.array .int) := ⟨⟨by decide, by decide, in_g (List.mem_of_getElem? (i := 1295) (by decide +kernel)) rfl, rfl⟩, rfl, rfl, rfl, by decide +kernel⟩
theorem cf_11_100 : FPf RX11 100 11 42 (.array .boolean) := ⟨⟨by decide, by decide, in_g (List.mem_of_getElem? (i := 1297) (by decide +kernel)) rfl, rfl⟩, rfl, rfl, rfl, by decide +kernel⟩
theorem cf_11_104 : FPf RX11 104 11 43 (.array .int) := ⟨⟨by decide, by decide, in_g (List.mem_of_getElem? (i := 1298) (by decide +kernel)) rfl, rfl⟩, rfl, rfl, rfl, by decide +kernel⟩
theorem cf_11_107 : FPf RX11 107 11 44 (.array .int) := ⟨⟨by decide, by decide, in_g (List.mem_of_getElem? (i := 1299) (by decide +kernel)) rfl, rfl⟩, rfl, rfl, rfl, by decide +kernel⟩
theorem cf_11_110 : FPf RX11 110 11 45 (.array .int) := ⟨⟨by decide, by decide, in_g (List.mem_of_getElem? (i := 1300) (by decide +kernel)) rfl, rfl⟩, rfl, rfl, rfl, by decide +kernel⟩
theorem cf_11_113 : FPf RX11 113 11 46 (.array .int) := ⟨⟨by decide, by decide, in_g (List.mem_of_getElem? (i := 1301) (by decide +kernel)) rfl, rfl⟩, rfl, rfl, rfl, by decide +kernel⟩
theorem cf_11_116 : FPf RX11 116 11 48 (.array .int) := ⟨⟨by decide, by decide, in_g (List.mem_of_getElem? (i := 1303) (by decide +kernel)) rfl, rfl⟩, rfl, rfl, rfl, by decide +kernel⟩
theorem cf_11_119 : FPf RX11 119 11 49 (.array .int) := ⟨⟨by decide, by decide, in_g (List.mem_of_getElem? (i := 1304) (by decide +kernel)) rfl, rfl⟩, rfl, rfl, rfl, by decide +kernel⟩
theorem cf_11_122 : FPf RX11 122 11 50 (.array .int) := ⟨⟨by decide, by decide, in_g (List.mem_of_getElem? (i := 1305) (by decide +kernel)) rfl, rfl⟩, rfl, rfl, rfl, by decide +kernel⟩
theorem cf_11_125 : FPf RX11 125 11 52 (.array .int) := ⟨⟨by decide, by decide, in_g (List.mem_of_getElem? (i := 1307) (by decide +kernel)) rfl, rfl⟩, rfl, rfl, rfl, by decide +kernel⟩
theorem cf_11_128 : FPf RX11 128 11 53 (.array .int) := ⟨⟨by decide, by decide, in_g (List.mem_of_getElem? (i := 1308) (by decide +kernel)) rfl, rfl⟩, rfl, rfl, rfl, by decide +kernel⟩
theorem cf_11_131 : FPf RX11 131 11 55 (.array .int) := ⟨⟨by decide, by decide, in_g (List.mem_of_getElem? (i := 1310) (by decide +kernel)) rfl, rfl⟩, rfl, rfl, rfl, by decide +kernel⟩
theorem cf_11_134 : FPf RX11 134 11 56 (.array .int) := ⟨⟨by decide, by decide, in_g (List.mem_of_getElem? (i := 1311) (by decide +kernel)) rfl, rfl⟩, rfl, rfl, rfl, by decide +kernel⟩
theorem cf_11_137 : FPf RX11 137 11 60 (.array .int) := ⟨⟨by decide, by decide, in_g (List.mem_of_getElem? (i := 1315) (by decide +kernel)) rfl, rfl⟩, rfl, rfl, rfl, by decide +kernel⟩
theorem cf_11_140 : FPf RX11 140 11 61 (.array .boolean) := ⟨⟨by decide, by decide, in_g (List.mem_of_getElem? (i := 1316) (by decide +kernel)) rfl, rfl⟩, rfl, rfl, rfl, by decide +kernel⟩
theorem cf_11_143 : FPf RX11 143 11 62 (.array .boolean) := ⟨⟨by decide, by decide, in_g (List.mem_of_getElem? (i := 1317) (by decide +kernel)) rfl, rfl⟩, rfl, rfl, rfl, by decide +kernel⟩
theorem cf_11_146 : FPf RX11 146 11 64 (.array .int) := ⟨⟨by decide, by decide, in_g (List.mem_of_getElem? (i := 1319) (by decide +kernel)) rfl, rfl⟩, rfl, rfl, rfl, by decide +kernel⟩
theorem cf_11_149 : FPf RX11 149 11 65 (.array .int) := ⟨⟨by decide, by decide, in_g (List.mem_of_getElem? (i := 1320) (by decide +kernel)) rfl, rfl⟩, rfl, rfl, rfl, by decide +kernel⟩
theorem cf_11_152 : FPf RX11 152 11 66 (.array .int) := ⟨⟨by decide, by decide, in_g (List.mem_of_getElem? (i := 1321) (by decide +kernel)) rfl, rfl⟩, rfl, rfl, rfl, by decide +kernel⟩
theorem cf_11_155 : FPf RX11 155 11 67 (.array .int) := ⟨⟨by decide, by decide, in_g (List.mem_of_getElem? (i := 1322) (by decide +kernel)) rfl, rfl⟩, rfl, rfl, rfl, by decide +kernel⟩
theorem cf_11_158 : FPf RX11 158 11 68 (.array .int) := ⟨⟨by decide, by decide, in_g (List.mem_of_getElem? (i := 1323) (by decide +kernel)) rfl, rfl⟩, rfl, rfl, rfl, by decide +kernel⟩
theorem cf_11_161 : FPf RX11 161 11 70 (.array .int) := ⟨⟨by decide, by decide, in_g (List.mem_of_getElem? (i := 1325) (by decide +kernel)) rfl, rfl⟩, rfl, rfl, rfl, by decide +kernel⟩
theorem cf_11_164 : FPf RX11 164 11 71 (.array .int) := ⟨⟨by decide, by decide, in_g (List.mem_of_getElem? (i := 1326) (by decide +kernel)) rfl, rfl⟩, rfl, rfl, rfl, by decide +kernel⟩
theorem cf_11_167 : FPf RX11 167 11 72 (.array .boolean) := ⟨⟨by decide, by decide, in_g (List.mem_of_getElem? (i := 1327) (by decide +kernel)) rfl, rfl⟩, rfl, rfl, rfl, by decide +kernel⟩
theorem cf_11_170 : FPf RX11 170 11 73 (.array .int) := ⟨⟨by decide, by decide, in_g (List.mem_of_getElem? (i := 1328) (by decide +kernel)) rfl, rfl⟩, rfl, rfl, rfl, by decide +kernel⟩
theorem ms_11_177 : MS RX11 177 yX11_word cX11_word 7 (some .long) 7 := ⟨in_g (List.mem_of_getElem? (i := 1241) (by decide +kernel)) rfl, in_g (List.mem_of_getElem? (i := 1242) (by decide +kernel)) rfl, in_g (List.mem_of_getElem? (i := 120) (by decide +kernel)) rfl, in_g (List.mem_of_getElem? (i := 1243) (by decide +kernel)) rfl, by decide +kernel, by decide +kernel, by decide +kernel⟩
