theorem m_6 : (Cond.initialized "HeaderDeskModel") ∈ wAll := List.mem_filter.mpr ⟨List.mem_append_right _ (List.mem_of_getElem? (i := 6) (by decide +kernel)), by decide +kernel⟩
theorem m_414 : (Cond.instanceMethod ({ cls := "HeaderDeskModel", name := "<init>", desc := "()V" } : Jvm.MethodName)) ∈ wAll := List.mem_filter.mpr ⟨List.mem_append_right _ (List.mem_of_getElem? (i := 414) (by decide +kernel)), by decide +kernel⟩
theorem m_415 : (Cond.code ({ cls := "HeaderDeskModel", name := "<init>", desc := "()V" } : Jvm.MethodName) prog_7_method_1_code (1 : Nat) (Option.none : Option Jvm.ClassFile.FieldType)) ∈ wAll := List.mem_filter.mpr ⟨List.mem_append_right _ (List.mem_of_getElem? (i := 415) (by decide +kernel)), by decide +kernel⟩
theorem m_416 : (Cond.methodLink "HeaderDeskModel" (1 : Nat) ({ cls := "java/lang/Object", name := "<init>", desc := "()V" } : Jvm.MethodName)) ∈ wAll := List.mem_filter.mpr ⟨List.mem_append_right _ (List.mem_of_getElem? (i := 416) (by decide +kernel)), by decide +kernel⟩
theorem m_417 : (Cond.fieldLink "HeaderDeskModel" (7 : Nat) "HeaderDeskModel" "thrownCode" "I") ∈ wAll := List.mem_filter.mpr ⟨List.mem_append_right _ (List.mem_of_getElem? (i := 417) (by decide +kernel)), by decide +kernel⟩
theorem m_418 : (Cond.fieldLink "HeaderDeskModel" (13 : Nat) "HeaderDeskModel" "put" "[I") ∈ wAll := List.mem_filter.mpr ⟨List.mem_append_right _ (List.mem_of_getElem? (i := 418) (by decide +kernel)), by decide +kernel⟩
theorem m_419 : (Cond.fieldLink "HeaderDeskModel" (17 : Nat) "HeaderDeskModel" "puts" "I") ∈ wAll := List.mem_filter.mpr ⟨List.mem_append_right _ (List.mem_of_getElem? (i := 419) (by decide +kernel)), by decide +kernel⟩
theorem m_420 : (Cond.fieldLink "HeaderDeskModel" (20 : Nat) "HeaderDeskModel" "text" "[I") ∈ wAll := List.mem_filter.mpr ⟨List.mem_append_right _ (List.mem_of_getElem? (i := 420) (by decide +kernel)), by decide +kernel⟩
theorem m_421 : (Cond.fieldLink "HeaderDeskModel" (23 : Nat) "HeaderDeskModel" "bytes" "I") ∈ wAll := List.mem_filter.mpr ⟨List.mem_append_right _ (List.mem_of_getElem? (i := 421) (by decide +kernel)), by decide +kernel⟩
theorem m_422 : (Cond.fieldLink "HeaderDeskModel" (26 : Nat) "HeaderDeskModel" "nameFrom" "I") ∈ wAll := List.mem_filter.mpr ⟨List.mem_append_right _ (List.mem_of_getElem? (i := 422) (by decide +kernel)), by decide +kernel⟩
theorem m_423 : (Cond.fieldLink "HeaderDeskModel" (29 : Nat) "HeaderDeskModel" "names" "I") ∈ wAll := List.mem_filter.mpr ⟨List.mem_append_right _ (List.mem_of_getElem? (i := 423) (by decide +kernel)), by decide +kernel⟩
theorem m_424 : (Cond.fieldLink "HeaderDeskModel" (32 : Nat) "HeaderDeskModel" "value" "[I") ∈ wAll := List.mem_filter.mpr ⟨List.mem_append_right _ (List.mem_of_getElem? (i := 424) (by decide +kernel)), by decide +kernel⟩
theorem m_425 : (Cond.fieldLink "HeaderDeskModel" (35 : Nat) "HeaderDeskModel" "values" "I") ∈ wAll := List.mem_filter.mpr ⟨List.mem_append_right _ (List.mem_of_getElem? (i := 425) (by decide +kernel)), by decide +kernel⟩
theorem m_426 : (Cond.fieldLink "HeaderDeskModel" (38 : Nat) "HeaderDeskModel" "behind" "I") ∈ wAll := List.mem_filter.mpr ⟨List.mem_append_right _ (List.mem_of_getElem? (i := 426) (by decide +kernel)), by decide +kernel⟩
theorem m_427 : (Cond.fieldLink "HeaderDeskModel" (41 : Nat) "HeaderDeskModel" "part" "[I") ∈ wAll := List.mem_filter.mpr ⟨List.mem_append_right _ (List.mem_of_getElem? (i := 427) (by decide +kernel)), by decide +kernel⟩
theorem m_428 : (Cond.fieldLink "HeaderDeskModel" (44 : Nat) "HeaderDeskModel" "parts" "I") ∈ wAll := List.mem_filter.mpr ⟨List.mem_append_right _ (List.mem_of_getElem? (i := 428) (by decide +kernel)), by decide +kernel⟩
theorem m_455 : (Cond.instanceMethod ({ cls := "HeaderDeskModel", name := "put", desc := "(JI)Z" } : Jvm.MethodName)) ∈ wAll := List.mem_filter.mpr ⟨List.mem_append_right _ (List.mem_of_getElem? (i := 455) (by decide +kernel)), by decide +kernel⟩
theorem m_456 : (Cond.selects "HeaderDeskModel" ({ cls := "HeaderDeskModel", name := "put", desc := "(JI)Z" } : Jvm.MethodName) ({ cls := "HeaderDeskModel", name := "put", desc := "(JI)Z" } : Jvm.MethodName)) ∈ wAll := List.mem_filter.mpr ⟨List.mem_append_right _ (List.mem_of_getElem? (i := 456) (by decide +kernel)), by decide +kernel⟩
theorem m_457 : (Cond.code ({ cls := "HeaderDeskModel", name := "put", desc := "(JI)Z" } : Jvm.MethodName) prog_7_method_16_code (5 : Nat) (Option.some Jvm.ClassFile.FieldType.boolean)) ∈ wAll := List.mem_filter.mpr ⟨List.mem_append_right _ (List.mem_of_getElem? (i := 457) (by decide +kernel)), by decide +kernel⟩
theorem m_459 : (Cond.instanceMethod ({ cls := "HeaderDeskModel", name := "read", desc := "()I" } : Jvm.MethodName)) ∈ wAll := List.mem_filter.mpr ⟨List.mem_append_right _ (List.mem_of_getElem? (i := 459) (by decide +kernel)), by decide +kernel⟩
theorem m_460 : (Cond.selects "HeaderDeskModel" ({ cls := "HeaderDeskModel", name := "read", desc := "()I" } : Jvm.MethodName) ({ cls := "HeaderDeskModel", name := "read", desc := "()I" } : Jvm.MethodName)) ∈ wAll := List.mem_filter.mpr ⟨List.mem_append_right _ (List.mem_of_getElem? (i := 460) (by decide +kernel)), by decide +kernel⟩
theorem m_461 : (Cond.code ({ cls := "HeaderDeskModel", name := "read", desc := "()I" } : Jvm.MethodName) prog_7_method_18_code (2 : Nat) (Option.some Jvm.ClassFile.FieldType.int)) ∈ wAll := List.mem_filter.mpr ⟨List.mem_append_right _ (List.mem_of_getElem? (i := 461) (by decide +kernel)), by decide +kernel⟩
theorem m_462 : (Cond.methodLink "HeaderDeskModel" (81 : Nat) ({ cls := "HeaderDeskModel", name := "fields", desc := "()I" } : Jvm.MethodName)) ∈ wAll := List.mem_filter.mpr ⟨List.mem_append_right _ (List.mem_of_getElem? (i := 462) (by decide +kernel)), by decide +kernel⟩
theorem m_464 : (Cond.instanceMethod ({ cls := "HeaderDeskModel", name := "fields", desc := "()I" } : Jvm.MethodName)) ∈ wAll := List.mem_filter.mpr ⟨List.mem_append_right _ (List.mem_of_getElem? (i := 464) (by decide +kernel)), by decide +kernel⟩
theorem m_465 : (Cond.code ({ cls := "HeaderDeskModel", name := "fields", desc := "()I" } : Jvm.MethodName) prog_7_method_17_code (2 : Nat) (Option.some Jvm.ClassFile.FieldType.int)) ∈ wAll := List.mem_filter.mpr ⟨List.mem_append_right _ (List.mem_of_getElem? (i := 465) (by decide +kernel)), by decide +kernel⟩
theorem m_466 : (Cond.methodLink "HeaderDeskModel" (78 : Nat) ({ cls := "HeaderDeskModel", name := "look", desc := "(I)Z" } : Jvm.MethodName)) ∈ wAll := List.mem_filter.mpr ⟨List.mem_append_right _ (List.mem_of_getElem? (i := 466) (by decide +kernel)), by decide +kernel⟩
theorem m_468 : (Cond.instanceMethod ({ cls := "HeaderDeskModel", name := "look", desc := "(I)Z" } : Jvm.MethodName)) ∈ wAll := List.mem_filter.mpr ⟨List.mem_append_right _ (List.mem_of_getElem? (i := 468) (by decide +kernel)), by decide +kernel⟩
theorem m_469 : (Cond.code ({ cls := "HeaderDeskModel", name := "look", desc := "(I)Z" } : Jvm.MethodName) prog_7_method_5_code (4 : Nat) (Option.some Jvm.ClassFile.FieldType.boolean)) ∈ wAll := List.mem_filter.mpr ⟨List.mem_append_right _ (List.mem_of_getElem? (i := 469) (by decide +kernel)), by decide +kernel⟩
theorem m_470 : (Cond.methodLink "HeaderDeskModel" (55 : Nat) ({ cls := "HeaderDeskModel", name := "colon", desc := "(I)I" } : Jvm.MethodName)) ∈ wAll := List.mem_filter.mpr ⟨List.mem_append_right _ (List.mem_of_getElem? (i := 470) (by decide +kernel)), by decide +kernel⟩
theorem m_472 : (Cond.instanceMethod ({ cls := "HeaderDeskModel", name := "colon", desc := "(I)I" } : Jvm.MethodName)) ∈ wAll := List.mem_filter.mpr ⟨List.mem_append_right _ (List.mem_of_getElem? (i := 472) (by decide +kernel)), by decide +kernel⟩
theorem m_473 : (Cond.code ({ cls := "HeaderDeskModel", name := "colon", desc := "(I)I" } : Jvm.MethodName) prog_7_method_4_code (5 : Nat) (Option.some Jvm.ClassFile.FieldType.int)) ∈ wAll := List.mem_filter.mpr ⟨List.mem_append_right _ (List.mem_of_getElem? (i := 473) (by decide +kernel)), by decide +kernel⟩
theorem m_474 : (Cond.methodLink "HeaderDeskModel" (47 : Nat) ({ cls := "HeaderDeskModel", name := "lineEnd", desc := "(I)I" } : Jvm.MethodName)) ∈ wAll := List.mem_filter.mpr ⟨List.mem_append_right _ (List.mem_of_getElem? (i := 474) (by decide +kernel)), by decide +kernel⟩
theorem m_476 : (Cond.instanceMethod ({ cls := "HeaderDeskModel", name := "lineEnd", desc := "(I)I" } : Jvm.MethodName)) ∈ wAll := List.mem_filter.mpr ⟨List.mem_append_right _ (List.mem_of_getElem? (i := 476) (by decide +kernel)), by decide +kernel⟩
theorem m_477 : (Cond.code ({ cls := "HeaderDeskModel", name := "lineEnd", desc := "(I)I" } : Jvm.MethodName) prog_7_method_3_code (3 : Nat) (Option.some Jvm.ClassFile.FieldType.int)) ∈ wAll := List.mem_filter.mpr ⟨List.mem_append_right _ (List.mem_of_getElem? (i := 477) (by decide +kernel)), by decide +kernel⟩
theorem m_478 : (Cond.methodLink "HeaderDeskModel" (51 : Nat) ({ cls := "HeaderDeskModel", name := "blank", desc := "(I)Z" } : Jvm.MethodName)) ∈ wAll := List.mem_filter.mpr ⟨List.mem_append_right _ (List.mem_of_getElem? (i := 478) (by decide +kernel)), by decide +kernel⟩
theorem m_479 : (Cond.static ({ cls := "HeaderDeskModel", name := "blank", desc := "(I)Z" } : Jvm.MethodName)) ∈ wAll := List.mem_filter.mpr ⟨List.mem_append_right _ (List.mem_of_getElem? (i := 479) (by decide +kernel)), by decide +kernel⟩
theorem m_480 : (Cond.code ({ cls := "HeaderDeskModel", name := "blank", desc := "(I)Z" } : Jvm.MethodName) prog_7_method_2_code (1 : Nat) (Option.some Jvm.ClassFile.FieldType.boolean)) ∈ wAll := List.mem_filter.mpr ⟨List.mem_append_right _ (List.mem_of_getElem? (i := 480) (by decide +kernel)), by decide +kernel⟩
theorem m_481 : (Cond.methodLink "HeaderDeskModel" (58 : Nat) ({ cls := "HeaderDeskModel", name := "takeLine", desc := "(I)V" } : Jvm.MethodName)) ∈ wAll := List.mem_filter.mpr ⟨List.mem_append_right _ (List.mem_of_getElem? (i := 481) (by decide +kernel)), by decide +kernel⟩
theorem m_483 : (Cond.instanceMethod ({ cls := "HeaderDeskModel", name := "takeLine", desc := "(I)V" } : Jvm.MethodName)) ∈ wAll := List.mem_filter.mpr ⟨List.mem_append_right _ (List.mem_of_getElem? (i := 483) (by decide +kernel)), by decide +kernel⟩
theorem m_484 : (Cond.code ({ cls := "HeaderDeskModel", name := "takeLine", desc := "(I)V" } : Jvm.MethodName) prog_7_method_6_code (4 : Nat) (Option.none : Option Jvm.ClassFile.FieldType)) ∈ wAll := List.mem_filter.mpr ⟨List.mem_append_right _ (List.mem_of_getElem? (i := 484) (by decide +kernel)), by decide +kernel⟩
theorem m_485 : (Cond.methodLink "HeaderDeskModel" (62 : Nat) ({ cls := "HeaderDeskModel", name := "trim", desc := "()V" } : Jvm.MethodName)) ∈ wAll := List.mem_filter.mpr ⟨List.mem_append_right _ (List.mem_of_getElem? (i := 485) (by decide +kernel)), by decide +kernel⟩
theorem m_487 : (Cond.instanceMethod ({ cls := "HeaderDeskModel", name := "trim", desc := "()V" } : Jvm.MethodName)) ∈ wAll := List.mem_filter.mpr ⟨List.mem_append_right _ (List.mem_of_getElem? (i := 487) (by decide +kernel)), by decide +kernel⟩
theorem m_488 : (Cond.code ({ cls := "HeaderDeskModel", name := "trim", desc := "()V" } : Jvm.MethodName) prog_7_method_7_code (3 : Nat) (Option.none : Option Jvm.ClassFile.FieldType)) ∈ wAll := List.mem_filter.mpr ⟨List.mem_append_right _ (List.mem_of_getElem? (i := 488) (by decide +kernel)), by decide +kernel⟩
theorem m_490 : (Cond.instanceMethod ({ cls := "HeaderDeskModel", name := "field", desc := "(II)I" } : Jvm.MethodName)) ∈ wAll := List.mem_filter.mpr ⟨List.mem_append_right _ (List.mem_of_getElem? (i := 490) (by decide +kernel)), by decide +kernel⟩
theorem m_491 : (Cond.selects "HeaderDeskModel" ({ cls := "HeaderDeskModel", name := "field", desc := "(II)I" } : Jvm.MethodName) ({ cls := "HeaderDeskModel", name := "field", desc := "(II)I" } : Jvm.MethodName)) ∈ wAll := List.mem_filter.mpr ⟨List.mem_append_right _ (List.mem_of_getElem? (i := 491) (by decide +kernel)), by decide +kernel⟩
theorem m_492 : (Cond.code ({ cls := "HeaderDeskModel", name := "field", desc := "(II)I" } : Jvm.MethodName) prog_7_method_19_code (3 : Nat) (Option.some Jvm.ClassFile.FieldType.int)) ∈ wAll := List.mem_filter.mpr ⟨List.mem_append_right _ (List.mem_of_getElem? (i := 492) (by decide +kernel)), by decide +kernel⟩
theorem m_493 : (Cond.methodLink "HeaderDeskModel" (84 : Nat) ({ cls := "HeaderDeskModel", name := "addresses", desc := "()I" } : Jvm.MethodName)) ∈ wAll := List.mem_filter.mpr ⟨List.mem_append_right _ (List.mem_of_getElem? (i := 493) (by decide +kernel)), by decide +kernel⟩
theorem m_495 : (Cond.instanceMethod ({ cls := "HeaderDeskModel", name := "addresses", desc := "()I" } : Jvm.MethodName)) ∈ wAll := List.mem_filter.mpr ⟨List.mem_append_right _ (List.mem_of_getElem? (i := 495) (by decide +kernel)), by decide +kernel⟩
theorem m_496 : (Cond.code ({ cls := "HeaderDeskModel", name := "addresses", desc := "()I" } : Jvm.MethodName) prog_7_method_13_code (3 : Nat) (Option.some Jvm.ClassFile.FieldType.int)) ∈ wAll := List.mem_filter.mpr ⟨List.mem_append_right _ (List.mem_of_getElem? (i := 496) (by decide +kernel)), by decide +kernel⟩
theorem m_497 : (Cond.methodLink "HeaderDeskModel" (71 : Nat) ({ cls := "HeaderDeskModel", name := "onePart", desc := "(I)I" } : Jvm.MethodName)) ∈ wAll := List.mem_filter.mpr ⟨List.mem_append_right _ (List.mem_of_getElem? (i := 497) (by decide +kernel)), by decide +kernel⟩
theorem m_499 : (Cond.instanceMethod ({ cls := "HeaderDeskModel", name := "onePart", desc := "(I)I" } : Jvm.MethodName)) ∈ wAll := List.mem_filter.mpr ⟨List.mem_append_right _ (List.mem_of_getElem? (i := 499) (by decide +kernel)), by decide +kernel⟩
theorem m_500 : (Cond.code ({ cls := "HeaderDeskModel", name := "onePart", desc := "(I)I" } : Jvm.MethodName) prog_7_method_12_code (10 : Nat) (Option.some Jvm.ClassFile.FieldType.int)) ∈ wAll := List.mem_filter.mpr ⟨List.mem_append_right _ (List.mem_of_getElem? (i := 500) (by decide +kernel)), by decide +kernel⟩
theorem m_501 : (Cond.methodLink "HeaderDeskModel" (74 : Nat) ({ cls := "HeaderDeskModel", name := "at", desc := "()I" } : Jvm.MethodName)) ∈ wAll := List.mem_filter.mpr ⟨List.mem_append_right _ (List.mem_of_getElem? (i := 501) (by decide +kernel)), by decide +kernel⟩
theorem m_503 : (Cond.instanceMethod ({ cls := "HeaderDeskModel", name := "at", desc := "()I" } : Jvm.MethodName)) ∈ wAll := List.mem_filter.mpr ⟨List.mem_append_right _ (List.mem_of_getElem? (i := 503) (by decide +kernel)), by decide +kernel⟩
theorem m_504 : (Cond.code ({ cls := "HeaderDeskModel", name := "at", desc := "()I" } : Jvm.MethodName) prog_7_method_10_code (6 : Nat) (Option.some Jvm.ClassFile.FieldType.int)) ∈ wAll := List.mem_filter.mpr ⟨List.mem_append_right _ (List.mem_of_getElem? (i := 504) (by decide +kernel)), by decide +kernel⟩
theorem m_505 : (Cond.methodLink "HeaderDeskModel" (68 : Nat) ({ cls := "HeaderDeskModel", name := "local", desc := "(I)Z" } : Jvm.MethodName)) ∈ wAll := List.mem_filter.mpr ⟨List.mem_append_right _ (List.mem_of_getElem? (i := 505) (by decide +kernel)), by decide +kernel⟩
theorem m_506 : (Cond.static ({ cls := "HeaderDeskModel", name := "local", desc := "(I)Z" } : Jvm.MethodName)) ∈ wAll := List.mem_filter.mpr ⟨List.mem_append_right _ (List.mem_of_getElem? (i := 506) (by decide +kernel)), by decide +kernel⟩
theorem m_507 : (Cond.code ({ cls := "HeaderDeskModel", name := "local", desc := "(I)Z" } : Jvm.MethodName) prog_7_method_9_code (1 : Nat) (Option.some Jvm.ClassFile.FieldType.boolean)) ∈ wAll := List.mem_filter.mpr ⟨List.mem_append_right _ (List.mem_of_getElem? (i := 507) (by decide +kernel)), by decide +kernel⟩
theorem m_508 : (Cond.methodLink "HeaderDeskModel" (65 : Nat) ({ cls := "HeaderDeskModel", name := "letter", desc := "(I)Z" } : Jvm.MethodName)) ∈ wAll := List.mem_filter.mpr ⟨List.mem_append_right _ (List.mem_of_getElem? (i := 508) (by decide +kernel)), by decide +kernel⟩
theorem m_509 : (Cond.static ({ cls := "HeaderDeskModel", name := "letter", desc := "(I)Z" } : Jvm.MethodName)) ∈ wAll := List.mem_filter.mpr ⟨List.mem_append_right _ (List.mem_of_getElem? (i := 509) (by decide +kernel)), by decide +kernel⟩
theorem m_510 : (Cond.code ({ cls := "HeaderDeskModel", name := "letter", desc := "(I)Z" } : Jvm.MethodName) prog_7_method_8_code (1 : Nat) (Option.some Jvm.ClassFile.FieldType.boolean)) ∈ wAll := List.mem_filter.mpr ⟨List.mem_append_right _ (List.mem_of_getElem? (i := 510) (by decide +kernel)), by decide +kernel⟩
theorem m_512 : (Cond.instanceMethod ({ cls := "HeaderDeskModel", name := "bytes", desc := "(III)J" } : Jvm.MethodName)) ∈ wAll := List.mem_filter.mpr ⟨List.mem_append_right _ (List.mem_of_getElem? (i := 512) (by decide +kernel)), by decide +kernel⟩
theorem m_513 : (Cond.selects "HeaderDeskModel" ({ cls := "HeaderDeskModel", name := "bytes", desc := "(III)J" } : Jvm.MethodName) ({ cls := "HeaderDeskModel", name := "bytes", desc := "(III)J" } : Jvm.MethodName)) ∈ wAll := List.mem_filter.mpr ⟨List.mem_append_right _ (List.mem_of_getElem? (i := 513) (by decide +kernel)), by decide +kernel⟩
theorem m_514 : (Cond.code ({ cls := "HeaderDeskModel", name := "bytes", desc := "(III)J" } : Jvm.MethodName) prog_7_method_20_code (5 : Nat) (Option.some Jvm.ClassFile.FieldType.long)) ∈ wAll := List.mem_filter.mpr ⟨List.mem_append_right _ (List.mem_of_getElem? (i := 514) (by decide +kernel)), by decide +kernel⟩
theorem m_515 : (Cond.constantLong "HeaderDeskModel" (87 : Nat) (-1 : Int64)) ∈ wAll := List.mem_filter.mpr ⟨List.mem_append_right _ (List.mem_of_getElem? (i := 515) (by decide +kernel)), by decide +kernel⟩
theorem m_516 : (Cond.methodLink "HeaderDeskModel" (89 : Nat) ({ cls := "HeaderDeskModel", name := "eight", desc := "([III)J" } : Jvm.MethodName)) ∈ wAll := List.mem_filter.mpr ⟨List.mem_append_right _ (List.mem_of_getElem? (i := 516) (by decide +kernel)), by decide +kernel⟩
theorem m_517 : (Cond.static ({ cls := "HeaderDeskModel", name := "eight", desc := "([III)J" } : Jvm.MethodName)) ∈ wAll := List.mem_filter.mpr ⟨List.mem_append_right _ (List.mem_of_getElem? (i := 517) (by decide +kernel)), by decide +kernel⟩
theorem m_518 : (Cond.code ({ cls := "HeaderDeskModel", name := "eight", desc := "([III)J" } : Jvm.MethodName) prog_7_method_14_code (6 : Nat) (Option.some Jvm.ClassFile.FieldType.long)) ∈ wAll := List.mem_filter.mpr ⟨List.mem_append_right _ (List.mem_of_getElem? (i := 518) (by decide +kernel)), by decide +kernel⟩
theorem m_520 : (Cond.instanceMethod ({ cls := "HeaderDeskModel", name := "address", desc := "(III)J" } : Jvm.MethodName)) ∈ wAll := List.mem_filter.mpr ⟨List.mem_append_right _ (List.mem_of_getElem? (i := 520) (by decide +kernel)), by decide +kernel⟩
theorem m_521 : (Cond.selects "HeaderDeskModel" ({ cls := "HeaderDeskModel", name := "address", desc := "(III)J" } : Jvm.MethodName) ({ cls := "HeaderDeskModel", name := "address", desc := "(III)J" } : Jvm.MethodName)) ∈ wAll := List.mem_filter.mpr ⟨List.mem_append_right _ (List.mem_of_getElem? (i := 521) (by decide +kernel)), by decide +kernel⟩
theorem m_522 : (Cond.code ({ cls := "HeaderDeskModel", name := "address", desc := "(III)J" } : Jvm.MethodName) prog_7_method_21_code (4 : Nat) (Option.some Jvm.ClassFile.FieldType.long)) ∈ wAll := List.mem_filter.mpr ⟨List.mem_append_right _ (List.mem_of_getElem? (i := 522) (by decide +kernel)), by decide +kernel⟩
theorem m_523 : (Cond.methodLink "HeaderDeskModel" (93 : Nat) ({ cls := "HeaderDeskModel", name := "addressAt", desc := "(I)I" } : Jvm.MethodName)) ∈ wAll := List.mem_filter.mpr ⟨List.mem_append_right _ (List.mem_of_getElem? (i := 523) (by decide +kernel)), by decide +kernel⟩
theorem m_525 : (Cond.instanceMethod ({ cls := "HeaderDeskModel", name := "addressAt", desc := "(I)I" } : Jvm.MethodName)) ∈ wAll := List.mem_filter.mpr ⟨List.mem_append_right _ (List.mem_of_getElem? (i := 525) (by decide +kernel)), by decide +kernel⟩
theorem m_526 : (Cond.code ({ cls := "HeaderDeskModel", name := "addressAt", desc := "(I)I" } : Jvm.MethodName) prog_7_method_11_code (5 : Nat) (Option.some Jvm.ClassFile.FieldType.int)) ∈ wAll := List.mem_filter.mpr ⟨List.mem_append_right _ (List.mem_of_getElem? (i := 526) (by decide +kernel)), by decide +kernel⟩
theorem m_528 : (Cond.instanceMethod ({ cls := "HeaderDeskModel", name := "part", desc := "(III)I" } : Jvm.MethodName)) ∈ wAll := List.mem_filter.mpr ⟨List.mem_append_right _ (List.mem_of_getElem? (i := 528) (by decide +kernel)), by decide +kernel⟩
theorem m_529 : (Cond.selects "HeaderDeskModel" ({ cls := "HeaderDeskModel", name := "part", desc := "(III)I" } : Jvm.MethodName) ({ cls := "HeaderDeskModel", name := "part", desc := "(III)I" } : Jvm.MethodName)) ∈ wAll := List.mem_filter.mpr ⟨List.mem_append_right _ (List.mem_of_getElem? (i := 529) (by decide +kernel)), by decide +kernel⟩
theorem m_530 : (Cond.code ({ cls := "HeaderDeskModel", name := "part", desc := "(III)I" } : Jvm.MethodName) prog_7_method_22_code (5 : Nat) (Option.some Jvm.ClassFile.FieldType.int)) ∈ wAll := List.mem_filter.mpr ⟨List.mem_append_right _ (List.mem_of_getElem? (i := 530) (by decide +kernel)), by decide +kernel⟩
theorem m_532 : (Cond.instanceMethod ({ cls := "HeaderDeskModel", name := "find", desc := "(II)I" } : Jvm.MethodName)) ∈ wAll := List.mem_filter.mpr ⟨List.mem_append_right _ (List.mem_of_getElem? (i := 532) (by decide +kernel)), by decide +kernel⟩
theorem m_533 : (Cond.selects "HeaderDeskModel" ({ cls := "HeaderDeskModel", name := "find", desc := "(II)I" } : Jvm.MethodName) ({ cls := "HeaderDeskModel", name := "find", desc := "(II)I" } : Jvm.MethodName)) ∈ wAll := List.mem_filter.mpr ⟨List.mem_append_right _ (List.mem_of_getElem? (i := 533) (by decide +kernel)), by decide +kernel⟩
theorem m_534 : (Cond.code ({ cls := "HeaderDeskModel", name := "find", desc := "(II)I" } : Jvm.MethodName) prog_7_method_24_code (8 : Nat) (Option.some Jvm.ClassFile.FieldType.int)) ∈ wAll := List.mem_filter.mpr ⟨List.mem_append_right _ (List.mem_of_getElem? (i := 534) (by decide +kernel)), by decide +kernel⟩
theorem m_535 : (Cond.methodLink "HeaderDeskModel" (96 : Nat) ({ cls := "HeaderDeskModel", name := "low", desc := "(I)I" } : Jvm.MethodName)) ∈ wAll := List.mem_filter.mpr ⟨List.mem_append_right _ (List.mem_of_getElem? (i := 535) (by decide +kernel)), by decide +kernel⟩
theorem m_536 : (Cond.static ({ cls := "HeaderDeskModel", name := "low", desc := "(I)I" } : Jvm.MethodName)) ∈ wAll := List.mem_filter.mpr ⟨List.mem_append_right _ (List.mem_of_getElem? (i := 536) (by decide +kernel)), by decide +kernel⟩
theorem m_537 : (Cond.code ({ cls := "HeaderDeskModel", name := "low", desc := "(I)I" } : Jvm.MethodName) prog_7_method_23_code (1 : Nat) (Option.some Jvm.ClassFile.FieldType.int)) ∈ wAll := List.mem_filter.mpr ⟨List.mem_append_right _ (List.mem_of_getElem? (i := 537) (by decide +kernel)), by decide +kernel⟩
theorem m_539 : (Cond.instanceMethod ({ cls := "HeaderDeskModel", name := "count", desc := "(I)I" } : Jvm.MethodName)) ∈ wAll := List.mem_filter.mpr ⟨List.mem_append_right _ (List.mem_of_getElem? (i := 539) (by decide +kernel)), by decide +kernel⟩
theorem m_540 : (Cond.selects "HeaderDeskModel" ({ cls := "HeaderDeskModel", name := "count", desc := "(I)I" } : Jvm.MethodName) ({ cls := "HeaderDeskModel", name := "count", desc := "(I)I" } : Jvm.MethodName)) ∈ wAll := List.mem_filter.mpr ⟨List.mem_append_right _ (List.mem_of_getElem? (i := 540) (by decide +kernel)), by decide +kernel⟩
theorem m_541 : (Cond.code ({ cls := "HeaderDeskModel", name := "count", desc := "(I)I" } : Jvm.MethodName) prog_7_method_25_code (6 : Nat) (Option.some Jvm.ClassFile.FieldType.int)) ∈ wAll := List.mem_filter.mpr ⟨List.mem_append_right _ (List.mem_of_getElem? (i := 541) (by decide +kernel)), by decide +kernel⟩
theorem m_542 : (Cond.methodLink "HeaderDeskModel" (99 : Nat) ({ cls := "HeaderDeskModel", name := "field", desc := "(II)I" } : Jvm.MethodName)) ∈ wAll := List.mem_filter.mpr ⟨List.mem_append_right _ (List.mem_of_getElem? (i := 542) (by decide +kernel)), by decide +kernel⟩
theorem d_Mo_init_0 : decode prog_7_method_1_code 0 = .ok (.aload_n 0, 1) := by decide +kernel
theorem d_Mo_init_1 : decode prog_7_method_1_code 1 = .ok (.invokespecial 1, 3) := by decide +kernel
theorem d_Mo_init_4 : decode prog_7_method_1_code 4 = .ok (.aload_n 0, 1) := by decide +kernel
theorem d_Mo_init_5 : decode prog_7_method_1_code 5 = .ok (.iconst 0, 1) := by decide +kernel
theorem d_Mo_init_6 : decode prog_7_method_1_code 6 = .ok (.putfield 7, 3) := by decide +kernel
theorem d_Mo_init_9 : decode prog_7_method_1_code 9 = .ok (.aload_n 0, 1) := by decide +kernel
theorem d_Mo_init_10 : decode prog_7_method_1_code 10 = .ok (.sipush 300, 3) := by decide +kernel
theorem d_Mo_init_13 : decode prog_7_method_1_code 13 = .ok (.newarray .int, 2) := by decide +kernel
theorem d_Mo_init_15 : decode prog_7_method_1_code 15 = .ok (.putfield 13, 3) := by decide +kernel
theorem d_Mo_init_18 : decode prog_7_method_1_code 18 = .ok (.aload_n 0, 1) := by decide +kernel
theorem d_Mo_init_19 : decode prog_7_method_1_code 19 = .ok (.iconst 0, 1) := by decide +kernel
theorem d_Mo_init_20 : decode prog_7_method_1_code 20 = .ok (.putfield 17, 3) := by decide +kernel
theorem d_Mo_init_23 : decode prog_7_method_1_code 23 = .ok (.aload_n 0, 1) := by decide +kernel
theorem d_Mo_init_24 : decode prog_7_method_1_code 24 = .ok (.sipush 300, 3) := by decide +kernel
theorem d_Mo_init_27 : decode prog_7_method_1_code 27 = .ok (.newarray .int, 2) := by decide +kernel
theorem d_Mo_init_29 : decode prog_7_method_1_code 29 = .ok (.putfield 20, 3) := by decide +kernel
theorem d_Mo_init_32 : decode prog_7_method_1_code 32 = .ok (.aload_n 0, 1) := by decide +kernel
theorem d_Mo_init_33 : decode prog_7_method_1_code 33 = .ok (.iconst 0, 1) := by decide +kernel
theorem d_Mo_init_34 : decode prog_7_method_1_code 34 = .ok (.putfield 23, 3) := by decide +kernel
theorem d_Mo_init_37 : decode prog_7_method_1_code 37 = .ok (.aload_n 0, 1) := by decide +kernel
theorem d_Mo_init_38 : decode prog_7_method_1_code 38 = .ok (.iconst 0, 1) := by decide +kernel
theorem d_Mo_init_39 : decode prog_7_method_1_code 39 = .ok (.putfield 26, 3) := by decide +kernel
theorem d_Mo_init_42 : decode prog_7_method_1_code 42 = .ok (.aload_n 0, 1) := by decide +kernel
theorem d_Mo_init_43 : decode prog_7_method_1_code 43 = .ok (.iconst 0, 1) := by decide +kernel
theorem d_Mo_init_44 : decode prog_7_method_1_code 44 = .ok (.putfield 29, 3) := by decide +kernel
theorem d_Mo_init_47 : decode prog_7_method_1_code 47 = .ok (.aload_n 0, 1) := by decide +kernel
theorem d_Mo_init_48 : decode prog_7_method_1_code 48 = .ok (.sipush 300, 3) := by decide +kernel
theorem d_Mo_init_51 : decode prog_7_method_1_code 51 = .ok (.newarray .int, 2) := by decide +kernel
theorem d_Mo_init_53 : decode prog_7_method_1_code 53 = .ok (.putfield 32, 3) := by decide +kernel
theorem d_Mo_init_56 : decode prog_7_method_1_code 56 = .ok (.aload_n 0, 1) := by decide +kernel
theorem d_Mo_init_57 : decode prog_7_method_1_code 57 = .ok (.iconst 0, 1) := by decide +kernel
theorem d_Mo_init_58 : decode prog_7_method_1_code 58 = .ok (.putfield 35, 3) := by decide +kernel
theorem d_Mo_init_61 : decode prog_7_method_1_code 61 = .ok (.aload_n 0, 1) := by decide +kernel
theorem d_Mo_init_62 : decode prog_7_method_1_code 62 = .ok (.iconst 0, 1) := by decide +kernel
theorem d_Mo_init_63 : decode prog_7_method_1_code 63 = .ok (.putfield 38, 3) := by decide +kernel
theorem d_Mo_init_66 : decode prog_7_method_1_code 66 = .ok (.aload_n 0, 1) := by decide +kernel
theorem d_Mo_init_67 : decode prog_7_method_1_code 67 = .ok (.sipush 300, 3) := by decide +kernel
theorem d_Mo_init_70 : decode prog_7_method_1_code 70 = .ok (.newarray .int, 2) := by decide +kernel
theorem d_Mo_init_72 : decode prog_7_method_1_code 72 = .ok (.putfield 41, 3) := by decide +kernel
theorem d_Mo_init_75 : decode prog_7_method_1_code 75 = .ok (.aload_n 0, 1) := by decide +kernel
theorem d_Mo_init_76 : decode prog_7_method_1_code 76 = .ok (.iconst 0, 1) := by decide +kernel
theorem d_Mo_init_77 : decode prog_7_method_1_code 77 = .ok (.putfield 44, 3) := by decide +kernel
theorem d_Mo_init_80 : decode prog_7_method_1_code 80 = .ok (.return_, 1) := by decide +kernel
theorem d_Mo_blank_0 : decode prog_7_method_2_code 0 = .ok (.iload_n 0, 1) := by decide +kernel
theorem d_Mo_blank_1 : decode prog_7_method_2_code 1 = .ok (.bipush 32, 2) := by decide +kernel
theorem d_Mo_blank_3 : decode prog_7_method_2_code 3 = .ok (.if_icmp .eq 9, 3) := by decide +kernel
theorem d_Mo_blank_6 : decode prog_7_method_2_code 6 = .ok (.iload_n 0, 1) := by decide +kernel
theorem d_Mo_blank_7 : decode prog_7_method_2_code 7 = .ok (.bipush 9, 2) := by decide +kernel
theorem d_Mo_blank_9 : decode prog_7_method_2_code 9 = .ok (.if_icmp .ne 7, 3) := by decide +kernel
theorem d_Mo_blank_12 : decode prog_7_method_2_code 12 = .ok (.iconst 1, 1) := by decide +kernel
theorem d_Mo_blank_13 : decode prog_7_method_2_code 13 = .ok (.goto 4, 3) := by decide +kernel
theorem d_Mo_blank_16 : decode prog_7_method_2_code 16 = .ok (.iconst 0, 1) := by decide +kernel
theorem d_Mo_blank_17 : decode prog_7_method_2_code 17 = .ok (.ireturn, 1) := by decide +kernel
theorem d_Mo_lineEnd_0 : decode prog_7_method_3_code 0 = .ok (.iload_n 1, 1) := by decide +kernel
theorem d_Mo_lineEnd_1 : decode prog_7_method_3_code 1 = .ok (.istore_n 2, 1) := by decide +kernel
theorem d_Mo_lineEnd_2 : decode prog_7_method_3_code 2 = .ok (.iload_n 2, 1) := by decide +kernel
theorem d_Mo_lineEnd_3 : decode prog_7_method_3_code 3 = .ok (.aload_n 0, 1) := by decide +kernel
theorem d_Mo_lineEnd_4 : decode prog_7_method_3_code 4 = .ok (.getfield 23, 3) := by decide +kernel
theorem d_Mo_lineEnd_7 : decode prog_7_method_3_code 7 = .ok (.if_icmp .ge 43, 3) := by decide +kernel
theorem d_Mo_lineEnd_10 : decode prog_7_method_3_code 10 = .ok (.aload_n 0, 1) := by decide +kernel
theorem d_Mo_lineEnd_11 : decode prog_7_method_3_code 11 = .ok (.getfield 20, 3) := by decide +kernel
theorem d_Mo_lineEnd_14 : decode prog_7_method_3_code 14 = .ok (.iload_n 2, 1) := by decide +kernel
theorem d_Mo_lineEnd_15 : decode prog_7_method_3_code 15 = .ok (.iaload, 1) := by decide +kernel
theorem d_Mo_lineEnd_16 : decode prog_7_method_3_code 16 = .ok (.bipush 13, 2) := by decide +kernel
theorem d_Mo_lineEnd_18 : decode prog_7_method_3_code 18 = .ok (.if_icmp .ne 26, 3) := by decide +kernel
theorem d_Mo_lineEnd_21 : decode prog_7_method_3_code 21 = .ok (.iload_n 2, 1) := by decide +kernel
theorem d_Mo_lineEnd_22 : decode prog_7_method_3_code 22 = .ok (.iconst 1, 1) := by decide +kernel
theorem d_Mo_lineEnd_23 : decode prog_7_method_3_code 23 = .ok (.iadd, 1) := by decide +kernel
theorem d_Mo_lineEnd_24 : decode prog_7_method_3_code 24 = .ok (.aload_n 0, 1) := by decide +kernel
theorem d_Mo_lineEnd_25 : decode prog_7_method_3_code 25 = .ok (.getfield 23, 3) := by decide +kernel
theorem d_Mo_lineEnd_28 : decode prog_7_method_3_code 28 = .ok (.if_icmp .ge 16, 3) := by decide +kernel
theorem d_Mo_lineEnd_31 : decode prog_7_method_3_code 31 = .ok (.aload_n 0, 1) := by decide +kernel
theorem d_Mo_lineEnd_32 : decode prog_7_method_3_code 32 = .ok (.getfield 20, 3) := by decide +kernel
theorem d_Mo_lineEnd_35 : decode prog_7_method_3_code 35 = .ok (.iload_n 2, 1) := by decide +kernel
theorem d_Mo_lineEnd_36 : decode prog_7_method_3_code 36 = .ok (.iconst 1, 1) := by decide +kernel
theorem d_Mo_lineEnd_37 : decode prog_7_method_3_code 37 = .ok (.iadd, 1) := by decide +kernel
theorem d_Mo_lineEnd_38 : decode prog_7_method_3_code 38 = .ok (.iaload, 1) := by decide +kernel
theorem d_Mo_lineEnd_39 : decode prog_7_method_3_code 39 = .ok (.bipush 10, 2) := by decide +kernel
theorem d_Mo_lineEnd_41 : decode prog_7_method_3_code 41 = .ok (.if_icmp .eq 9, 3) := by decide +kernel
theorem d_Mo_lineEnd_44 : decode prog_7_method_3_code 44 = .ok (.iinc 2 1, 3) := by decide +kernel
theorem d_Mo_lineEnd_47 : decode prog_7_method_3_code 47 = .ok (.goto (-45), 3) := by decide +kernel
theorem d_Mo_lineEnd_50 : decode prog_7_method_3_code 50 = .ok (.iload_n 2, 1) := by decide +kernel
theorem d_Mo_lineEnd_51 : decode prog_7_method_3_code 51 = .ok (.ireturn, 1) := by decide +kernel
theorem d_Mo_colon_0 : decode prog_7_method_4_code 0 = .ok (.aload_n 0, 1) := by decide +kernel
theorem d_Mo_colon_1 : decode prog_7_method_4_code 1 = .ok (.iload_n 1, 1) := by decide +kernel
theorem d_Mo_colon_2 : decode prog_7_method_4_code 2 = .ok (.invokevirtual 47, 3) := by decide +kernel
theorem d_Mo_colon_5 : decode prog_7_method_4_code 5 = .ok (.istore_n 2, 1) := by decide +kernel
theorem d_Mo_colon_6 : decode prog_7_method_4_code 6 = .ok (.iload_n 1, 1) := by decide +kernel
theorem d_Mo_colon_7 : decode prog_7_method_4_code 7 = .ok (.istore_n 3, 1) := by decide +kernel
theorem d_Mo_colon_8 : decode prog_7_method_4_code 8 = .ok (.iload_n 3, 1) := by decide +kernel
theorem d_Mo_colon_9 : decode prog_7_method_4_code 9 = .ok (.iload_n 2, 1) := by decide +kernel
theorem d_Mo_colon_10 : decode prog_7_method_4_code 10 = .ok (.if_icmp .ge 42, 3) := by decide +kernel
theorem d_Mo_colon_13 : decode prog_7_method_4_code 13 = .ok (.aload_n 0, 1) := by decide +kernel
theorem d_Mo_colon_14 : decode prog_7_method_4_code 14 = .ok (.getfield 20, 3) := by decide +kernel
theorem d_Mo_colon_17 : decode prog_7_method_4_code 17 = .ok (.iload_n 3, 1) := by decide +kernel
theorem d_Mo_colon_18 : decode prog_7_method_4_code 18 = .ok (.iaload, 1) := by decide +kernel
theorem d_Mo_colon_19 : decode prog_7_method_4_code 19 = .ok (.bipush 32, 2) := by decide +kernel
theorem d_Mo_colon_21 : decode prog_7_method_4_code 21 = .ok (.if_icmp .le 31, 3) := by decide +kernel
theorem d_Mo_colon_24 : decode prog_7_method_4_code 24 = .ok (.aload_n 0, 1) := by decide +kernel
theorem d_Mo_colon_25 : decode prog_7_method_4_code 25 = .ok (.getfield 20, 3) := by decide +kernel
theorem d_Mo_colon_28 : decode prog_7_method_4_code 28 = .ok (.iload_n 3, 1) := by decide +kernel
theorem d_Mo_colon_29 : decode prog_7_method_4_code 29 = .ok (.iaload, 1) := by decide +kernel
theorem d_Mo_colon_30 : decode prog_7_method_4_code 30 = .ok (.bipush 127, 2) := by decide +kernel
theorem d_Mo_colon_32 : decode prog_7_method_4_code 32 = .ok (.if_icmp .ge 20, 3) := by decide +kernel
theorem d_Mo_colon_35 : decode prog_7_method_4_code 35 = .ok (.aload_n 0, 1) := by decide +kernel
theorem d_Mo_colon_36 : decode prog_7_method_4_code 36 = .ok (.getfield 20, 3) := by decide +kernel
theorem d_Mo_colon_39 : decode prog_7_method_4_code 39 = .ok (.iload_n 3, 1) := by decide +kernel
theorem d_Mo_colon_40 : decode prog_7_method_4_code 40 = .ok (.iaload, 1) := by decide +kernel
theorem d_Mo_colon_41 : decode prog_7_method_4_code 41 = .ok (.bipush 58, 2) := by decide +kernel
theorem d_Mo_colon_43 : decode prog_7_method_4_code 43 = .ok (.if_icmp .eq 9, 3) := by decide +kernel
theorem d_Mo_colon_46 : decode prog_7_method_4_code 46 = .ok (.iinc 3 1, 3) := by decide +kernel
theorem d_Mo_colon_49 : decode prog_7_method_4_code 49 = .ok (.goto (-41), 3) := by decide +kernel
theorem d_Mo_colon_52 : decode prog_7_method_4_code 52 = .ok (.iload_n 3, 1) := by decide +kernel
theorem d_Mo_colon_53 : decode prog_7_method_4_code 53 = .ok (.iload_n 1, 1) := by decide +kernel
theorem d_Mo_colon_54 : decode prog_7_method_4_code 54 = .ok (.isub, 1) := by decide +kernel
theorem d_Mo_colon_55 : decode prog_7_method_4_code 55 = .ok (.istore 4, 2) := by decide +kernel
theorem d_Mo_colon_57 : decode prog_7_method_4_code 57 = .ok (.iload_n 3, 1) := by decide +kernel
theorem d_Mo_colon_58 : decode prog_7_method_4_code 58 = .ok (.iload_n 2, 1) := by decide +kernel
theorem d_Mo_colon_59 : decode prog_7_method_4_code 59 = .ok (.if_icmp .ge 21, 3) := by decide +kernel
theorem d_Mo_colon_62 : decode prog_7_method_4_code 62 = .ok (.aload_n 0, 1) := by decide +kernel
theorem d_Mo_colon_63 : decode prog_7_method_4_code 63 = .ok (.getfield 20, 3) := by decide +kernel
theorem d_Mo_colon_66 : decode prog_7_method_4_code 66 = .ok (.iload_n 3, 1) := by decide +kernel
theorem d_Mo_colon_67 : decode prog_7_method_4_code 67 = .ok (.iaload, 1) := by decide +kernel
theorem d_Mo_colon_68 : decode prog_7_method_4_code 68 = .ok (.invokestatic 51, 3) := by decide +kernel
theorem d_Mo_colon_71 : decode prog_7_method_4_code 71 = .ok (.ifCond .eq 9, 3) := by decide +kernel
theorem d_Mo_colon_74 : decode prog_7_method_4_code 74 = .ok (.iinc 3 1, 3) := by decide +kernel
theorem d_Mo_colon_77 : decode prog_7_method_4_code 77 = .ok (.goto (-20), 3) := by decide +kernel
theorem d_Mo_colon_80 : decode prog_7_method_4_code 80 = .ok (.iload 4, 2) := by decide +kernel
theorem d_Mo_colon_82 : decode prog_7_method_4_code 82 = .ok (.iconst 1, 1) := by decide +kernel
theorem d_Mo_colon_83 : decode prog_7_method_4_code 83 = .ok (.if_icmp .lt 26, 3) := by decide +kernel
theorem d_Mo_colon_86 : decode prog_7_method_4_code 86 = .ok (.iload 4, 2) := by decide +kernel
theorem d_Mo_colon_88 : decode prog_7_method_4_code 88 = .ok (.bipush 60, 2) := by decide +kernel
theorem d_Mo_colon_90 : decode prog_7_method_4_code 90 = .ok (.if_icmp .gt 19, 3) := by decide +kernel
theorem d_Mo_colon_93 : decode prog_7_method_4_code 93 = .ok (.iload_n 3, 1) := by decide +kernel
theorem d_Mo_colon_94 : decode prog_7_method_4_code 94 = .ok (.iload_n 2, 1) := by decide +kernel
theorem d_Mo_colon_95 : decode prog_7_method_4_code 95 = .ok (.if_icmp .ge 14, 3) := by decide +kernel
theorem d_Mo_colon_98 : decode prog_7_method_4_code 98 = .ok (.aload_n 0, 1) := by decide +kernel
theorem d_Mo_colon_99 : decode prog_7_method_4_code 99 = .ok (.getfield 20, 3) := by decide +kernel
theorem d_Mo_colon_102 : decode prog_7_method_4_code 102 = .ok (.iload_n 3, 1) := by decide +kernel
theorem d_Mo_colon_103 : decode prog_7_method_4_code 103 = .ok (.iaload, 1) := by decide +kernel
theorem d_Mo_colon_104 : decode prog_7_method_4_code 104 = .ok (.bipush 58, 2) := by decide +kernel
theorem d_Mo_colon_106 : decode prog_7_method_4_code 106 = .ok (.if_icmp .eq 7, 3) := by decide +kernel
theorem d_Mo_colon_109 : decode prog_7_method_4_code 109 = .ok (.iconst (-1), 1) := by decide +kernel
theorem d_Mo_colon_110 : decode prog_7_method_4_code 110 = .ok (.goto 4, 3) := by decide +kernel
theorem d_Mo_colon_113 : decode prog_7_method_4_code 113 = .ok (.iload_n 3, 1) := by decide +kernel
theorem d_Mo_colon_114 : decode prog_7_method_4_code 114 = .ok (.ireturn, 1) := by decide +kernel
theorem d_Mo_takeLine_0 : decode prog_7_method_6_code 0 = .ok (.aload_n 0, 1) := by decide +kernel
theorem d_Mo_takeLine_1 : decode prog_7_method_6_code 1 = .ok (.iload_n 1, 1) := by decide +kernel
theorem d_Mo_takeLine_2 : decode prog_7_method_6_code 2 = .ok (.invokevirtual 47, 3) := by decide +kernel
theorem d_Mo_takeLine_5 : decode prog_7_method_6_code 5 = .ok (.istore_n 2, 1) := by decide +kernel
theorem d_Mo_takeLine_6 : decode prog_7_method_6_code 6 = .ok (.iload_n 1, 1) := by decide +kernel
theorem d_Mo_takeLine_7 : decode prog_7_method_6_code 7 = .ok (.istore_n 3, 1) := by decide +kernel
theorem d_Mo_takeLine_8 : decode prog_7_method_6_code 8 = .ok (.iload_n 3, 1) := by decide +kernel
theorem d_Mo_takeLine_9 : decode prog_7_method_6_code 9 = .ok (.iload_n 2, 1) := by decide +kernel
theorem d_Mo_takeLine_10 : decode prog_7_method_6_code 10 = .ok (.if_icmp .ge 34, 3) := by decide +kernel
theorem d_Mo_takeLine_13 : decode prog_7_method_6_code 13 = .ok (.aload_n 0, 1) := by decide +kernel
theorem d_Mo_takeLine_14 : decode prog_7_method_6_code 14 = .ok (.getfield 32, 3) := by decide +kernel
theorem d_Mo_takeLine_17 : decode prog_7_method_6_code 17 = .ok (.aload_n 0, 1) := by decide +kernel
theorem d_Mo_takeLine_18 : decode prog_7_method_6_code 18 = .ok (.getfield 35, 3) := by decide +kernel
theorem d_Mo_takeLine_21 : decode prog_7_method_6_code 21 = .ok (.aload_n 0, 1) := by decide +kernel
theorem d_Mo_takeLine_22 : decode prog_7_method_6_code 22 = .ok (.getfield 20, 3) := by decide +kernel
theorem d_Mo_takeLine_25 : decode prog_7_method_6_code 25 = .ok (.iload_n 3, 1) := by decide +kernel
theorem d_Mo_takeLine_26 : decode prog_7_method_6_code 26 = .ok (.iaload, 1) := by decide +kernel
theorem d_Mo_takeLine_27 : decode prog_7_method_6_code 27 = .ok (.iastore, 1) := by decide +kernel
theorem d_Mo_takeLine_28 : decode prog_7_method_6_code 28 = .ok (.aload_n 0, 1) := by decide +kernel
theorem d_Mo_takeLine_29 : decode prog_7_method_6_code 29 = .ok (.dup, 1) := by decide +kernel
theorem d_Mo_takeLine_30 : decode prog_7_method_6_code 30 = .ok (.getfield 35, 3) := by decide +kernel
theorem d_Mo_takeLine_33 : decode prog_7_method_6_code 33 = .ok (.iconst 1, 1) := by decide +kernel
theorem d_Mo_takeLine_34 : decode prog_7_method_6_code 34 = .ok (.iadd, 1) := by decide +kernel
theorem d_Mo_takeLine_35 : decode prog_7_method_6_code 35 = .ok (.putfield 35, 3) := by decide +kernel
theorem d_Mo_takeLine_38 : decode prog_7_method_6_code 38 = .ok (.iinc 3 1, 3) := by decide +kernel
theorem d_Mo_takeLine_41 : decode prog_7_method_6_code 41 = .ok (.goto (-33), 3) := by decide +kernel
theorem d_Mo_takeLine_44 : decode prog_7_method_6_code 44 = .ok (.aload_n 0, 1) := by decide +kernel
theorem d_Mo_takeLine_45 : decode prog_7_method_6_code 45 = .ok (.iload_n 2, 1) := by decide +kernel
theorem d_Mo_takeLine_46 : decode prog_7_method_6_code 46 = .ok (.aload_n 0, 1) := by decide +kernel
theorem d_Mo_takeLine_47 : decode prog_7_method_6_code 47 = .ok (.getfield 23, 3) := by decide +kernel
theorem d_Mo_takeLine_50 : decode prog_7_method_6_code 50 = .ok (.if_icmp .ge 9, 3) := by decide +kernel
theorem d_Mo_takeLine_53 : decode prog_7_method_6_code 53 = .ok (.iload_n 2, 1) := by decide +kernel
theorem d_Mo_takeLine_54 : decode prog_7_method_6_code 54 = .ok (.iconst 2, 1) := by decide +kernel
theorem d_Mo_takeLine_55 : decode prog_7_method_6_code 55 = .ok (.iadd, 1) := by decide +kernel
theorem d_Mo_takeLine_56 : decode prog_7_method_6_code 56 = .ok (.goto 7, 3) := by decide +kernel
theorem d_Mo_takeLine_59 : decode prog_7_method_6_code 59 = .ok (.aload_n 0, 1) := by decide +kernel
theorem d_Mo_takeLine_60 : decode prog_7_method_6_code 60 = .ok (.getfield 23, 3) := by decide +kernel
theorem d_Mo_takeLine_63 : decode prog_7_method_6_code 63 = .ok (.putfield 38, 3) := by decide +kernel
theorem d_Mo_takeLine_66 : decode prog_7_method_6_code 66 = .ok (.return_, 1) := by decide +kernel
theorem d_Mo_trim_0 : decode prog_7_method_7_code 0 = .ok (.aload_n 0, 1) := by decide +kernel
theorem d_Mo_trim_1 : decode prog_7_method_7_code 1 = .ok (.getfield 35, 3) := by decide +kernel
theorem d_Mo_trim_4 : decode prog_7_method_7_code 4 = .ok (.ifCond .le 33, 3) := by decide +kernel
theorem d_Mo_trim_7 : decode prog_7_method_7_code 7 = .ok (.aload_n 0, 1) := by decide +kernel
theorem d_Mo_trim_8 : decode prog_7_method_7_code 8 = .ok (.getfield 32, 3) := by decide +kernel
theorem d_Mo_trim_11 : decode prog_7_method_7_code 11 = .ok (.aload_n 0, 1) := by decide +kernel
theorem d_Mo_trim_12 : decode prog_7_method_7_code 12 = .ok (.getfield 35, 3) := by decide +kernel
theorem d_Mo_trim_15 : decode prog_7_method_7_code 15 = .ok (.iconst 1, 1) := by decide +kernel
theorem d_Mo_trim_16 : decode prog_7_method_7_code 16 = .ok (.isub, 1) := by decide +kernel
theorem d_Mo_trim_17 : decode prog_7_method_7_code 17 = .ok (.iaload, 1) := by decide +kernel
theorem d_Mo_trim_18 : decode prog_7_method_7_code 18 = .ok (.invokestatic 51, 3) := by decide +kernel
theorem d_Mo_trim_21 : decode prog_7_method_7_code 21 = .ok (.ifCond .eq 16, 3) := by decide +kernel
theorem d_Mo_trim_24 : decode prog_7_method_7_code 24 = .ok (.aload_n 0, 1) := by decide +kernel
theorem d_Mo_trim_25 : decode prog_7_method_7_code 25 = .ok (.dup, 1) := by decide +kernel
theorem d_Mo_trim_26 : decode prog_7_method_7_code 26 = .ok (.getfield 35, 3) := by decide +kernel
theorem d_Mo_trim_29 : decode prog_7_method_7_code 29 = .ok (.iconst 1, 1) := by decide +kernel
theorem d_Mo_trim_30 : decode prog_7_method_7_code 30 = .ok (.isub, 1) := by decide +kernel
theorem d_Mo_trim_31 : decode prog_7_method_7_code 31 = .ok (.putfield 35, 3) := by decide +kernel
theorem d_Mo_trim_34 : decode prog_7_method_7_code 34 = .ok (.goto (-34), 3) := by decide +kernel
theorem d_Mo_trim_37 : decode prog_7_method_7_code 37 = .ok (.iconst 0, 1) := by decide +kernel
theorem d_Mo_trim_38 : decode prog_7_method_7_code 38 = .ok (.istore_n 1, 1) := by decide +kernel
theorem d_Mo_trim_39 : decode prog_7_method_7_code 39 = .ok (.iload_n 1, 1) := by decide +kernel
theorem d_Mo_trim_40 : decode prog_7_method_7_code 40 = .ok (.aload_n 0, 1) := by decide +kernel
theorem d_Mo_trim_41 : decode prog_7_method_7_code 41 = .ok (.getfield 35, 3) := by decide +kernel
theorem d_Mo_trim_44 : decode prog_7_method_7_code 44 = .ok (.if_icmp .ge 21, 3) := by decide +kernel
theorem d_Mo_trim_47 : decode prog_7_method_7_code 47 = .ok (.aload_n 0, 1) := by decide +kernel
theorem d_Mo_trim_48 : decode prog_7_method_7_code 48 = .ok (.getfield 32, 3) := by decide +kernel
theorem d_Mo_trim_51 : decode prog_7_method_7_code 51 = .ok (.iload_n 1, 1) := by decide +kernel
theorem d_Mo_trim_52 : decode prog_7_method_7_code 52 = .ok (.iaload, 1) := by decide +kernel
theorem d_Mo_trim_53 : decode prog_7_method_7_code 53 = .ok (.invokestatic 51, 3) := by decide +kernel
theorem d_Mo_trim_56 : decode prog_7_method_7_code 56 = .ok (.ifCond .eq 9, 3) := by decide +kernel
theorem d_Mo_trim_59 : decode prog_7_method_7_code 59 = .ok (.iinc 1 1, 3) := by decide +kernel
theorem d_Mo_trim_62 : decode prog_7_method_7_code 62 = .ok (.goto (-23), 3) := by decide +kernel
theorem d_Mo_trim_65 : decode prog_7_method_7_code 65 = .ok (.iload_n 1, 1) := by decide +kernel
theorem d_Mo_trim_66 : decode prog_7_method_7_code 66 = .ok (.istore_n 2, 1) := by decide +kernel
theorem d_Mo_trim_67 : decode prog_7_method_7_code 67 = .ok (.iload_n 2, 1) := by decide +kernel
theorem d_Mo_trim_68 : decode prog_7_method_7_code 68 = .ok (.aload_n 0, 1) := by decide +kernel
theorem d_Mo_trim_69 : decode prog_7_method_7_code 69 = .ok (.getfield 35, 3) := by decide +kernel
theorem d_Mo_trim_72 : decode prog_7_method_7_code 72 = .ok (.if_icmp .ge 23, 3) := by decide +kernel
theorem d_Mo_trim_75 : decode prog_7_method_7_code 75 = .ok (.aload_n 0, 1) := by decide +kernel
theorem d_Mo_trim_76 : decode prog_7_method_7_code 76 = .ok (.getfield 32, 3) := by decide +kernel
theorem d_Mo_trim_79 : decode prog_7_method_7_code 79 = .ok (.iload_n 2, 1) := by decide +kernel
theorem d_Mo_trim_80 : decode prog_7_method_7_code 80 = .ok (.iload_n 1, 1) := by decide +kernel
theorem d_Mo_trim_81 : decode prog_7_method_7_code 81 = .ok (.isub, 1) := by decide +kernel
theorem d_Mo_trim_82 : decode prog_7_method_7_code 82 = .ok (.aload_n 0, 1) := by decide +kernel
theorem d_Mo_trim_83 : decode prog_7_method_7_code 83 = .ok (.getfield 32, 3) := by decide +kernel
theorem d_Mo_trim_86 : decode prog_7_method_7_code 86 = .ok (.iload_n 2, 1) := by decide +kernel
theorem d_Mo_trim_87 : decode prog_7_method_7_code 87 = .ok (.iaload, 1) := by decide +kernel
theorem d_Mo_trim_88 : decode prog_7_method_7_code 88 = .ok (.iastore, 1) := by decide +kernel
theorem d_Mo_trim_89 : decode prog_7_method_7_code 89 = .ok (.iinc 2 1, 3) := by decide +kernel
theorem d_Mo_trim_92 : decode prog_7_method_7_code 92 = .ok (.goto (-25), 3) := by decide +kernel
theorem d_Mo_trim_95 : decode prog_7_method_7_code 95 = .ok (.aload_n 0, 1) := by decide +kernel
theorem d_Mo_trim_96 : decode prog_7_method_7_code 96 = .ok (.dup, 1) := by decide +kernel
theorem d_Mo_trim_97 : decode prog_7_method_7_code 97 = .ok (.getfield 35, 3) := by decide +kernel
theorem d_Mo_trim_100 : decode prog_7_method_7_code 100 = .ok (.iload_n 1, 1) := by decide +kernel
theorem d_Mo_trim_101 : decode prog_7_method_7_code 101 = .ok (.isub, 1) := by decide +kernel
theorem d_Mo_trim_102 : decode prog_7_method_7_code 102 = .ok (.putfield 35, 3) := by decide +kernel
theorem d_Mo_trim_105 : decode prog_7_method_7_code 105 = .ok (.return_, 1) := by decide +kernel
theorem d_Mo_look_0 : decode prog_7_method_5_code 0 = .ok (.aload_n 0, 1) := by decide +kernel
theorem d_Mo_look_1 : decode prog_7_method_5_code 1 = .ok (.iconst 0, 1) := by decide +kernel
theorem d_Mo_look_2 : decode prog_7_method_5_code 2 = .ok (.putfield 38, 3) := by decide +kernel
theorem d_Mo_look_5 : decode prog_7_method_5_code 5 = .ok (.iconst 0, 1) := by decide +kernel
theorem d_Mo_look_6 : decode prog_7_method_5_code 6 = .ok (.istore_n 2, 1) := by decide +kernel
theorem d_Mo_look_7 : decode prog_7_method_5_code 7 = .ok (.iload_n 2, 1) := by decide +kernel
theorem d_Mo_look_8 : decode prog_7_method_5_code 8 = .ok (.iload_n 1, 1) := by decide +kernel
theorem d_Mo_look_9 : decode prog_7_method_5_code 9 = .ok (.if_icmp .gt 153, 3) := by decide +kernel
theorem d_Mo_look_12 : decode prog_7_method_5_code 12 = .ok (.aload_n 0, 1) := by decide +kernel
theorem d_Mo_look_13 : decode prog_7_method_5_code 13 = .ok (.getfield 38, 3) := by decide +kernel
theorem d_Mo_look_16 : decode prog_7_method_5_code 16 = .ok (.aload_n 0, 1) := by decide +kernel
theorem d_Mo_look_17 : decode prog_7_method_5_code 17 = .ok (.getfield 23, 3) := by decide +kernel
theorem d_Mo_look_20 : decode prog_7_method_5_code 20 = .ok (.if_icmp .ge 14, 3) := by decide +kernel
theorem d_Mo_look_23 : decode prog_7_method_5_code 23 = .ok (.aload_n 0, 1) := by decide +kernel
theorem d_Mo_look_24 : decode prog_7_method_5_code 24 = .ok (.aload_n 0, 1) := by decide +kernel
theorem d_Mo_look_25 : decode prog_7_method_5_code 25 = .ok (.getfield 38, 3) := by decide +kernel
theorem d_Mo_look_28 : decode prog_7_method_5_code 28 = .ok (.invokevirtual 55, 3) := by decide +kernel
theorem d_Mo_look_31 : decode prog_7_method_5_code 31 = .ok (.goto 4, 3) := by decide +kernel
theorem d_Mo_look_34 : decode prog_7_method_5_code 34 = .ok (.iconst (-1), 1) := by decide +kernel
theorem d_Mo_look_35 : decode prog_7_method_5_code 35 = .ok (.istore_n 3, 1) := by decide +kernel
theorem d_Mo_look_36 : decode prog_7_method_5_code 36 = .ok (.iload_n 3, 1) := by decide +kernel
theorem d_Mo_look_37 : decode prog_7_method_5_code 37 = .ok (.ifCond .ge 5, 3) := by decide +kernel
theorem d_Mo_look_40 : decode prog_7_method_5_code 40 = .ok (.iconst 0, 1) := by decide +kernel
theorem d_Mo_look_41 : decode prog_7_method_5_code 41 = .ok (.ireturn, 1) := by decide +kernel
theorem d_Mo_look_42 : decode prog_7_method_5_code 42 = .ok (.aload_n 0, 1) := by decide +kernel
theorem d_Mo_look_43 : decode prog_7_method_5_code 43 = .ok (.aload_n 0, 1) := by decide +kernel
theorem d_Mo_look_44 : decode prog_7_method_5_code 44 = .ok (.getfield 38, 3) := by decide +kernel
theorem d_Mo_look_47 : decode prog_7_method_5_code 47 = .ok (.putfield 26, 3) := by decide +kernel
theorem d_Mo_look_50 : decode prog_7_method_5_code 50 = .ok (.aload_n 0, 1) := by decide +kernel
theorem d_Mo_look_51 : decode prog_7_method_5_code 51 = .ok (.iconst 0, 1) := by decide +kernel
theorem d_Mo_look_52 : decode prog_7_method_5_code 52 = .ok (.putfield 29, 3) := by decide +kernel
theorem d_Mo_look_55 : decode prog_7_method_5_code 55 = .ok (.aload_n 0, 1) := by decide +kernel
theorem d_Mo_look_56 : decode prog_7_method_5_code 56 = .ok (.getfield 20, 3) := by decide +kernel
theorem d_Mo_look_59 : decode prog_7_method_5_code 59 = .ok (.aload_n 0, 1) := by decide +kernel
theorem d_Mo_look_60 : decode prog_7_method_5_code 60 = .ok (.getfield 38, 3) := by decide +kernel
theorem d_Mo_look_63 : decode prog_7_method_5_code 63 = .ok (.aload_n 0, 1) := by decide +kernel
theorem d_Mo_look_64 : decode prog_7_method_5_code 64 = .ok (.getfield 29, 3) := by decide +kernel
theorem d_Mo_look_67 : decode prog_7_method_5_code 67 = .ok (.iadd, 1) := by decide +kernel
theorem d_Mo_look_68 : decode prog_7_method_5_code 68 = .ok (.iaload, 1) := by decide +kernel
theorem d_Mo_look_69 : decode prog_7_method_5_code 69 = .ok (.bipush 58, 2) := by decide +kernel
theorem d_Mo_look_71 : decode prog_7_method_5_code 71 = .ok (.if_icmp .eq 36, 3) := by decide +kernel
theorem d_Mo_look_74 : decode prog_7_method_5_code 74 = .ok (.aload_n 0, 1) := by decide +kernel
theorem d_Mo_look_75 : decode prog_7_method_5_code 75 = .ok (.getfield 20, 3) := by decide +kernel
theorem d_Mo_look_78 : decode prog_7_method_5_code 78 = .ok (.aload_n 0, 1) := by decide +kernel
theorem d_Mo_look_79 : decode prog_7_method_5_code 79 = .ok (.getfield 38, 3) := by decide +kernel
theorem d_Mo_look_82 : decode prog_7_method_5_code 82 = .ok (.aload_n 0, 1) := by decide +kernel
theorem d_Mo_look_83 : decode prog_7_method_5_code 83 = .ok (.getfield 29, 3) := by decide +kernel
theorem d_Mo_look_86 : decode prog_7_method_5_code 86 = .ok (.iadd, 1) := by decide +kernel
theorem d_Mo_look_87 : decode prog_7_method_5_code 87 = .ok (.iaload, 1) := by decide +kernel
theorem d_Mo_look_88 : decode prog_7_method_5_code 88 = .ok (.invokestatic 51, 3) := by decide +kernel
theorem d_Mo_look_91 : decode prog_7_method_5_code 91 = .ok (.ifCond .ne 16, 3) := by decide +kernel
theorem d_Mo_look_94 : decode prog_7_method_5_code 94 = .ok (.aload_n 0, 1) := by decide +kernel
theorem d_Mo_look_95 : decode prog_7_method_5_code 95 = .ok (.dup, 1) := by decide +kernel
theorem d_Mo_look_96 : decode prog_7_method_5_code 96 = .ok (.getfield 29, 3) := by decide +kernel
theorem d_Mo_look_99 : decode prog_7_method_5_code 99 = .ok (.iconst 1, 1) := by decide +kernel
theorem d_Mo_look_100 : decode prog_7_method_5_code 100 = .ok (.iadd, 1) := by decide +kernel
theorem d_Mo_look_101 : decode prog_7_method_5_code 101 = .ok (.putfield 29, 3) := by decide +kernel
theorem d_Mo_look_104 : decode prog_7_method_5_code 104 = .ok (.goto (-49), 3) := by decide +kernel
theorem d_Mo_look_107 : decode prog_7_method_5_code 107 = .ok (.aload_n 0, 1) := by decide +kernel
theorem d_Mo_look_108 : decode prog_7_method_5_code 108 = .ok (.iconst 0, 1) := by decide +kernel
theorem d_Mo_look_109 : decode prog_7_method_5_code 109 = .ok (.putfield 35, 3) := by decide +kernel
theorem d_Mo_look_112 : decode prog_7_method_5_code 112 = .ok (.aload_n 0, 1) := by decide +kernel
theorem d_Mo_look_113 : decode prog_7_method_5_code 113 = .ok (.iload_n 3, 1) := by decide +kernel
theorem d_Mo_look_114 : decode prog_7_method_5_code 114 = .ok (.iconst 1, 1) := by decide +kernel
theorem d_Mo_look_115 : decode prog_7_method_5_code 115 = .ok (.iadd, 1) := by decide +kernel
theorem d_Mo_look_116 : decode prog_7_method_5_code 116 = .ok (.invokevirtual 58, 3) := by decide +kernel
theorem d_Mo_look_119 : decode prog_7_method_5_code 119 = .ok (.aload_n 0, 1) := by decide +kernel
theorem d_Mo_look_120 : decode prog_7_method_5_code 120 = .ok (.getfield 38, 3) := by decide +kernel
theorem d_Mo_look_123 : decode prog_7_method_5_code 123 = .ok (.aload_n 0, 1) := by decide +kernel
theorem d_Mo_look_124 : decode prog_7_method_5_code 124 = .ok (.getfield 23, 3) := by decide +kernel
theorem d_Mo_look_127 : decode prog_7_method_5_code 127 = .ok (.if_icmp .ge 29, 3) := by decide +kernel
theorem d_Mo_look_130 : decode prog_7_method_5_code 130 = .ok (.aload_n 0, 1) := by decide +kernel
theorem d_Mo_look_131 : decode prog_7_method_5_code 131 = .ok (.getfield 20, 3) := by decide +kernel
theorem d_Mo_look_134 : decode prog_7_method_5_code 134 = .ok (.aload_n 0, 1) := by decide +kernel
theorem d_Mo_look_135 : decode prog_7_method_5_code 135 = .ok (.getfield 38, 3) := by decide +kernel
theorem d_Mo_look_138 : decode prog_7_method_5_code 138 = .ok (.iaload, 1) := by decide +kernel
theorem d_Mo_look_139 : decode prog_7_method_5_code 139 = .ok (.invokestatic 51, 3) := by decide +kernel
theorem d_Mo_look_142 : decode prog_7_method_5_code 142 = .ok (.ifCond .eq 14, 3) := by decide +kernel
theorem d_Mo_look_145 : decode prog_7_method_5_code 145 = .ok (.aload_n 0, 1) := by decide +kernel
theorem d_Mo_look_146 : decode prog_7_method_5_code 146 = .ok (.aload_n 0, 1) := by decide +kernel
theorem d_Mo_look_147 : decode prog_7_method_5_code 147 = .ok (.getfield 38, 3) := by decide +kernel
theorem d_Mo_look_150 : decode prog_7_method_5_code 150 = .ok (.invokevirtual 58, 3) := by decide +kernel
theorem d_Mo_look_153 : decode prog_7_method_5_code 153 = .ok (.goto (-34), 3) := by decide +kernel
theorem d_Mo_look_156 : decode prog_7_method_5_code 156 = .ok (.iinc 2 1, 3) := by decide +kernel
theorem d_Mo_look_159 : decode prog_7_method_5_code 159 = .ok (.goto (-152), 3) := by decide +kernel
theorem d_Mo_look_162 : decode prog_7_method_5_code 162 = .ok (.aload_n 0, 1) := by decide +kernel
theorem d_Mo_look_163 : decode prog_7_method_5_code 163 = .ok (.invokevirtual 62, 3) := by decide +kernel
theorem d_Mo_look_166 : decode prog_7_method_5_code 166 = .ok (.iconst 1, 1) := by decide +kernel
theorem d_Mo_look_167 : decode prog_7_method_5_code 167 = .ok (.ireturn, 1) := by decide +kernel
theorem d_Mo_letter_0 : decode prog_7_method_8_code 0 = .ok (.iload_n 0, 1) := by decide +kernel
theorem d_Mo_letter_1 : decode prog_7_method_8_code 1 = .ok (.bipush 65, 2) := by decide +kernel
theorem d_Mo_letter_3 : decode prog_7_method_8_code 3 = .ok (.if_icmp .lt 9, 3) := by decide +kernel
theorem d_Mo_letter_6 : decode prog_7_method_8_code 6 = .ok (.iload_n 0, 1) := by decide +kernel
theorem d_Mo_letter_7 : decode prog_7_method_8_code 7 = .ok (.bipush 90, 2) := by decide +kernel
theorem d_Mo_letter_9 : decode prog_7_method_8_code 9 = .ok (.if_icmp .le 27, 3) := by decide +kernel
theorem d_Mo_letter_12 : decode prog_7_method_8_code 12 = .ok (.iload_n 0, 1) := by decide +kernel
theorem d_Mo_letter_13 : decode prog_7_method_8_code 13 = .ok (.bipush 97, 2) := by decide +kernel
theorem d_Mo_letter_15 : decode prog_7_method_8_code 15 = .ok (.if_icmp .lt 9, 3) := by decide +kernel
theorem d_Mo_letter_18 : decode prog_7_method_8_code 18 = .ok (.iload_n 0, 1) := by decide +kernel
theorem d_Mo_letter_19 : decode prog_7_method_8_code 19 = .ok (.bipush 122, 2) := by decide +kernel
theorem d_Mo_letter_21 : decode prog_7_method_8_code 21 = .ok (.if_icmp .le 15, 3) := by decide +kernel
theorem d_Mo_letter_24 : decode prog_7_method_8_code 24 = .ok (.iload_n 0, 1) := by decide +kernel
theorem d_Mo_letter_25 : decode prog_7_method_8_code 25 = .ok (.bipush 48, 2) := by decide +kernel
theorem d_Mo_letter_27 : decode prog_7_method_8_code 27 = .ok (.if_icmp .lt 13, 3) := by decide +kernel
theorem d_Mo_letter_30 : decode prog_7_method_8_code 30 = .ok (.iload_n 0, 1) := by decide +kernel
theorem d_Mo_letter_31 : decode prog_7_method_8_code 31 = .ok (.bipush 57, 2) := by decide +kernel
theorem d_Mo_letter_33 : decode prog_7_method_8_code 33 = .ok (.if_icmp .gt 7, 3) := by decide +kernel
theorem d_Mo_letter_36 : decode prog_7_method_8_code 36 = .ok (.iconst 1, 1) := by decide +kernel
theorem d_Mo_letter_37 : decode prog_7_method_8_code 37 = .ok (.goto 4, 3) := by decide +kernel
theorem d_Mo_letter_40 : decode prog_7_method_8_code 40 = .ok (.iconst 0, 1) := by decide +kernel
theorem d_Mo_letter_41 : decode prog_7_method_8_code 41 = .ok (.ireturn, 1) := by decide +kernel
theorem d_Mo_local_0 : decode prog_7_method_9_code 0 = .ok (.iload_n 0, 1) := by decide +kernel
theorem d_Mo_local_1 : decode prog_7_method_9_code 1 = .ok (.invokestatic 65, 3) := by decide +kernel
theorem d_Mo_local_4 : decode prog_7_method_9_code 4 = .ok (.ifCond .ne 9, 3) := by decide +kernel
theorem d_Mo_local_7 : decode prog_7_method_9_code 7 = .ok (.iload_n 0, 1) := by decide +kernel
theorem d_Mo_local_8 : decode prog_7_method_9_code 8 = .ok (.bipush 46, 2) := by decide +kernel
theorem d_Mo_local_10 : decode prog_7_method_9_code 10 = .ok (.if_icmp .ne 5, 3) := by decide +kernel
theorem d_Mo_local_13 : decode prog_7_method_9_code 13 = .ok (.iconst 1, 1) := by decide +kernel
theorem d_Mo_local_14 : decode prog_7_method_9_code 14 = .ok (.ireturn, 1) := by decide +kernel
theorem d_Mo_local_15 : decode prog_7_method_9_code 15 = .ok (.iload_n 0, 1) := by decide +kernel
theorem d_Mo_local_16 : decode prog_7_method_9_code 16 = .ok (.lookupswitch 166 #[(33, 164), (35, 164), (36, 164), (37, 164), (38, 164), (39, 164), (42, 164), (43, 164), (45, 164), (47, 164), (61, 164), (63, 164), (94, 164), (95, 164), (96, 164), (123, 164), (124, 164), (125, 164), (126, 164)], 164) := by decide +kernel
theorem d_Mo_local_180 : decode prog_7_method_9_code 180 = .ok (.iconst 1, 1) := by decide +kernel
theorem d_Mo_local_181 : decode prog_7_method_9_code 181 = .ok (.ireturn, 1) := by decide +kernel
theorem d_Mo_local_182 : decode prog_7_method_9_code 182 = .ok (.iconst 0, 1) := by decide +kernel
theorem d_Mo_local_183 : decode prog_7_method_9_code 183 = .ok (.ireturn, 1) := by decide +kernel
theorem d_Mo_at_0 : decode prog_7_method_10_code 0 = .ok (.iconst 0, 1) := by decide +kernel
theorem d_Mo_at_1 : decode prog_7_method_10_code 1 = .ok (.istore_n 1, 1) := by decide +kernel
theorem d_Mo_at_2 : decode prog_7_method_10_code 2 = .ok (.iload_n 1, 1) := by decide +kernel
theorem d_Mo_at_3 : decode prog_7_method_10_code 3 = .ok (.aload_n 0, 1) := by decide +kernel
theorem d_Mo_at_4 : decode prog_7_method_10_code 4 = .ok (.getfield 44, 3) := by decide +kernel
theorem d_Mo_at_7 : decode prog_7_method_10_code 7 = .ok (.if_icmp .ge 20, 3) := by decide +kernel
theorem d_Mo_at_10 : decode prog_7_method_10_code 10 = .ok (.aload_n 0, 1) := by decide +kernel
theorem d_Mo_at_11 : decode prog_7_method_10_code 11 = .ok (.getfield 41, 3) := by decide +kernel
theorem d_Mo_at_14 : decode prog_7_method_10_code 14 = .ok (.iload_n 1, 1) := by decide +kernel
theorem d_Mo_at_15 : decode prog_7_method_10_code 15 = .ok (.iaload, 1) := by decide +kernel
theorem d_Mo_at_16 : decode prog_7_method_10_code 16 = .ok (.bipush 64, 2) := by decide +kernel
theorem d_Mo_at_18 : decode prog_7_method_10_code 18 = .ok (.if_icmp .eq 9, 3) := by decide +kernel
theorem d_Mo_at_21 : decode prog_7_method_10_code 21 = .ok (.iinc 1 1, 3) := by decide +kernel
theorem d_Mo_at_24 : decode prog_7_method_10_code 24 = .ok (.goto (-22), 3) := by decide +kernel
theorem d_Mo_at_27 : decode prog_7_method_10_code 27 = .ok (.iload_n 1, 1) := by decide +kernel
theorem d_Mo_at_28 : decode prog_7_method_10_code 28 = .ok (.iconst 1, 1) := by decide +kernel
theorem d_Mo_at_29 : decode prog_7_method_10_code 29 = .ok (.if_icmp .lt 34, 3) := by decide +kernel
theorem d_Mo_at_32 : decode prog_7_method_10_code 32 = .ok (.iload_n 1, 1) := by decide +kernel
theorem d_Mo_at_33 : decode prog_7_method_10_code 33 = .ok (.bipush 40, 2) := by decide +kernel
theorem d_Mo_at_35 : decode prog_7_method_10_code 35 = .ok (.if_icmp .gt 28, 3) := by decide +kernel
theorem d_Mo_at_38 : decode prog_7_method_10_code 38 = .ok (.aload_n 0, 1) := by decide +kernel
theorem d_Mo_at_39 : decode prog_7_method_10_code 39 = .ok (.getfield 44, 3) := by decide +kernel
theorem d_Mo_at_42 : decode prog_7_method_10_code 42 = .ok (.iload_n 1, 1) := by decide +kernel
theorem d_Mo_at_43 : decode prog_7_method_10_code 43 = .ok (.isub, 1) := by decide +kernel
theorem d_Mo_at_44 : decode prog_7_method_10_code 44 = .ok (.iconst 1, 1) := by decide +kernel
theorem d_Mo_at_45 : decode prog_7_method_10_code 45 = .ok (.isub, 1) := by decide +kernel
theorem d_Mo_at_46 : decode prog_7_method_10_code 46 = .ok (.iconst 1, 1) := by decide +kernel
theorem d_Mo_at_47 : decode prog_7_method_10_code 47 = .ok (.if_icmp .lt 16, 3) := by decide +kernel
theorem d_Mo_at_50 : decode prog_7_method_10_code 50 = .ok (.aload_n 0, 1) := by decide +kernel
theorem d_Mo_at_51 : decode prog_7_method_10_code 51 = .ok (.getfield 44, 3) := by decide +kernel
theorem d_Mo_at_54 : decode prog_7_method_10_code 54 = .ok (.iload_n 1, 1) := by decide +kernel
theorem d_Mo_at_55 : decode prog_7_method_10_code 55 = .ok (.isub, 1) := by decide +kernel
theorem d_Mo_at_56 : decode prog_7_method_10_code 56 = .ok (.iconst 1, 1) := by decide +kernel
theorem d_Mo_at_57 : decode prog_7_method_10_code 57 = .ok (.isub, 1) := by decide +kernel
theorem d_Mo_at_58 : decode prog_7_method_10_code 58 = .ok (.bipush 60, 2) := by decide +kernel
theorem d_Mo_at_60 : decode prog_7_method_10_code 60 = .ok (.if_icmp .le 5, 3) := by decide +kernel
theorem d_Mo_at_63 : decode prog_7_method_10_code 63 = .ok (.iconst (-1), 1) := by decide +kernel
theorem d_Mo_at_64 : decode prog_7_method_10_code 64 = .ok (.ireturn, 1) := by decide +kernel
theorem d_Mo_at_65 : decode prog_7_method_10_code 65 = .ok (.iconst 0, 1) := by decide +kernel
theorem d_Mo_at_66 : decode prog_7_method_10_code 66 = .ok (.istore_n 2, 1) := by decide +kernel
theorem d_Mo_at_67 : decode prog_7_method_10_code 67 = .ok (.iload_n 2, 1) := by decide +kernel
theorem d_Mo_at_68 : decode prog_7_method_10_code 68 = .ok (.aload_n 0, 1) := by decide +kernel
theorem d_Mo_at_69 : decode prog_7_method_10_code 69 = .ok (.getfield 44, 3) := by decide +kernel
theorem d_Mo_at_72 : decode prog_7_method_10_code 72 = .ok (.if_icmp .ge 148, 3) := by decide +kernel
theorem d_Mo_at_75 : decode prog_7_method_10_code 75 = .ok (.aload_n 0, 1) := by decide +kernel
theorem d_Mo_at_76 : decode prog_7_method_10_code 76 = .ok (.getfield 41, 3) := by decide +kernel
theorem d_Mo_at_79 : decode prog_7_method_10_code 79 = .ok (.iload_n 2, 1) := by decide +kernel
theorem d_Mo_at_80 : decode prog_7_method_10_code 80 = .ok (.iaload, 1) := by decide +kernel
theorem d_Mo_at_81 : decode prog_7_method_10_code 81 = .ok (.bipush 46, 2) := by decide +kernel
theorem d_Mo_at_83 : decode prog_7_method_10_code 83 = .ok (.if_icmp .ne 7, 3) := by decide +kernel
theorem d_Mo_at_86 : decode prog_7_method_10_code 86 = .ok (.iconst 1, 1) := by decide +kernel
theorem d_Mo_at_87 : decode prog_7_method_10_code 87 = .ok (.goto 4, 3) := by decide +kernel
theorem d_Mo_at_90 : decode prog_7_method_10_code 90 = .ok (.iconst 0, 1) := by decide +kernel
theorem d_Mo_at_91 : decode prog_7_method_10_code 91 = .ok (.istore_n 3, 1) := by decide +kernel
theorem d_Mo_at_92 : decode prog_7_method_10_code 92 = .ok (.iload_n 2, 1) := by decide +kernel
theorem d_Mo_at_93 : decode prog_7_method_10_code 93 = .ok (.ifCond .eq 27, 3) := by decide +kernel
theorem d_Mo_at_96 : decode prog_7_method_10_code 96 = .ok (.iload_n 2, 1) := by decide +kernel
theorem d_Mo_at_97 : decode prog_7_method_10_code 97 = .ok (.iload_n 1, 1) := by decide +kernel
theorem d_Mo_at_98 : decode prog_7_method_10_code 98 = .ok (.iconst 1, 1) := by decide +kernel
theorem d_Mo_at_99 : decode prog_7_method_10_code 99 = .ok (.isub, 1) := by decide +kernel
theorem d_Mo_at_100 : decode prog_7_method_10_code 100 = .ok (.if_icmp .eq 20, 3) := by decide +kernel
theorem d_Mo_at_103 : decode prog_7_method_10_code 103 = .ok (.iload_n 2, 1) := by decide +kernel
theorem d_Mo_at_104 : decode prog_7_method_10_code 104 = .ok (.iload_n 1, 1) := by decide +kernel
theorem d_Mo_at_105 : decode prog_7_method_10_code 105 = .ok (.iconst 1, 1) := by decide +kernel
theorem d_Mo_at_106 : decode prog_7_method_10_code 106 = .ok (.iadd, 1) := by decide +kernel
theorem d_Mo_at_107 : decode prog_7_method_10_code 107 = .ok (.if_icmp .eq 13, 3) := by decide +kernel
theorem d_Mo_at_110 : decode prog_7_method_10_code 110 = .ok (.iload_n 2, 1) := by decide +kernel
theorem d_Mo_at_111 : decode prog_7_method_10_code 111 = .ok (.aload_n 0, 1) := by decide +kernel
theorem d_Mo_at_112 : decode prog_7_method_10_code 112 = .ok (.getfield 44, 3) := by decide +kernel
theorem d_Mo_at_115 : decode prog_7_method_10_code 115 = .ok (.iconst 1, 1) := by decide +kernel
theorem d_Mo_at_116 : decode prog_7_method_10_code 116 = .ok (.isub, 1) := by decide +kernel
theorem d_Mo_at_117 : decode prog_7_method_10_code 117 = .ok (.if_icmp .ne 7, 3) := by decide +kernel
theorem d_Mo_at_120 : decode prog_7_method_10_code 120 = .ok (.iconst 1, 1) := by decide +kernel
theorem d_Mo_at_121 : decode prog_7_method_10_code 121 = .ok (.goto 4, 3) := by decide +kernel
theorem d_Mo_at_124 : decode prog_7_method_10_code 124 = .ok (.iconst 0, 1) := by decide +kernel
theorem d_Mo_at_125 : decode prog_7_method_10_code 125 = .ok (.istore 4, 2) := by decide +kernel
theorem d_Mo_at_127 : decode prog_7_method_10_code 127 = .ok (.iload_n 3, 1) := by decide +kernel
theorem d_Mo_at_128 : decode prog_7_method_10_code 128 = .ok (.ifCond .eq 23, 3) := by decide +kernel
theorem d_Mo_at_131 : decode prog_7_method_10_code 131 = .ok (.iload 4, 2) := by decide +kernel
theorem d_Mo_at_133 : decode prog_7_method_10_code 133 = .ok (.ifCond .ne 16, 3) := by decide +kernel
theorem d_Mo_at_136 : decode prog_7_method_10_code 136 = .ok (.aload_n 0, 1) := by decide +kernel
theorem d_Mo_at_137 : decode prog_7_method_10_code 137 = .ok (.getfield 41, 3) := by decide +kernel
theorem d_Mo_at_140 : decode prog_7_method_10_code 140 = .ok (.iload_n 2, 1) := by decide +kernel
theorem d_Mo_at_141 : decode prog_7_method_10_code 141 = .ok (.iconst 1, 1) := by decide +kernel
theorem d_Mo_at_142 : decode prog_7_method_10_code 142 = .ok (.isub, 1) := by decide +kernel
theorem d_Mo_at_143 : decode prog_7_method_10_code 143 = .ok (.iaload, 1) := by decide +kernel
theorem d_Mo_at_144 : decode prog_7_method_10_code 144 = .ok (.bipush 46, 2) := by decide +kernel
theorem d_Mo_at_146 : decode prog_7_method_10_code 146 = .ok (.if_icmp .ne 5, 3) := by decide +kernel
theorem d_Mo_at_149 : decode prog_7_method_10_code 149 = .ok (.iconst (-1), 1) := by decide +kernel
theorem d_Mo_at_150 : decode prog_7_method_10_code 150 = .ok (.ireturn, 1) := by decide +kernel
theorem d_Mo_at_151 : decode prog_7_method_10_code 151 = .ok (.iload_n 2, 1) := by decide +kernel
theorem d_Mo_at_152 : decode prog_7_method_10_code 152 = .ok (.iload_n 1, 1) := by decide +kernel
theorem d_Mo_at_153 : decode prog_7_method_10_code 153 = .ok (.if_icmp .ge 15, 3) := by decide +kernel
theorem d_Mo_at_156 : decode prog_7_method_10_code 156 = .ok (.aload_n 0, 1) := by decide +kernel
theorem d_Mo_at_157 : decode prog_7_method_10_code 157 = .ok (.getfield 41, 3) := by decide +kernel
theorem d_Mo_at_160 : decode prog_7_method_10_code 160 = .ok (.iload_n 2, 1) := by decide +kernel
theorem d_Mo_at_161 : decode prog_7_method_10_code 161 = .ok (.iaload, 1) := by decide +kernel
theorem d_Mo_at_162 : decode prog_7_method_10_code 162 = .ok (.invokestatic 68, 3) := by decide +kernel
theorem d_Mo_at_165 : decode prog_7_method_10_code 165 = .ok (.goto 40, 3) := by decide +kernel
theorem d_Mo_at_168 : decode prog_7_method_10_code 168 = .ok (.iload_n 2, 1) := by decide +kernel
theorem d_Mo_at_169 : decode prog_7_method_10_code 169 = .ok (.iload_n 1, 1) := by decide +kernel
theorem d_Mo_at_170 : decode prog_7_method_10_code 170 = .ok (.if_icmp .eq 30, 3) := by decide +kernel
theorem d_Mo_at_173 : decode prog_7_method_10_code 173 = .ok (.aload_n 0, 1) := by decide +kernel
theorem d_Mo_at_174 : decode prog_7_method_10_code 174 = .ok (.getfield 41, 3) := by decide +kernel
theorem d_Mo_at_177 : decode prog_7_method_10_code 177 = .ok (.iload_n 2, 1) := by decide +kernel
theorem d_Mo_at_178 : decode prog_7_method_10_code 178 = .ok (.iaload, 1) := by decide +kernel
theorem d_Mo_at_179 : decode prog_7_method_10_code 179 = .ok (.invokestatic 65, 3) := by decide +kernel
theorem d_Mo_at_182 : decode prog_7_method_10_code 182 = .ok (.ifCond .ne 18, 3) := by decide +kernel
theorem d_Mo_at_185 : decode prog_7_method_10_code 185 = .ok (.aload_n 0, 1) := by decide +kernel
theorem d_Mo_at_186 : decode prog_7_method_10_code 186 = .ok (.getfield 41, 3) := by decide +kernel
theorem d_Mo_at_189 : decode prog_7_method_10_code 189 = .ok (.iload_n 2, 1) := by decide +kernel
theorem d_Mo_at_190 : decode prog_7_method_10_code 190 = .ok (.iaload, 1) := by decide +kernel
theorem d_Mo_at_191 : decode prog_7_method_10_code 191 = .ok (.bipush 45, 2) := by decide +kernel
theorem d_Mo_at_193 : decode prog_7_method_10_code 193 = .ok (.if_icmp .eq 7, 3) := by decide +kernel
theorem d_Mo_at_196 : decode prog_7_method_10_code 196 = .ok (.iload_n 3, 1) := by decide +kernel
theorem d_Mo_at_197 : decode prog_7_method_10_code 197 = .ok (.ifCond .eq 7, 3) := by decide +kernel
theorem d_Mo_at_200 : decode prog_7_method_10_code 200 = .ok (.iconst 1, 1) := by decide +kernel
theorem d_Mo_at_201 : decode prog_7_method_10_code 201 = .ok (.goto 4, 3) := by decide +kernel
theorem d_Mo_at_204 : decode prog_7_method_10_code 204 = .ok (.iconst 0, 1) := by decide +kernel
theorem d_Mo_at_205 : decode prog_7_method_10_code 205 = .ok (.istore 5, 2) := by decide +kernel
theorem d_Mo_at_207 : decode prog_7_method_10_code 207 = .ok (.iload 5, 2) := by decide +kernel
theorem d_Mo_at_209 : decode prog_7_method_10_code 209 = .ok (.ifCond .ne 5, 3) := by decide +kernel
theorem d_Mo_at_212 : decode prog_7_method_10_code 212 = .ok (.iconst (-1), 1) := by decide +kernel
theorem d_Mo_at_213 : decode prog_7_method_10_code 213 = .ok (.ireturn, 1) := by decide +kernel
theorem d_Mo_at_214 : decode prog_7_method_10_code 214 = .ok (.iinc 2 1, 3) := by decide +kernel
theorem d_Mo_at_217 : decode prog_7_method_10_code 217 = .ok (.goto (-150), 3) := by decide +kernel
theorem d_Mo_at_220 : decode prog_7_method_10_code 220 = .ok (.iload_n 1, 1) := by decide +kernel
theorem d_Mo_at_221 : decode prog_7_method_10_code 221 = .ok (.ireturn, 1) := by decide +kernel
theorem d_Mo_onePart_0 : decode prog_7_method_12_code 0 = .ok (.iconst 0, 1) := by decide +kernel
theorem d_Mo_onePart_1 : decode prog_7_method_12_code 1 = .ok (.istore_n 2, 1) := by decide +kernel
theorem d_Mo_onePart_2 : decode prog_7_method_12_code 2 = .ok (.iconst 0, 1) := by decide +kernel
theorem d_Mo_onePart_3 : decode prog_7_method_12_code 3 = .ok (.istore_n 3, 1) := by decide +kernel
theorem d_Mo_onePart_4 : decode prog_7_method_12_code 4 = .ok (.iconst 0, 1) := by decide +kernel
theorem d_Mo_onePart_5 : decode prog_7_method_12_code 5 = .ok (.istore 4, 2) := by decide +kernel
theorem d_Mo_onePart_7 : decode prog_7_method_12_code 7 = .ok (.iconst 0, 1) := by decide +kernel
theorem d_Mo_onePart_8 : decode prog_7_method_12_code 8 = .ok (.istore 5, 2) := by decide +kernel
theorem d_Mo_onePart_10 : decode prog_7_method_12_code 10 = .ok (.iload_n 1, 1) := by decide +kernel
theorem d_Mo_onePart_11 : decode prog_7_method_12_code 11 = .ok (.istore 6, 2) := by decide +kernel
theorem d_Mo_onePart_13 : decode prog_7_method_12_code 13 = .ok (.aload_n 0, 1) := by decide +kernel
theorem d_Mo_onePart_14 : decode prog_7_method_12_code 14 = .ok (.iconst 0, 1) := by decide +kernel
theorem d_Mo_onePart_15 : decode prog_7_method_12_code 15 = .ok (.putfield 44, 3) := by decide +kernel
theorem d_Mo_onePart_18 : decode prog_7_method_12_code 18 = .ok (.iload 6, 2) := by decide +kernel
theorem d_Mo_onePart_20 : decode prog_7_method_12_code 20 = .ok (.aload_n 0, 1) := by decide +kernel
theorem d_Mo_onePart_21 : decode prog_7_method_12_code 21 = .ok (.getfield 35, 3) := by decide +kernel
theorem d_Mo_onePart_24 : decode prog_7_method_12_code 24 = .ok (.if_icmp .ge 312, 3) := by decide +kernel
theorem d_Mo_onePart_27 : decode prog_7_method_12_code 27 = .ok (.iload_n 2, 1) := by decide +kernel
theorem d_Mo_onePart_28 : decode prog_7_method_12_code 28 = .ok (.ifCond .ne 24, 3) := by decide +kernel
theorem d_Mo_onePart_31 : decode prog_7_method_12_code 31 = .ok (.iload_n 3, 1) := by decide +kernel
theorem d_Mo_onePart_32 : decode prog_7_method_12_code 32 = .ok (.ifCond .ne 20, 3) := by decide +kernel
theorem d_Mo_onePart_35 : decode prog_7_method_12_code 35 = .ok (.iload 4, 2) := by decide +kernel
theorem d_Mo_onePart_37 : decode prog_7_method_12_code 37 = .ok (.ifCond .gt 15, 3) := by decide +kernel
theorem d_Mo_onePart_40 : decode prog_7_method_12_code 40 = .ok (.aload_n 0, 1) := by decide +kernel
theorem d_Mo_onePart_41 : decode prog_7_method_12_code 41 = .ok (.getfield 32, 3) := by decide +kernel
theorem d_Mo_onePart_44 : decode prog_7_method_12_code 44 = .ok (.iload 6, 2) := by decide +kernel
theorem d_Mo_onePart_46 : decode prog_7_method_12_code 46 = .ok (.iaload, 1) := by decide +kernel
theorem d_Mo_onePart_47 : decode prog_7_method_12_code 47 = .ok (.bipush 44, 2) := by decide +kernel
theorem d_Mo_onePart_49 : decode prog_7_method_12_code 49 = .ok (.if_icmp .eq 287, 3) := by decide +kernel
theorem d_Mo_onePart_52 : decode prog_7_method_12_code 52 = .ok (.aload_n 0, 1) := by decide +kernel
theorem d_Mo_onePart_53 : decode prog_7_method_12_code 53 = .ok (.getfield 32, 3) := by decide +kernel
theorem d_Mo_onePart_56 : decode prog_7_method_12_code 56 = .ok (.iload 6, 2) := by decide +kernel
theorem d_Mo_onePart_58 : decode prog_7_method_12_code 58 = .ok (.iaload, 1) := by decide +kernel
theorem d_Mo_onePart_59 : decode prog_7_method_12_code 59 = .ok (.istore 7, 2) := by decide +kernel
theorem d_Mo_onePart_61 : decode prog_7_method_12_code 61 = .ok (.iload_n 2, 1) := by decide +kernel
theorem d_Mo_onePart_62 : decode prog_7_method_12_code 62 = .ok (.ifCond .ne 8, 3) := by decide +kernel
theorem d_Mo_onePart_65 : decode prog_7_method_12_code 65 = .ok (.iload 4, 2) := by decide +kernel
theorem d_Mo_onePart_67 : decode prog_7_method_12_code 67 = .ok (.ifCond .le 25, 3) := by decide +kernel
theorem d_Mo_onePart_70 : decode prog_7_method_12_code 70 = .ok (.iload 7, 2) := by decide +kernel
theorem d_Mo_onePart_72 : decode prog_7_method_12_code 72 = .ok (.bipush 92, 2) := by decide +kernel
theorem d_Mo_onePart_74 : decode prog_7_method_12_code 74 = .ok (.if_icmp .ne 18, 3) := by decide +kernel
theorem d_Mo_onePart_77 : decode prog_7_method_12_code 77 = .ok (.iload 6, 2) := by decide +kernel
theorem d_Mo_onePart_79 : decode prog_7_method_12_code 79 = .ok (.iconst 1, 1) := by decide +kernel
theorem d_Mo_onePart_80 : decode prog_7_method_12_code 80 = .ok (.iadd, 1) := by decide +kernel
theorem d_Mo_onePart_81 : decode prog_7_method_12_code 81 = .ok (.aload_n 0, 1) := by decide +kernel
theorem d_Mo_onePart_82 : decode prog_7_method_12_code 82 = .ok (.getfield 35, 3) := by decide +kernel
theorem d_Mo_onePart_85 : decode prog_7_method_12_code 85 = .ok (.if_icmp .ge 7, 3) := by decide +kernel
theorem d_Mo_onePart_88 : decode prog_7_method_12_code 88 = .ok (.iconst 1, 1) := by decide +kernel
theorem d_Mo_onePart_89 : decode prog_7_method_12_code 89 = .ok (.goto 4, 3) := by decide +kernel
theorem d_Mo_onePart_92 : decode prog_7_method_12_code 92 = .ok (.iconst 0, 1) := by decide +kernel
theorem d_Mo_onePart_93 : decode prog_7_method_12_code 93 = .ok (.istore 8, 2) := by decide +kernel
theorem d_Mo_onePart_95 : decode prog_7_method_12_code 95 = .ok (.iload 4, 2) := by decide +kernel
theorem d_Mo_onePart_97 : decode prog_7_method_12_code 97 = .ok (.ifCond .ne 13, 3) := by decide +kernel
theorem d_Mo_onePart_100 : decode prog_7_method_12_code 100 = .ok (.iload 5, 2) := by decide +kernel
theorem d_Mo_onePart_102 : decode prog_7_method_12_code 102 = .ok (.iconst 2, 1) := by decide +kernel
theorem d_Mo_onePart_103 : decode prog_7_method_12_code 103 = .ok (.if_icmp .ge 7, 3) := by decide +kernel
theorem d_Mo_onePart_106 : decode prog_7_method_12_code 106 = .ok (.iconst 1, 1) := by decide +kernel
theorem d_Mo_onePart_107 : decode prog_7_method_12_code 107 = .ok (.goto 4, 3) := by decide +kernel
theorem d_Mo_onePart_110 : decode prog_7_method_12_code 110 = .ok (.iconst 0, 1) := by decide +kernel
theorem d_Mo_onePart_111 : decode prog_7_method_12_code 111 = .ok (.istore 9, 2) := by decide +kernel
theorem d_Mo_onePart_113 : decode prog_7_method_12_code 113 = .ok (.iload 8, 2) := by decide +kernel
theorem d_Mo_onePart_115 : decode prog_7_method_12_code 115 = .ok (.ifCond .eq 44, 3) := by decide +kernel
theorem d_Mo_onePart_118 : decode prog_7_method_12_code 118 = .ok (.iload 9, 2) := by decide +kernel
theorem d_Mo_onePart_120 : decode prog_7_method_12_code 120 = .ok (.ifCond .eq 24, 3) := by decide +kernel
theorem d_Mo_onePart_123 : decode prog_7_method_12_code 123 = .ok (.aload_n 0, 1) := by decide +kernel
theorem d_Mo_onePart_124 : decode prog_7_method_12_code 124 = .ok (.getfield 41, 3) := by decide +kernel
theorem d_Mo_onePart_127 : decode prog_7_method_12_code 127 = .ok (.aload_n 0, 1) := by decide +kernel
theorem d_Mo_onePart_128 : decode prog_7_method_12_code 128 = .ok (.getfield 44, 3) := by decide +kernel
theorem d_Mo_onePart_131 : decode prog_7_method_12_code 131 = .ok (.iload 7, 2) := by decide +kernel
theorem d_Mo_onePart_133 : decode prog_7_method_12_code 133 = .ok (.iastore, 1) := by decide +kernel
theorem d_Mo_onePart_134 : decode prog_7_method_12_code 134 = .ok (.aload_n 0, 1) := by decide +kernel
theorem d_Mo_onePart_135 : decode prog_7_method_12_code 135 = .ok (.dup, 1) := by decide +kernel
theorem d_Mo_onePart_136 : decode prog_7_method_12_code 136 = .ok (.getfield 44, 3) := by decide +kernel
theorem d_Mo_onePart_139 : decode prog_7_method_12_code 139 = .ok (.iconst 1, 1) := by decide +kernel
theorem d_Mo_onePart_140 : decode prog_7_method_12_code 140 = .ok (.iadd, 1) := by decide +kernel
theorem d_Mo_onePart_141 : decode prog_7_method_12_code 141 = .ok (.putfield 44, 3) := by decide +kernel
theorem d_Mo_onePart_144 : decode prog_7_method_12_code 144 = .ok (.iinc 6 1, 3) := by decide +kernel
theorem d_Mo_onePart_147 : decode prog_7_method_12_code 147 = .ok (.aload_n 0, 1) := by decide +kernel
theorem d_Mo_onePart_148 : decode prog_7_method_12_code 148 = .ok (.getfield 32, 3) := by decide +kernel
theorem d_Mo_onePart_151 : decode prog_7_method_12_code 151 = .ok (.iload 6, 2) := by decide +kernel
theorem d_Mo_onePart_153 : decode prog_7_method_12_code 153 = .ok (.iaload, 1) := by decide +kernel
theorem d_Mo_onePart_154 : decode prog_7_method_12_code 154 = .ok (.istore 7, 2) := by decide +kernel
theorem d_Mo_onePart_156 : decode prog_7_method_12_code 156 = .ok (.goto 148, 3) := by decide +kernel
theorem d_Mo_onePart_159 : decode prog_7_method_12_code 159 = .ok (.iload_n 2, 1) := by decide +kernel
theorem d_Mo_onePart_160 : decode prog_7_method_12_code 160 = .ok (.ifCond .eq 19, 3) := by decide +kernel
theorem d_Mo_onePart_163 : decode prog_7_method_12_code 163 = .ok (.iload 7, 2) := by decide +kernel
theorem d_Mo_onePart_165 : decode prog_7_method_12_code 165 = .ok (.bipush 34, 2) := by decide +kernel
theorem d_Mo_onePart_167 : decode prog_7_method_12_code 167 = .ok (.if_icmp .eq 7, 3) := by decide +kernel
theorem d_Mo_onePart_170 : decode prog_7_method_12_code 170 = .ok (.iconst 1, 1) := by decide +kernel
theorem d_Mo_onePart_171 : decode prog_7_method_12_code 171 = .ok (.goto 4, 3) := by decide +kernel
theorem d_Mo_onePart_174 : decode prog_7_method_12_code 174 = .ok (.iconst 0, 1) := by decide +kernel
theorem d_Mo_onePart_175 : decode prog_7_method_12_code 175 = .ok (.istore_n 2, 1) := by decide +kernel
theorem d_Mo_onePart_176 : decode prog_7_method_12_code 176 = .ok (.goto 128, 3) := by decide +kernel
theorem d_Mo_onePart_179 : decode prog_7_method_12_code 179 = .ok (.iload 4, 2) := by decide +kernel
theorem d_Mo_onePart_181 : decode prog_7_method_12_code 181 = .ok (.ifCond .le 34, 3) := by decide +kernel
theorem d_Mo_onePart_184 : decode prog_7_method_12_code 184 = .ok (.iload 4, 2) := by decide +kernel
theorem d_Mo_onePart_186 : decode prog_7_method_12_code 186 = .ok (.iload 7, 2) := by decide +kernel
theorem d_Mo_onePart_188 : decode prog_7_method_12_code 188 = .ok (.bipush 40, 2) := by decide +kernel
theorem d_Mo_onePart_190 : decode prog_7_method_12_code 190 = .ok (.if_icmp .ne 7, 3) := by decide +kernel
theorem d_Mo_onePart_193 : decode prog_7_method_12_code 193 = .ok (.iconst 1, 1) := by decide +kernel
theorem d_Mo_onePart_194 : decode prog_7_method_12_code 194 = .ok (.goto 15, 3) := by decide +kernel
theorem d_Mo_onePart_197 : decode prog_7_method_12_code 197 = .ok (.iload 7, 2) := by decide +kernel
theorem d_Mo_onePart_199 : decode prog_7_method_12_code 199 = .ok (.bipush 41, 2) := by decide +kernel
theorem d_Mo_onePart_201 : decode prog_7_method_12_code 201 = .ok (.if_icmp .ne 7, 3) := by decide +kernel
theorem d_Mo_onePart_204 : decode prog_7_method_12_code 204 = .ok (.iconst (-1), 1) := by decide +kernel
theorem d_Mo_onePart_205 : decode prog_7_method_12_code 205 = .ok (.goto 4, 3) := by decide +kernel
theorem d_Mo_onePart_208 : decode prog_7_method_12_code 208 = .ok (.iconst 0, 1) := by decide +kernel
theorem d_Mo_onePart_209 : decode prog_7_method_12_code 209 = .ok (.iadd, 1) := by decide +kernel
theorem d_Mo_onePart_210 : decode prog_7_method_12_code 210 = .ok (.istore 4, 2) := by decide +kernel
theorem d_Mo_onePart_212 : decode prog_7_method_12_code 212 = .ok (.goto 92, 3) := by decide +kernel
theorem d_Mo_onePart_215 : decode prog_7_method_12_code 215 = .ok (.iload 7, 2) := by decide +kernel
theorem d_Mo_onePart_217 : decode prog_7_method_12_code 217 = .ok (.bipush 40, 2) := by decide +kernel
theorem d_Mo_onePart_219 : decode prog_7_method_12_code 219 = .ok (.if_icmp .ne 12, 3) := by decide +kernel
theorem d_Mo_onePart_222 : decode prog_7_method_12_code 222 = .ok (.iconst 1, 1) := by decide +kernel
theorem d_Mo_onePart_223 : decode prog_7_method_12_code 223 = .ok (.istore 4, 2) := by decide +kernel
theorem d_Mo_onePart_225 : decode prog_7_method_12_code 225 = .ok (.iconst 0, 1) := by decide +kernel
theorem d_Mo_onePart_226 : decode prog_7_method_12_code 226 = .ok (.istore 9, 2) := by decide +kernel
theorem d_Mo_onePart_228 : decode prog_7_method_12_code 228 = .ok (.goto 76, 3) := by decide +kernel
theorem d_Mo_onePart_231 : decode prog_7_method_12_code 231 = .ok (.iload 7, 2) := by decide +kernel
theorem d_Mo_onePart_233 : decode prog_7_method_12_code 233 = .ok (.bipush 34, 2) := by decide +kernel
theorem d_Mo_onePart_235 : decode prog_7_method_12_code 235 = .ok (.if_icmp .ne 8, 3) := by decide +kernel
theorem d_Mo_onePart_238 : decode prog_7_method_12_code 238 = .ok (.iconst 1, 1) := by decide +kernel
theorem d_Mo_onePart_239 : decode prog_7_method_12_code 239 = .ok (.istore_n 2, 1) := by decide +kernel
theorem d_Mo_onePart_240 : decode prog_7_method_12_code 240 = .ok (.goto 64, 3) := by decide +kernel
theorem d_Mo_onePart_243 : decode prog_7_method_12_code 243 = .ok (.iload_n 3, 1) := by decide +kernel
theorem d_Mo_onePart_244 : decode prog_7_method_12_code 244 = .ok (.ifCond .eq 21, 3) := by decide +kernel
theorem d_Mo_onePart_247 : decode prog_7_method_12_code 247 = .ok (.iload 7, 2) := by decide +kernel
theorem d_Mo_onePart_249 : decode prog_7_method_12_code 249 = .ok (.bipush 62, 2) := by decide +kernel
theorem d_Mo_onePart_251 : decode prog_7_method_12_code 251 = .ok (.if_icmp .ne 14, 3) := by decide +kernel
theorem d_Mo_onePart_254 : decode prog_7_method_12_code 254 = .ok (.iconst 0, 1) := by decide +kernel
theorem d_Mo_onePart_255 : decode prog_7_method_12_code 255 = .ok (.istore_n 3, 1) := by decide +kernel
theorem d_Mo_onePart_256 : decode prog_7_method_12_code 256 = .ok (.iconst 2, 1) := by decide +kernel
theorem d_Mo_onePart_257 : decode prog_7_method_12_code 257 = .ok (.istore 5, 2) := by decide +kernel
theorem d_Mo_onePart_259 : decode prog_7_method_12_code 259 = .ok (.iconst 0, 1) := by decide +kernel
theorem d_Mo_onePart_260 : decode prog_7_method_12_code 260 = .ok (.istore 9, 2) := by decide +kernel
theorem d_Mo_onePart_262 : decode prog_7_method_12_code 262 = .ok (.goto 42, 3) := by decide +kernel
theorem d_Mo_onePart_265 : decode prog_7_method_12_code 265 = .ok (.iload 5, 2) := by decide +kernel
theorem d_Mo_onePart_267 : decode prog_7_method_12_code 267 = .ok (.ifCond .ne 26, 3) := by decide +kernel
theorem d_Mo_onePart_270 : decode prog_7_method_12_code 270 = .ok (.iload 7, 2) := by decide +kernel
theorem d_Mo_onePart_272 : decode prog_7_method_12_code 272 = .ok (.bipush 60, 2) := by decide +kernel
theorem d_Mo_onePart_274 : decode prog_7_method_12_code 274 = .ok (.if_icmp .ne 19, 3) := by decide +kernel
theorem d_Mo_onePart_277 : decode prog_7_method_12_code 277 = .ok (.iconst 1, 1) := by decide +kernel
theorem d_Mo_onePart_278 : decode prog_7_method_12_code 278 = .ok (.istore_n 3, 1) := by decide +kernel
theorem d_Mo_onePart_279 : decode prog_7_method_12_code 279 = .ok (.iconst 1, 1) := by decide +kernel
theorem d_Mo_onePart_280 : decode prog_7_method_12_code 280 = .ok (.istore 5, 2) := by decide +kernel
theorem d_Mo_onePart_282 : decode prog_7_method_12_code 282 = .ok (.aload_n 0, 1) := by decide +kernel
theorem d_Mo_onePart_283 : decode prog_7_method_12_code 283 = .ok (.iconst 0, 1) := by decide +kernel
theorem d_Mo_onePart_284 : decode prog_7_method_12_code 284 = .ok (.putfield 44, 3) := by decide +kernel
theorem d_Mo_onePart_287 : decode prog_7_method_12_code 287 = .ok (.iconst 0, 1) := by decide +kernel
theorem d_Mo_onePart_288 : decode prog_7_method_12_code 288 = .ok (.istore 9, 2) := by decide +kernel
theorem d_Mo_onePart_290 : decode prog_7_method_12_code 290 = .ok (.goto 14, 3) := by decide +kernel
theorem d_Mo_onePart_293 : decode prog_7_method_12_code 293 = .ok (.iload 7, 2) := by decide +kernel
theorem d_Mo_onePart_295 : decode prog_7_method_12_code 295 = .ok (.invokestatic 51, 3) := by decide +kernel
theorem d_Mo_onePart_298 : decode prog_7_method_12_code 298 = .ok (.ifCond .eq 6, 3) := by decide +kernel
theorem d_Mo_onePart_301 : decode prog_7_method_12_code 301 = .ok (.iconst 0, 1) := by decide +kernel
theorem d_Mo_onePart_302 : decode prog_7_method_12_code 302 = .ok (.istore 9, 2) := by decide +kernel
theorem d_Mo_onePart_304 : decode prog_7_method_12_code 304 = .ok (.iload 9, 2) := by decide +kernel
theorem d_Mo_onePart_306 : decode prog_7_method_12_code 306 = .ok (.ifCond .eq 24, 3) := by decide +kernel
theorem d_Mo_onePart_309 : decode prog_7_method_12_code 309 = .ok (.aload_n 0, 1) := by decide +kernel
theorem d_Mo_onePart_310 : decode prog_7_method_12_code 310 = .ok (.getfield 41, 3) := by decide +kernel
theorem d_Mo_onePart_313 : decode prog_7_method_12_code 313 = .ok (.aload_n 0, 1) := by decide +kernel
theorem d_Mo_onePart_314 : decode prog_7_method_12_code 314 = .ok (.getfield 44, 3) := by decide +kernel
theorem d_Mo_onePart_317 : decode prog_7_method_12_code 317 = .ok (.iload 7, 2) := by decide +kernel
theorem d_Mo_onePart_319 : decode prog_7_method_12_code 319 = .ok (.iastore, 1) := by decide +kernel
theorem d_Mo_onePart_320 : decode prog_7_method_12_code 320 = .ok (.aload_n 0, 1) := by decide +kernel
theorem d_Mo_onePart_321 : decode prog_7_method_12_code 321 = .ok (.dup, 1) := by decide +kernel
theorem d_Mo_onePart_322 : decode prog_7_method_12_code 322 = .ok (.getfield 44, 3) := by decide +kernel
theorem d_Mo_onePart_325 : decode prog_7_method_12_code 325 = .ok (.iconst 1, 1) := by decide +kernel
theorem d_Mo_onePart_326 : decode prog_7_method_12_code 326 = .ok (.iadd, 1) := by decide +kernel
theorem d_Mo_onePart_327 : decode prog_7_method_12_code 327 = .ok (.putfield 44, 3) := by decide +kernel
theorem d_Mo_onePart_330 : decode prog_7_method_12_code 330 = .ok (.iinc 6 1, 3) := by decide +kernel
theorem d_Mo_onePart_333 : decode prog_7_method_12_code 333 = .ok (.goto (-315), 3) := by decide +kernel
theorem d_Mo_onePart_336 : decode prog_7_method_12_code 336 = .ok (.iload 5, 2) := by decide +kernel
theorem d_Mo_onePart_338 : decode prog_7_method_12_code 338 = .ok (.iconst 1, 1) := by decide +kernel
theorem d_Mo_onePart_339 : decode prog_7_method_12_code 339 = .ok (.if_icmp .ne 8, 3) := by decide +kernel
theorem d_Mo_onePart_342 : decode prog_7_method_12_code 342 = .ok (.aload_n 0, 1) := by decide +kernel
theorem d_Mo_onePart_343 : decode prog_7_method_12_code 343 = .ok (.iconst 0, 1) := by decide +kernel
theorem d_Mo_onePart_344 : decode prog_7_method_12_code 344 = .ok (.putfield 44, 3) := by decide +kernel
theorem d_Mo_onePart_347 : decode prog_7_method_12_code 347 = .ok (.iload 6, 2) := by decide +kernel
theorem d_Mo_onePart_349 : decode prog_7_method_12_code 349 = .ok (.iconst 1, 1) := by decide +kernel
theorem d_Mo_onePart_350 : decode prog_7_method_12_code 350 = .ok (.iadd, 1) := by decide +kernel
theorem d_Mo_onePart_351 : decode prog_7_method_12_code 351 = .ok (.ireturn, 1) := by decide +kernel
theorem d_Mo_addressAt_0 : decode prog_7_method_11_code 0 = .ok (.iconst 0, 1) := by decide +kernel
theorem d_Mo_addressAt_1 : decode prog_7_method_11_code 1 = .ok (.istore_n 2, 1) := by decide +kernel
theorem d_Mo_addressAt_2 : decode prog_7_method_11_code 2 = .ok (.iconst (-1), 1) := by decide +kernel
theorem d_Mo_addressAt_3 : decode prog_7_method_11_code 3 = .ok (.istore_n 3, 1) := by decide +kernel
theorem d_Mo_addressAt_4 : decode prog_7_method_11_code 4 = .ok (.iload_n 2, 1) := by decide +kernel
theorem d_Mo_addressAt_5 : decode prog_7_method_11_code 5 = .ok (.aload_n 0, 1) := by decide +kernel
theorem d_Mo_addressAt_6 : decode prog_7_method_11_code 6 = .ok (.getfield 35, 3) := by decide +kernel
theorem d_Mo_addressAt_9 : decode prog_7_method_11_code 9 = .ok (.if_icmp .gt 39, 3) := by decide +kernel
theorem d_Mo_addressAt_12 : decode prog_7_method_11_code 12 = .ok (.aload_n 0, 1) := by decide +kernel
theorem d_Mo_addressAt_13 : decode prog_7_method_11_code 13 = .ok (.iload_n 2, 1) := by decide +kernel
theorem d_Mo_addressAt_14 : decode prog_7_method_11_code 14 = .ok (.invokevirtual 71, 3) := by decide +kernel
theorem d_Mo_addressAt_17 : decode prog_7_method_11_code 17 = .ok (.istore_n 2, 1) := by decide +kernel
theorem d_Mo_addressAt_18 : decode prog_7_method_11_code 18 = .ok (.aload_n 0, 1) := by decide +kernel
theorem d_Mo_addressAt_19 : decode prog_7_method_11_code 19 = .ok (.invokevirtual 74, 3) := by decide +kernel
theorem d_Mo_addressAt_22 : decode prog_7_method_11_code 22 = .ok (.istore 4, 2) := by decide +kernel
theorem d_Mo_addressAt_24 : decode prog_7_method_11_code 24 = .ok (.iload 4, 2) := by decide +kernel
theorem d_Mo_addressAt_26 : decode prog_7_method_11_code 26 = .ok (.ifCond .lt 6, 3) := by decide +kernel
theorem d_Mo_addressAt_29 : decode prog_7_method_11_code 29 = .ok (.iinc 3 1, 3) := by decide +kernel
theorem d_Mo_addressAt_32 : decode prog_7_method_11_code 32 = .ok (.iload 4, 2) := by decide +kernel
theorem d_Mo_addressAt_34 : decode prog_7_method_11_code 34 = .ok (.ifCond .lt 11, 3) := by decide +kernel
theorem d_Mo_addressAt_37 : decode prog_7_method_11_code 37 = .ok (.iload_n 3, 1) := by decide +kernel
theorem d_Mo_addressAt_38 : decode prog_7_method_11_code 38 = .ok (.iload_n 1, 1) := by decide +kernel
theorem d_Mo_addressAt_39 : decode prog_7_method_11_code 39 = .ok (.if_icmp .ne 6, 3) := by decide +kernel
theorem d_Mo_addressAt_42 : decode prog_7_method_11_code 42 = .ok (.iload 4, 2) := by decide +kernel
theorem d_Mo_addressAt_44 : decode prog_7_method_11_code 44 = .ok (.ireturn, 1) := by decide +kernel
theorem d_Mo_addressAt_45 : decode prog_7_method_11_code 45 = .ok (.goto (-41), 3) := by decide +kernel
theorem d_Mo_addressAt_48 : decode prog_7_method_11_code 48 = .ok (.iconst (-1), 1) := by decide +kernel
theorem d_Mo_addressAt_49 : decode prog_7_method_11_code 49 = .ok (.ireturn, 1) := by decide +kernel
theorem d_Mo_addresses_0 : decode prog_7_method_13_code 0 = .ok (.iconst 0, 1) := by decide +kernel
theorem d_Mo_addresses_1 : decode prog_7_method_13_code 1 = .ok (.istore_n 1, 1) := by decide +kernel
theorem d_Mo_addresses_2 : decode prog_7_method_13_code 2 = .ok (.iconst 0, 1) := by decide +kernel
theorem d_Mo_addresses_3 : decode prog_7_method_13_code 3 = .ok (.istore_n 2, 1) := by decide +kernel
theorem d_Mo_addresses_4 : decode prog_7_method_13_code 4 = .ok (.iload_n 2, 1) := by decide +kernel
theorem d_Mo_addresses_5 : decode prog_7_method_13_code 5 = .ok (.aload_n 0, 1) := by decide +kernel
theorem d_Mo_addresses_6 : decode prog_7_method_13_code 6 = .ok (.getfield 35, 3) := by decide +kernel
theorem d_Mo_addresses_9 : decode prog_7_method_13_code 9 = .ok (.if_icmp .gt 22, 3) := by decide +kernel
theorem d_Mo_addresses_12 : decode prog_7_method_13_code 12 = .ok (.aload_n 0, 1) := by decide +kernel
theorem d_Mo_addresses_13 : decode prog_7_method_13_code 13 = .ok (.iload_n 2, 1) := by decide +kernel
theorem d_Mo_addresses_14 : decode prog_7_method_13_code 14 = .ok (.invokevirtual 71, 3) := by decide +kernel
theorem d_Mo_addresses_17 : decode prog_7_method_13_code 17 = .ok (.istore_n 2, 1) := by decide +kernel
theorem d_Mo_addresses_18 : decode prog_7_method_13_code 18 = .ok (.aload_n 0, 1) := by decide +kernel
theorem d_Mo_addresses_19 : decode prog_7_method_13_code 19 = .ok (.invokevirtual 74, 3) := by decide +kernel
theorem d_Mo_addresses_22 : decode prog_7_method_13_code 22 = .ok (.ifCond .lt (-18), 3) := by decide +kernel
theorem d_Mo_addresses_25 : decode prog_7_method_13_code 25 = .ok (.iinc 1 1, 3) := by decide +kernel
theorem d_Mo_addresses_28 : decode prog_7_method_13_code 28 = .ok (.goto (-24), 3) := by decide +kernel
theorem d_Mo_addresses_31 : decode prog_7_method_13_code 31 = .ok (.iload_n 1, 1) := by decide +kernel
theorem d_Mo_addresses_32 : decode prog_7_method_13_code 32 = .ok (.ireturn, 1) := by decide +kernel
theorem d_Mo_eight_0 : decode prog_7_method_14_code 0 = .ok (.lconst 0, 1) := by decide +kernel
theorem d_Mo_eight_1 : decode prog_7_method_14_code 1 = .ok (.lstore_n 3, 1) := by decide +kernel
theorem d_Mo_eight_2 : decode prog_7_method_14_code 2 = .ok (.iconst 0, 1) := by decide +kernel
theorem d_Mo_eight_3 : decode prog_7_method_14_code 3 = .ok (.istore 5, 2) := by decide +kernel
theorem d_Mo_eight_5 : decode prog_7_method_14_code 5 = .ok (.iload 5, 2) := by decide +kernel
theorem d_Mo_eight_7 : decode prog_7_method_14_code 7 = .ok (.bipush 8, 2) := by decide +kernel
theorem d_Mo_eight_9 : decode prog_7_method_14_code 9 = .ok (.if_icmp .ge 34, 3) := by decide +kernel
theorem d_Mo_eight_12 : decode prog_7_method_14_code 12 = .ok (.lload_n 3, 1) := by decide +kernel
theorem d_Mo_eight_13 : decode prog_7_method_14_code 13 = .ok (.bipush 8, 2) := by decide +kernel
theorem d_Mo_eight_15 : decode prog_7_method_14_code 15 = .ok (.lshl, 1) := by decide +kernel
theorem d_Mo_eight_16 : decode prog_7_method_14_code 16 = .ok (.iload_n 2, 1) := by decide +kernel
theorem d_Mo_eight_17 : decode prog_7_method_14_code 17 = .ok (.iload_n 1, 1) := by decide +kernel
theorem d_Mo_eight_18 : decode prog_7_method_14_code 18 = .ok (.iload 5, 2) := by decide +kernel
theorem d_Mo_eight_20 : decode prog_7_method_14_code 20 = .ok (.isub, 1) := by decide +kernel
theorem d_Mo_eight_21 : decode prog_7_method_14_code 21 = .ok (.if_icmp .ge 12, 3) := by decide +kernel
theorem d_Mo_eight_24 : decode prog_7_method_14_code 24 = .ok (.aload_n 0, 1) := by decide +kernel
theorem d_Mo_eight_25 : decode prog_7_method_14_code 25 = .ok (.iload_n 2, 1) := by decide +kernel
theorem d_Mo_eight_26 : decode prog_7_method_14_code 26 = .ok (.iload 5, 2) := by decide +kernel
theorem d_Mo_eight_28 : decode prog_7_method_14_code 28 = .ok (.iadd, 1) := by decide +kernel
theorem d_Mo_eight_29 : decode prog_7_method_14_code 29 = .ok (.iaload, 1) := by decide +kernel
theorem d_Mo_eight_30 : decode prog_7_method_14_code 30 = .ok (.goto 4, 3) := by decide +kernel
theorem d_Mo_eight_33 : decode prog_7_method_14_code 33 = .ok (.iconst 0, 1) := by decide +kernel
theorem d_Mo_eight_34 : decode prog_7_method_14_code 34 = .ok (.i2l, 1) := by decide +kernel
theorem d_Mo_eight_35 : decode prog_7_method_14_code 35 = .ok (.lor, 1) := by decide +kernel
theorem d_Mo_eight_36 : decode prog_7_method_14_code 36 = .ok (.lstore_n 3, 1) := by decide +kernel
theorem d_Mo_eight_37 : decode prog_7_method_14_code 37 = .ok (.iinc 5 1, 3) := by decide +kernel
theorem d_Mo_eight_40 : decode prog_7_method_14_code 40 = .ok (.goto (-35), 3) := by decide +kernel
theorem d_Mo_eight_43 : decode prog_7_method_14_code 43 = .ok (.lload_n 3, 1) := by decide +kernel
theorem d_Mo_eight_44 : decode prog_7_method_14_code 44 = .ok (.lreturn, 1) := by decide +kernel
theorem d_Mo_put_0 : decode prog_7_method_16_code 0 = .ok (.aload_n 0, 1) := by decide +kernel
theorem d_Mo_put_1 : decode prog_7_method_16_code 1 = .ok (.iconst 0, 1) := by decide +kernel
theorem d_Mo_put_2 : decode prog_7_method_16_code 2 = .ok (.putfield 7, 3) := by decide +kernel
theorem d_Mo_put_5 : decode prog_7_method_16_code 5 = .ok (.iload_n 3, 1) := by decide +kernel
theorem d_Mo_put_6 : decode prog_7_method_16_code 6 = .ok (.iconst 1, 1) := by decide +kernel
theorem d_Mo_put_7 : decode prog_7_method_16_code 7 = .ok (.if_icmp .lt 21, 3) := by decide +kernel
theorem d_Mo_put_10 : decode prog_7_method_16_code 10 = .ok (.iload_n 3, 1) := by decide +kernel
theorem d_Mo_put_11 : decode prog_7_method_16_code 11 = .ok (.bipush 8, 2) := by decide +kernel
theorem d_Mo_put_13 : decode prog_7_method_16_code 13 = .ok (.if_icmp .gt 15, 3) := by decide +kernel
theorem d_Mo_put_16 : decode prog_7_method_16_code 16 = .ok (.aload_n 0, 1) := by decide +kernel
theorem d_Mo_put_17 : decode prog_7_method_16_code 17 = .ok (.getfield 17, 3) := by decide +kernel
theorem d_Mo_put_20 : decode prog_7_method_16_code 20 = .ok (.iload_n 3, 1) := by decide +kernel
theorem d_Mo_put_21 : decode prog_7_method_16_code 21 = .ok (.iadd, 1) := by decide +kernel
theorem d_Mo_put_22 : decode prog_7_method_16_code 22 = .ok (.sipush 300, 3) := by decide +kernel
theorem d_Mo_put_25 : decode prog_7_method_16_code 25 = .ok (.if_icmp .le 5, 3) := by decide +kernel
theorem d_Mo_put_28 : decode prog_7_method_16_code 28 = .ok (.iconst 0, 1) := by decide +kernel
theorem d_Mo_put_29 : decode prog_7_method_16_code 29 = .ok (.ireturn, 1) := by decide +kernel
theorem d_Mo_put_30 : decode prog_7_method_16_code 30 = .ok (.iload_n 3, 1) := by decide +kernel
theorem d_Mo_put_31 : decode prog_7_method_16_code 31 = .ok (.iconst 1, 1) := by decide +kernel
theorem d_Mo_put_32 : decode prog_7_method_16_code 32 = .ok (.isub, 1) := by decide +kernel
theorem d_Mo_put_33 : decode prog_7_method_16_code 33 = .ok (.istore 4, 2) := by decide +kernel
theorem d_Mo_put_35 : decode prog_7_method_16_code 35 = .ok (.iload 4, 2) := by decide +kernel
theorem d_Mo_put_37 : decode prog_7_method_16_code 37 = .ok (.ifCond .lt 40, 3) := by decide +kernel
theorem d_Mo_put_40 : decode prog_7_method_16_code 40 = .ok (.aload_n 0, 1) := by decide +kernel
theorem d_Mo_put_41 : decode prog_7_method_16_code 41 = .ok (.getfield 13, 3) := by decide +kernel
theorem d_Mo_put_44 : decode prog_7_method_16_code 44 = .ok (.aload_n 0, 1) := by decide +kernel
theorem d_Mo_put_45 : decode prog_7_method_16_code 45 = .ok (.getfield 17, 3) := by decide +kernel
theorem d_Mo_put_48 : decode prog_7_method_16_code 48 = .ok (.lload_n 1, 1) := by decide +kernel
theorem d_Mo_put_49 : decode prog_7_method_16_code 49 = .ok (.bipush 8, 2) := by decide +kernel
theorem d_Mo_put_51 : decode prog_7_method_16_code 51 = .ok (.iload 4, 2) := by decide +kernel
theorem d_Mo_put_53 : decode prog_7_method_16_code 53 = .ok (.imul, 1) := by decide +kernel
theorem d_Mo_put_54 : decode prog_7_method_16_code 54 = .ok (.lushr, 1) := by decide +kernel
theorem d_Mo_put_55 : decode prog_7_method_16_code 55 = .ok (.l2i, 1) := by decide +kernel
theorem d_Mo_put_56 : decode prog_7_method_16_code 56 = .ok (.sipush 255, 3) := by decide +kernel
theorem d_Mo_put_59 : decode prog_7_method_16_code 59 = .ok (.iand, 1) := by decide +kernel
theorem d_Mo_put_60 : decode prog_7_method_16_code 60 = .ok (.iastore, 1) := by decide +kernel
theorem d_Mo_put_61 : decode prog_7_method_16_code 61 = .ok (.aload_n 0, 1) := by decide +kernel
theorem d_Mo_put_62 : decode prog_7_method_16_code 62 = .ok (.dup, 1) := by decide +kernel
theorem d_Mo_put_63 : decode prog_7_method_16_code 63 = .ok (.getfield 17, 3) := by decide +kernel
theorem d_Mo_put_66 : decode prog_7_method_16_code 66 = .ok (.iconst 1, 1) := by decide +kernel
theorem d_Mo_put_67 : decode prog_7_method_16_code 67 = .ok (.iadd, 1) := by decide +kernel
theorem d_Mo_put_68 : decode prog_7_method_16_code 68 = .ok (.putfield 17, 3) := by decide +kernel
theorem d_Mo_put_71 : decode prog_7_method_16_code 71 = .ok (.iinc 4 (-1), 3) := by decide +kernel
theorem d_Mo_put_74 : decode prog_7_method_16_code 74 = .ok (.goto (-39), 3) := by decide +kernel
theorem d_Mo_put_77 : decode prog_7_method_16_code 77 = .ok (.iconst 1, 1) := by decide +kernel
theorem d_Mo_put_78 : decode prog_7_method_16_code 78 = .ok (.ireturn, 1) := by decide +kernel
theorem d_Mo_fields_0 : decode prog_7_method_17_code 0 = .ok (.iconst 0, 1) := by decide +kernel
theorem d_Mo_fields_1 : decode prog_7_method_17_code 1 = .ok (.istore_n 1, 1) := by decide +kernel
theorem d_Mo_fields_2 : decode prog_7_method_17_code 2 = .ok (.aload_n 0, 1) := by decide +kernel
theorem d_Mo_fields_3 : decode prog_7_method_17_code 3 = .ok (.iload_n 1, 1) := by decide +kernel
theorem d_Mo_fields_4 : decode prog_7_method_17_code 4 = .ok (.invokevirtual 78, 3) := by decide +kernel
theorem d_Mo_fields_7 : decode prog_7_method_17_code 7 = .ok (.ifCond .eq 9, 3) := by decide +kernel
theorem d_Mo_fields_10 : decode prog_7_method_17_code 10 = .ok (.iinc 1 1, 3) := by decide +kernel
theorem d_Mo_fields_13 : decode prog_7_method_17_code 13 = .ok (.goto (-11), 3) := by decide +kernel
theorem d_Mo_fields_16 : decode prog_7_method_17_code 16 = .ok (.iload_n 1, 1) := by decide +kernel
theorem d_Mo_fields_17 : decode prog_7_method_17_code 17 = .ok (.ireturn, 1) := by decide +kernel
theorem d_Mo_read_0 : decode prog_7_method_18_code 0 = .ok (.aload_n 0, 1) := by decide +kernel
theorem d_Mo_read_1 : decode prog_7_method_18_code 1 = .ok (.iconst 0, 1) := by decide +kernel
theorem d_Mo_read_2 : decode prog_7_method_18_code 2 = .ok (.putfield 7, 3) := by decide +kernel
theorem d_Mo_read_5 : decode prog_7_method_18_code 5 = .ok (.iconst 0, 1) := by decide +kernel
theorem d_Mo_read_6 : decode prog_7_method_18_code 6 = .ok (.istore_n 1, 1) := by decide +kernel
theorem d_Mo_read_7 : decode prog_7_method_18_code 7 = .ok (.iload_n 1, 1) := by decide +kernel
theorem d_Mo_read_8 : decode prog_7_method_18_code 8 = .ok (.aload_n 0, 1) := by decide +kernel
theorem d_Mo_read_9 : decode prog_7_method_18_code 9 = .ok (.getfield 17, 3) := by decide +kernel
theorem d_Mo_read_12 : decode prog_7_method_18_code 12 = .ok (.if_icmp .ge 21, 3) := by decide +kernel
theorem d_Mo_read_15 : decode prog_7_method_18_code 15 = .ok (.aload_n 0, 1) := by decide +kernel
theorem d_Mo_read_16 : decode prog_7_method_18_code 16 = .ok (.getfield 20, 3) := by decide +kernel
theorem d_Mo_read_19 : decode prog_7_method_18_code 19 = .ok (.iload_n 1, 1) := by decide +kernel
theorem d_Mo_read_20 : decode prog_7_method_18_code 20 = .ok (.aload_n 0, 1) := by decide +kernel
theorem d_Mo_read_21 : decode prog_7_method_18_code 21 = .ok (.getfield 13, 3) := by decide +kernel
theorem d_Mo_read_24 : decode prog_7_method_18_code 24 = .ok (.iload_n 1, 1) := by decide +kernel
theorem d_Mo_read_25 : decode prog_7_method_18_code 25 = .ok (.iaload, 1) := by decide +kernel
theorem d_Mo_read_26 : decode prog_7_method_18_code 26 = .ok (.iastore, 1) := by decide +kernel
theorem d_Mo_read_27 : decode prog_7_method_18_code 27 = .ok (.iinc 1 1, 3) := by decide +kernel
theorem d_Mo_read_30 : decode prog_7_method_18_code 30 = .ok (.goto (-23), 3) := by decide +kernel
theorem d_Mo_read_33 : decode prog_7_method_18_code 33 = .ok (.aload_n 0, 1) := by decide +kernel
theorem d_Mo_read_34 : decode prog_7_method_18_code 34 = .ok (.aload_n 0, 1) := by decide +kernel
theorem d_Mo_read_35 : decode prog_7_method_18_code 35 = .ok (.getfield 17, 3) := by decide +kernel
theorem d_Mo_read_38 : decode prog_7_method_18_code 38 = .ok (.putfield 23, 3) := by decide +kernel
theorem d_Mo_read_41 : decode prog_7_method_18_code 41 = .ok (.aload_n 0, 1) := by decide +kernel
theorem d_Mo_read_42 : decode prog_7_method_18_code 42 = .ok (.iconst 0, 1) := by decide +kernel
theorem d_Mo_read_43 : decode prog_7_method_18_code 43 = .ok (.putfield 17, 3) := by decide +kernel
theorem d_Mo_read_46 : decode prog_7_method_18_code 46 = .ok (.aload_n 0, 1) := by decide +kernel
theorem d_Mo_read_47 : decode prog_7_method_18_code 47 = .ok (.invokevirtual 81, 3) := by decide +kernel
theorem d_Mo_read_50 : decode prog_7_method_18_code 50 = .ok (.ireturn, 1) := by decide +kernel
theorem d_Mo_field_0 : decode prog_7_method_19_code 0 = .ok (.aload_n 0, 1) := by decide +kernel
theorem d_Mo_field_1 : decode prog_7_method_19_code 1 = .ok (.iconst 0, 1) := by decide +kernel
theorem d_Mo_field_2 : decode prog_7_method_19_code 2 = .ok (.putfield 7, 3) := by decide +kernel
theorem d_Mo_field_5 : decode prog_7_method_19_code 5 = .ok (.iload_n 1, 1) := by decide +kernel
theorem d_Mo_field_6 : decode prog_7_method_19_code 6 = .ok (.ifCond .lt 11, 3) := by decide +kernel
theorem d_Mo_field_9 : decode prog_7_method_19_code 9 = .ok (.aload_n 0, 1) := by decide +kernel
theorem d_Mo_field_10 : decode prog_7_method_19_code 10 = .ok (.iload_n 1, 1) := by decide +kernel
theorem d_Mo_field_11 : decode prog_7_method_19_code 11 = .ok (.invokevirtual 78, 3) := by decide +kernel
theorem d_Mo_field_14 : decode prog_7_method_19_code 14 = .ok (.ifCond .ne 5, 3) := by decide +kernel
theorem d_Mo_field_17 : decode prog_7_method_19_code 17 = .ok (.iconst (-1), 1) := by decide +kernel
theorem d_Mo_field_18 : decode prog_7_method_19_code 18 = .ok (.ireturn, 1) := by decide +kernel
theorem d_Mo_field_19 : decode prog_7_method_19_code 19 = .ok (.iload_n 2, 1) := by decide +kernel
theorem d_Mo_field_20 : decode prog_7_method_19_code 20 = .ok (.ifCond .ne 10, 3) := by decide +kernel
theorem d_Mo_field_23 : decode prog_7_method_19_code 23 = .ok (.aload_n 0, 1) := by decide +kernel
theorem d_Mo_field_24 : decode prog_7_method_19_code 24 = .ok (.getfield 29, 3) := by decide +kernel
theorem d_Mo_field_27 : decode prog_7_method_19_code 27 = .ok (.goto 28, 3) := by decide +kernel
theorem d_Mo_field_30 : decode prog_7_method_19_code 30 = .ok (.iload_n 2, 1) := by decide +kernel
theorem d_Mo_field_31 : decode prog_7_method_19_code 31 = .ok (.iconst 1, 1) := by decide +kernel
theorem d_Mo_field_32 : decode prog_7_method_19_code 32 = .ok (.if_icmp .ne 10, 3) := by decide +kernel
theorem d_Mo_field_35 : decode prog_7_method_19_code 35 = .ok (.aload_n 0, 1) := by decide +kernel
theorem d_Mo_field_36 : decode prog_7_method_19_code 36 = .ok (.getfield 35, 3) := by decide +kernel
theorem d_Mo_field_39 : decode prog_7_method_19_code 39 = .ok (.goto 16, 3) := by decide +kernel
theorem d_Mo_field_42 : decode prog_7_method_19_code 42 = .ok (.iload_n 2, 1) := by decide +kernel
theorem d_Mo_field_43 : decode prog_7_method_19_code 43 = .ok (.iconst 2, 1) := by decide +kernel
theorem d_Mo_field_44 : decode prog_7_method_19_code 44 = .ok (.if_icmp .ne 10, 3) := by decide +kernel
theorem d_Mo_field_47 : decode prog_7_method_19_code 47 = .ok (.aload_n 0, 1) := by decide +kernel
theorem d_Mo_field_48 : decode prog_7_method_19_code 48 = .ok (.invokevirtual 84, 3) := by decide +kernel
theorem d_Mo_field_51 : decode prog_7_method_19_code 51 = .ok (.goto 4, 3) := by decide +kernel
theorem d_Mo_field_54 : decode prog_7_method_19_code 54 = .ok (.iconst (-1), 1) := by decide +kernel
theorem d_Mo_field_55 : decode prog_7_method_19_code 55 = .ok (.ireturn, 1) := by decide +kernel
theorem d_Mo_bytes_0 : decode prog_7_method_20_code 0 = .ok (.aload_n 0, 1) := by decide +kernel
theorem d_Mo_bytes_1 : decode prog_7_method_20_code 1 = .ok (.iconst 0, 1) := by decide +kernel
theorem d_Mo_bytes_2 : decode prog_7_method_20_code 2 = .ok (.putfield 7, 3) := by decide +kernel
theorem d_Mo_bytes_5 : decode prog_7_method_20_code 5 = .ok (.iload_n 1, 1) := by decide +kernel
theorem d_Mo_bytes_6 : decode prog_7_method_20_code 6 = .ok (.ifCond .lt 24, 3) := by decide +kernel
theorem d_Mo_bytes_9 : decode prog_7_method_20_code 9 = .ok (.iload_n 2, 1) := by decide +kernel
theorem d_Mo_bytes_10 : decode prog_7_method_20_code 10 = .ok (.ifCond .lt 20, 3) := by decide +kernel
theorem d_Mo_bytes_13 : decode prog_7_method_20_code 13 = .ok (.iload_n 2, 1) := by decide +kernel
theorem d_Mo_bytes_14 : decode prog_7_method_20_code 14 = .ok (.iconst 1, 1) := by decide +kernel
theorem d_Mo_bytes_15 : decode prog_7_method_20_code 15 = .ok (.if_icmp .gt 15, 3) := by decide +kernel
theorem d_Mo_bytes_18 : decode prog_7_method_20_code 18 = .ok (.iload_n 3, 1) := by decide +kernel
theorem d_Mo_bytes_19 : decode prog_7_method_20_code 19 = .ok (.ifCond .lt 11, 3) := by decide +kernel
theorem d_Mo_bytes_22 : decode prog_7_method_20_code 22 = .ok (.aload_n 0, 1) := by decide +kernel
theorem d_Mo_bytes_23 : decode prog_7_method_20_code 23 = .ok (.iload_n 1, 1) := by decide +kernel
theorem d_Mo_bytes_24 : decode prog_7_method_20_code 24 = .ok (.invokevirtual 78, 3) := by decide +kernel
theorem d_Mo_bytes_27 : decode prog_7_method_20_code 27 = .ok (.ifCond .ne 7, 3) := by decide +kernel
theorem d_Mo_bytes_30 : decode prog_7_method_20_code 30 = .ok (.ldc2_w 87, 3) := by decide +kernel
theorem d_Mo_bytes_33 : decode prog_7_method_20_code 33 = .ok (.lreturn, 1) := by decide +kernel
theorem d_Mo_bytes_34 : decode prog_7_method_20_code 34 = .ok (.iload_n 2, 1) := by decide +kernel
theorem d_Mo_bytes_35 : decode prog_7_method_20_code 35 = .ok (.iconst 1, 1) := by decide +kernel
theorem d_Mo_bytes_36 : decode prog_7_method_20_code 36 = .ok (.if_icmp .ne 16, 3) := by decide +kernel
theorem d_Mo_bytes_39 : decode prog_7_method_20_code 39 = .ok (.aload_n 0, 1) := by decide +kernel
theorem d_Mo_bytes_40 : decode prog_7_method_20_code 40 = .ok (.getfield 32, 3) := by decide +kernel
theorem d_Mo_bytes_43 : decode prog_7_method_20_code 43 = .ok (.aload_n 0, 1) := by decide +kernel
theorem d_Mo_bytes_44 : decode prog_7_method_20_code 44 = .ok (.getfield 35, 3) := by decide +kernel
theorem d_Mo_bytes_47 : decode prog_7_method_20_code 47 = .ok (.iload_n 3, 1) := by decide +kernel
theorem d_Mo_bytes_48 : decode prog_7_method_20_code 48 = .ok (.invokestatic 89, 3) := by decide +kernel
theorem d_Mo_bytes_51 : decode prog_7_method_20_code 51 = .ok (.lreturn, 1) := by decide +kernel
theorem d_Mo_bytes_52 : decode prog_7_method_20_code 52 = .ok (.iconst 0, 1) := by decide +kernel
theorem d_Mo_bytes_53 : decode prog_7_method_20_code 53 = .ok (.istore 4, 2) := by decide +kernel
theorem d_Mo_bytes_55 : decode prog_7_method_20_code 55 = .ok (.iload 4, 2) := by decide +kernel
theorem d_Mo_bytes_57 : decode prog_7_method_20_code 57 = .ok (.aload_n 0, 1) := by decide +kernel
theorem d_Mo_bytes_58 : decode prog_7_method_20_code 58 = .ok (.getfield 29, 3) := by decide +kernel
theorem d_Mo_bytes_61 : decode prog_7_method_20_code 61 = .ok (.if_icmp .ge 28, 3) := by decide +kernel
theorem d_Mo_bytes_64 : decode prog_7_method_20_code 64 = .ok (.aload_n 0, 1) := by decide +kernel
theorem d_Mo_bytes_65 : decode prog_7_method_20_code 65 = .ok (.getfield 41, 3) := by decide +kernel
theorem d_Mo_bytes_68 : decode prog_7_method_20_code 68 = .ok (.iload 4, 2) := by decide +kernel
theorem d_Mo_bytes_70 : decode prog_7_method_20_code 70 = .ok (.aload_n 0, 1) := by decide +kernel
theorem d_Mo_bytes_71 : decode prog_7_method_20_code 71 = .ok (.getfield 20, 3) := by decide +kernel
theorem d_Mo_bytes_74 : decode prog_7_method_20_code 74 = .ok (.aload_n 0, 1) := by decide +kernel
theorem d_Mo_bytes_75 : decode prog_7_method_20_code 75 = .ok (.getfield 26, 3) := by decide +kernel
theorem d_Mo_bytes_78 : decode prog_7_method_20_code 78 = .ok (.iload 4, 2) := by decide +kernel
theorem d_Mo_bytes_80 : decode prog_7_method_20_code 80 = .ok (.iadd, 1) := by decide +kernel
theorem d_Mo_bytes_81 : decode prog_7_method_20_code 81 = .ok (.iaload, 1) := by decide +kernel
theorem d_Mo_bytes_82 : decode prog_7_method_20_code 82 = .ok (.iastore, 1) := by decide +kernel
theorem d_Mo_bytes_83 : decode prog_7_method_20_code 83 = .ok (.iinc 4 1, 3) := by decide +kernel
theorem d_Mo_bytes_86 : decode prog_7_method_20_code 86 = .ok (.goto (-31), 3) := by decide +kernel
theorem d_Mo_bytes_89 : decode prog_7_method_20_code 89 = .ok (.aload_n 0, 1) := by decide +kernel
theorem d_Mo_bytes_90 : decode prog_7_method_20_code 90 = .ok (.getfield 41, 3) := by decide +kernel
theorem d_Mo_bytes_93 : decode prog_7_method_20_code 93 = .ok (.aload_n 0, 1) := by decide +kernel
theorem d_Mo_bytes_94 : decode prog_7_method_20_code 94 = .ok (.getfield 29, 3) := by decide +kernel
theorem d_Mo_bytes_97 : decode prog_7_method_20_code 97 = .ok (.iload_n 3, 1) := by decide +kernel
theorem d_Mo_bytes_98 : decode prog_7_method_20_code 98 = .ok (.invokestatic 89, 3) := by decide +kernel
theorem d_Mo_bytes_101 : decode prog_7_method_20_code 101 = .ok (.lreturn, 1) := by decide +kernel
theorem d_Mo_address_0 : decode prog_7_method_21_code 0 = .ok (.aload_n 0, 1) := by decide +kernel
theorem d_Mo_address_1 : decode prog_7_method_21_code 1 = .ok (.iconst 0, 1) := by decide +kernel
theorem d_Mo_address_2 : decode prog_7_method_21_code 2 = .ok (.putfield 7, 3) := by decide +kernel
theorem d_Mo_address_5 : decode prog_7_method_21_code 5 = .ok (.iload_n 1, 1) := by decide +kernel
theorem d_Mo_address_6 : decode prog_7_method_21_code 6 = .ok (.ifCond .lt 19, 3) := by decide +kernel
theorem d_Mo_address_9 : decode prog_7_method_21_code 9 = .ok (.iload_n 2, 1) := by decide +kernel
theorem d_Mo_address_10 : decode prog_7_method_21_code 10 = .ok (.ifCond .lt 15, 3) := by decide +kernel
theorem d_Mo_address_13 : decode prog_7_method_21_code 13 = .ok (.iload_n 3, 1) := by decide +kernel
theorem d_Mo_address_14 : decode prog_7_method_21_code 14 = .ok (.ifCond .lt 11, 3) := by decide +kernel
theorem d_Mo_address_17 : decode prog_7_method_21_code 17 = .ok (.aload_n 0, 1) := by decide +kernel
theorem d_Mo_address_18 : decode prog_7_method_21_code 18 = .ok (.iload_n 1, 1) := by decide +kernel
theorem d_Mo_address_19 : decode prog_7_method_21_code 19 = .ok (.invokevirtual 78, 3) := by decide +kernel
theorem d_Mo_address_22 : decode prog_7_method_21_code 22 = .ok (.ifCond .ne 7, 3) := by decide +kernel
theorem d_Mo_address_25 : decode prog_7_method_21_code 25 = .ok (.ldc2_w 87, 3) := by decide +kernel
theorem d_Mo_address_28 : decode prog_7_method_21_code 28 = .ok (.lreturn, 1) := by decide +kernel
theorem d_Mo_address_29 : decode prog_7_method_21_code 29 = .ok (.aload_n 0, 1) := by decide +kernel
theorem d_Mo_address_30 : decode prog_7_method_21_code 30 = .ok (.iload_n 2, 1) := by decide +kernel
theorem d_Mo_address_31 : decode prog_7_method_21_code 31 = .ok (.invokevirtual 93, 3) := by decide +kernel
theorem d_Mo_address_34 : decode prog_7_method_21_code 34 = .ok (.ifCond .ge 9, 3) := by decide +kernel
theorem d_Mo_address_37 : decode prog_7_method_21_code 37 = .ok (.ldc2_w 87, 3) := by decide +kernel
theorem d_Mo_address_40 : decode prog_7_method_21_code 40 = .ok (.goto 15, 3) := by decide +kernel
theorem d_Mo_address_43 : decode prog_7_method_21_code 43 = .ok (.aload_n 0, 1) := by decide +kernel
theorem d_Mo_address_44 : decode prog_7_method_21_code 44 = .ok (.getfield 41, 3) := by decide +kernel
theorem d_Mo_address_47 : decode prog_7_method_21_code 47 = .ok (.aload_n 0, 1) := by decide +kernel
theorem d_Mo_address_48 : decode prog_7_method_21_code 48 = .ok (.getfield 44, 3) := by decide +kernel
theorem d_Mo_address_51 : decode prog_7_method_21_code 51 = .ok (.iload_n 3, 1) := by decide +kernel
theorem d_Mo_address_52 : decode prog_7_method_21_code 52 = .ok (.invokestatic 89, 3) := by decide +kernel
theorem d_Mo_address_55 : decode prog_7_method_21_code 55 = .ok (.lreturn, 1) := by decide +kernel
theorem d_Mo_part_0 : decode prog_7_method_22_code 0 = .ok (.aload_n 0, 1) := by decide +kernel
theorem d_Mo_part_1 : decode prog_7_method_22_code 1 = .ok (.iconst 0, 1) := by decide +kernel
theorem d_Mo_part_2 : decode prog_7_method_22_code 2 = .ok (.putfield 7, 3) := by decide +kernel
theorem d_Mo_part_5 : decode prog_7_method_22_code 5 = .ok (.iload_n 1, 1) := by decide +kernel
theorem d_Mo_part_6 : decode prog_7_method_22_code 6 = .ok (.ifCond .lt 15, 3) := by decide +kernel
theorem d_Mo_part_9 : decode prog_7_method_22_code 9 = .ok (.iload_n 2, 1) := by decide +kernel
theorem d_Mo_part_10 : decode prog_7_method_22_code 10 = .ok (.ifCond .lt 11, 3) := by decide +kernel
theorem d_Mo_part_13 : decode prog_7_method_22_code 13 = .ok (.aload_n 0, 1) := by decide +kernel
theorem d_Mo_part_14 : decode prog_7_method_22_code 14 = .ok (.iload_n 1, 1) := by decide +kernel
theorem d_Mo_part_15 : decode prog_7_method_22_code 15 = .ok (.invokevirtual 78, 3) := by decide +kernel
theorem d_Mo_part_18 : decode prog_7_method_22_code 18 = .ok (.ifCond .ne 5, 3) := by decide +kernel
theorem d_Mo_part_21 : decode prog_7_method_22_code 21 = .ok (.iconst (-1), 1) := by decide +kernel
theorem d_Mo_part_22 : decode prog_7_method_22_code 22 = .ok (.ireturn, 1) := by decide +kernel
theorem d_Mo_part_23 : decode prog_7_method_22_code 23 = .ok (.aload_n 0, 1) := by decide +kernel
theorem d_Mo_part_24 : decode prog_7_method_22_code 24 = .ok (.iload_n 2, 1) := by decide +kernel
theorem d_Mo_part_25 : decode prog_7_method_22_code 25 = .ok (.invokevirtual 93, 3) := by decide +kernel
theorem d_Mo_part_28 : decode prog_7_method_22_code 28 = .ok (.istore 4, 2) := by decide +kernel
theorem d_Mo_part_30 : decode prog_7_method_22_code 30 = .ok (.iload 4, 2) := by decide +kernel
theorem d_Mo_part_32 : decode prog_7_method_22_code 32 = .ok (.ifCond .ge 7, 3) := by decide +kernel
theorem d_Mo_part_35 : decode prog_7_method_22_code 35 = .ok (.iconst (-1), 1) := by decide +kernel
theorem d_Mo_part_36 : decode prog_7_method_22_code 36 = .ok (.goto 25, 3) := by decide +kernel
theorem d_Mo_part_39 : decode prog_7_method_22_code 39 = .ok (.iload_n 3, 1) := by decide +kernel
theorem d_Mo_part_40 : decode prog_7_method_22_code 40 = .ok (.ifCond .ne 10, 3) := by decide +kernel
theorem d_Mo_part_43 : decode prog_7_method_22_code 43 = .ok (.aload_n 0, 1) := by decide +kernel
theorem d_Mo_part_44 : decode prog_7_method_22_code 44 = .ok (.getfield 44, 3) := by decide +kernel
theorem d_Mo_part_47 : decode prog_7_method_22_code 47 = .ok (.goto 14, 3) := by decide +kernel
theorem d_Mo_part_50 : decode prog_7_method_22_code 50 = .ok (.iload_n 3, 1) := by decide +kernel
theorem d_Mo_part_51 : decode prog_7_method_22_code 51 = .ok (.iconst 1, 1) := by decide +kernel
theorem d_Mo_part_52 : decode prog_7_method_22_code 52 = .ok (.if_icmp .ne 8, 3) := by decide +kernel
theorem d_Mo_part_55 : decode prog_7_method_22_code 55 = .ok (.iload 4, 2) := by decide +kernel
theorem d_Mo_part_57 : decode prog_7_method_22_code 57 = .ok (.goto 4, 3) := by decide +kernel
theorem d_Mo_part_60 : decode prog_7_method_22_code 60 = .ok (.iconst (-1), 1) := by decide +kernel
theorem d_Mo_part_61 : decode prog_7_method_22_code 61 = .ok (.ireturn, 1) := by decide +kernel
theorem d_Mo_low_0 : decode prog_7_method_23_code 0 = .ok (.iload_n 0, 1) := by decide +kernel
theorem d_Mo_low_1 : decode prog_7_method_23_code 1 = .ok (.bipush 65, 2) := by decide +kernel
theorem d_Mo_low_3 : decode prog_7_method_23_code 3 = .ok (.if_icmp .lt 16, 3) := by decide +kernel
theorem d_Mo_low_6 : decode prog_7_method_23_code 6 = .ok (.iload_n 0, 1) := by decide +kernel
theorem d_Mo_low_7 : decode prog_7_method_23_code 7 = .ok (.bipush 90, 2) := by decide +kernel
theorem d_Mo_low_9 : decode prog_7_method_23_code 9 = .ok (.if_icmp .gt 10, 3) := by decide +kernel
theorem d_Mo_low_12 : decode prog_7_method_23_code 12 = .ok (.iload_n 0, 1) := by decide +kernel
theorem d_Mo_low_13 : decode prog_7_method_23_code 13 = .ok (.bipush 32, 2) := by decide +kernel
theorem d_Mo_low_15 : decode prog_7_method_23_code 15 = .ok (.iadd, 1) := by decide +kernel
theorem d_Mo_low_16 : decode prog_7_method_23_code 16 = .ok (.goto 4, 3) := by decide +kernel
theorem d_Mo_low_19 : decode prog_7_method_23_code 19 = .ok (.iload_n 0, 1) := by decide +kernel
theorem d_Mo_low_20 : decode prog_7_method_23_code 20 = .ok (.ireturn, 1) := by decide +kernel
theorem d_Mo_find_0 : decode prog_7_method_24_code 0 = .ok (.aload_n 0, 1) := by decide +kernel
theorem d_Mo_find_1 : decode prog_7_method_24_code 1 = .ok (.iconst 0, 1) := by decide +kernel
theorem d_Mo_find_2 : decode prog_7_method_24_code 2 = .ok (.putfield 7, 3) := by decide +kernel
theorem d_Mo_find_5 : decode prog_7_method_24_code 5 = .ok (.iload_n 2, 1) := by decide +kernel
theorem d_Mo_find_6 : decode prog_7_method_24_code 6 = .ok (.ifCond .lt 11, 3) := by decide +kernel
theorem d_Mo_find_9 : decode prog_7_method_24_code 9 = .ok (.aload_n 0, 1) := by decide +kernel
theorem d_Mo_find_10 : decode prog_7_method_24_code 10 = .ok (.iload_n 2, 1) := by decide +kernel
theorem d_Mo_find_11 : decode prog_7_method_24_code 11 = .ok (.invokevirtual 78, 3) := by decide +kernel
theorem d_Mo_find_14 : decode prog_7_method_24_code 14 = .ok (.ifCond .ne 5, 3) := by decide +kernel
theorem d_Mo_find_17 : decode prog_7_method_24_code 17 = .ok (.iconst (-1), 1) := by decide +kernel
theorem d_Mo_find_18 : decode prog_7_method_24_code 18 = .ok (.ireturn, 1) := by decide +kernel
theorem d_Mo_find_19 : decode prog_7_method_24_code 19 = .ok (.aload_n 0, 1) := by decide +kernel
theorem d_Mo_find_20 : decode prog_7_method_24_code 20 = .ok (.getfield 26, 3) := by decide +kernel
theorem d_Mo_find_23 : decode prog_7_method_24_code 23 = .ok (.istore_n 3, 1) := by decide +kernel
theorem d_Mo_find_24 : decode prog_7_method_24_code 24 = .ok (.aload_n 0, 1) := by decide +kernel
theorem d_Mo_find_25 : decode prog_7_method_24_code 25 = .ok (.getfield 29, 3) := by decide +kernel
theorem d_Mo_find_28 : decode prog_7_method_24_code 28 = .ok (.istore 4, 2) := by decide +kernel
theorem d_Mo_find_30 : decode prog_7_method_24_code 30 = .ok (.iload_n 1, 1) := by decide +kernel
theorem d_Mo_find_31 : decode prog_7_method_24_code 31 = .ok (.ifCond .ge 7, 3) := by decide +kernel
theorem d_Mo_find_34 : decode prog_7_method_24_code 34 = .ok (.iconst 0, 1) := by decide +kernel
theorem d_Mo_find_35 : decode prog_7_method_24_code 35 = .ok (.goto 4, 3) := by decide +kernel
theorem d_Mo_find_38 : decode prog_7_method_24_code 38 = .ok (.iload_n 1, 1) := by decide +kernel
theorem d_Mo_find_39 : decode prog_7_method_24_code 39 = .ok (.istore 5, 2) := by decide +kernel
theorem d_Mo_find_41 : decode prog_7_method_24_code 41 = .ok (.aload_n 0, 1) := by decide +kernel
theorem d_Mo_find_42 : decode prog_7_method_24_code 42 = .ok (.iload 5, 2) := by decide +kernel
theorem d_Mo_find_44 : decode prog_7_method_24_code 44 = .ok (.invokevirtual 78, 3) := by decide +kernel
theorem d_Mo_find_47 : decode prog_7_method_24_code 47 = .ok (.ifCond .eq 91, 3) := by decide +kernel
theorem d_Mo_find_50 : decode prog_7_method_24_code 50 = .ok (.aload_n 0, 1) := by decide +kernel
theorem d_Mo_find_51 : decode prog_7_method_24_code 51 = .ok (.getfield 29, 3) := by decide +kernel
theorem d_Mo_find_54 : decode prog_7_method_24_code 54 = .ok (.iload 4, 2) := by decide +kernel
theorem d_Mo_find_56 : decode prog_7_method_24_code 56 = .ok (.if_icmp .ne 7, 3) := by decide +kernel
theorem d_Mo_find_59 : decode prog_7_method_24_code 59 = .ok (.iconst 1, 1) := by decide +kernel
theorem d_Mo_find_60 : decode prog_7_method_24_code 60 = .ok (.goto 4, 3) := by decide +kernel
theorem d_Mo_find_63 : decode prog_7_method_24_code 63 = .ok (.iconst 0, 1) := by decide +kernel
theorem d_Mo_find_64 : decode prog_7_method_24_code 64 = .ok (.istore 6, 2) := by decide +kernel
theorem d_Mo_find_66 : decode prog_7_method_24_code 66 = .ok (.iconst 0, 1) := by decide +kernel
theorem d_Mo_find_67 : decode prog_7_method_24_code 67 = .ok (.istore 7, 2) := by decide +kernel
theorem d_Mo_find_69 : decode prog_7_method_24_code 69 = .ok (.iload 7, 2) := by decide +kernel
theorem d_Mo_find_71 : decode prog_7_method_24_code 71 = .ok (.iload 4, 2) := by decide +kernel
theorem d_Mo_find_73 : decode prog_7_method_24_code 73 = .ok (.if_icmp .ge 51, 3) := by decide +kernel
theorem d_Mo_find_76 : decode prog_7_method_24_code 76 = .ok (.iload 6, 2) := by decide +kernel
theorem d_Mo_find_78 : decode prog_7_method_24_code 78 = .ok (.ifCond .eq 46, 3) := by decide +kernel
theorem d_Mo_find_81 : decode prog_7_method_24_code 81 = .ok (.aload_n 0, 1) := by decide +kernel
theorem d_Mo_find_82 : decode prog_7_method_24_code 82 = .ok (.getfield 20, 3) := by decide +kernel
theorem d_Mo_find_85 : decode prog_7_method_24_code 85 = .ok (.aload_n 0, 1) := by decide +kernel
theorem d_Mo_find_86 : decode prog_7_method_24_code 86 = .ok (.getfield 26, 3) := by decide +kernel
theorem d_Mo_find_89 : decode prog_7_method_24_code 89 = .ok (.iload 7, 2) := by decide +kernel
theorem d_Mo_find_91 : decode prog_7_method_24_code 91 = .ok (.iadd, 1) := by decide +kernel
theorem d_Mo_find_92 : decode prog_7_method_24_code 92 = .ok (.iaload, 1) := by decide +kernel
theorem d_Mo_find_93 : decode prog_7_method_24_code 93 = .ok (.invokestatic 96, 3) := by decide +kernel
theorem d_Mo_find_96 : decode prog_7_method_24_code 96 = .ok (.aload_n 0, 1) := by decide +kernel
theorem d_Mo_find_97 : decode prog_7_method_24_code 97 = .ok (.getfield 20, 3) := by decide +kernel
theorem d_Mo_find_100 : decode prog_7_method_24_code 100 = .ok (.iload_n 3, 1) := by decide +kernel
theorem d_Mo_find_101 : decode prog_7_method_24_code 101 = .ok (.iload 7, 2) := by decide +kernel
theorem d_Mo_find_103 : decode prog_7_method_24_code 103 = .ok (.iadd, 1) := by decide +kernel
theorem d_Mo_find_104 : decode prog_7_method_24_code 104 = .ok (.iaload, 1) := by decide +kernel
theorem d_Mo_find_105 : decode prog_7_method_24_code 105 = .ok (.invokestatic 96, 3) := by decide +kernel
theorem d_Mo_find_108 : decode prog_7_method_24_code 108 = .ok (.if_icmp .ne 7, 3) := by decide +kernel
theorem d_Mo_find_111 : decode prog_7_method_24_code 111 = .ok (.iconst 1, 1) := by decide +kernel
theorem d_Mo_find_112 : decode prog_7_method_24_code 112 = .ok (.goto 4, 3) := by decide +kernel
theorem d_Mo_find_115 : decode prog_7_method_24_code 115 = .ok (.iconst 0, 1) := by decide +kernel
theorem d_Mo_find_116 : decode prog_7_method_24_code 116 = .ok (.istore 6, 2) := by decide +kernel
theorem d_Mo_find_118 : decode prog_7_method_24_code 118 = .ok (.iinc 7 1, 3) := by decide +kernel
theorem d_Mo_find_121 : decode prog_7_method_24_code 121 = .ok (.goto (-52), 3) := by decide +kernel
theorem d_Mo_find_124 : decode prog_7_method_24_code 124 = .ok (.iload 6, 2) := by decide +kernel
theorem d_Mo_find_126 : decode prog_7_method_24_code 126 = .ok (.ifCond .eq 6, 3) := by decide +kernel
theorem d_Mo_find_129 : decode prog_7_method_24_code 129 = .ok (.iload 5, 2) := by decide +kernel
theorem d_Mo_find_131 : decode prog_7_method_24_code 131 = .ok (.ireturn, 1) := by decide +kernel
theorem d_Mo_find_132 : decode prog_7_method_24_code 132 = .ok (.iinc 5 1, 3) := by decide +kernel
theorem d_Mo_find_135 : decode prog_7_method_24_code 135 = .ok (.goto (-94), 3) := by decide +kernel
theorem d_Mo_find_138 : decode prog_7_method_24_code 138 = .ok (.iconst (-1), 1) := by decide +kernel
theorem d_Mo_find_139 : decode prog_7_method_24_code 139 = .ok (.ireturn, 1) := by decide +kernel
theorem d_Mo_count_0 : decode prog_7_method_25_code 0 = .ok (.aload_n 0, 1) := by decide +kernel
theorem d_Mo_count_1 : decode prog_7_method_25_code 1 = .ok (.iconst 0, 1) := by decide +kernel
theorem d_Mo_count_2 : decode prog_7_method_25_code 2 = .ok (.putfield 7, 3) := by decide +kernel
theorem d_Mo_count_5 : decode prog_7_method_25_code 5 = .ok (.iload_n 1, 1) := by decide +kernel
theorem d_Mo_count_6 : decode prog_7_method_25_code 6 = .ok (.ifCond .ne 8, 3) := by decide +kernel
theorem d_Mo_count_9 : decode prog_7_method_25_code 9 = .ok (.aload_n 0, 1) := by decide +kernel
theorem d_Mo_count_10 : decode prog_7_method_25_code 10 = .ok (.getfield 17, 3) := by decide +kernel
theorem d_Mo_count_13 : decode prog_7_method_25_code 13 = .ok (.ireturn, 1) := by decide +kernel
theorem d_Mo_count_14 : decode prog_7_method_25_code 14 = .ok (.aload_n 0, 1) := by decide +kernel
theorem d_Mo_count_15 : decode prog_7_method_25_code 15 = .ok (.invokevirtual 81, 3) := by decide +kernel
theorem d_Mo_count_18 : decode prog_7_method_25_code 18 = .ok (.istore_n 2, 1) := by decide +kernel
theorem d_Mo_count_19 : decode prog_7_method_25_code 19 = .ok (.aload_n 0, 1) := by decide +kernel
theorem d_Mo_count_20 : decode prog_7_method_25_code 20 = .ok (.getfield 38, 3) := by decide +kernel
theorem d_Mo_count_23 : decode prog_7_method_25_code 23 = .ok (.istore_n 3, 1) := by decide +kernel
theorem d_Mo_count_24 : decode prog_7_method_25_code 24 = .ok (.iload_n 1, 1) := by decide +kernel
theorem d_Mo_count_25 : decode prog_7_method_25_code 25 = .ok (.iconst 1, 1) := by decide +kernel
theorem d_Mo_count_26 : decode prog_7_method_25_code 26 = .ok (.if_icmp .ne 5, 3) := by decide +kernel
theorem d_Mo_count_29 : decode prog_7_method_25_code 29 = .ok (.iload_n 2, 1) := by decide +kernel
theorem d_Mo_count_30 : decode prog_7_method_25_code 30 = .ok (.ireturn, 1) := by decide +kernel
theorem d_Mo_count_31 : decode prog_7_method_25_code 31 = .ok (.iload_n 1, 1) := by decide +kernel
theorem d_Mo_count_32 : decode prog_7_method_25_code 32 = .ok (.iconst 2, 1) := by decide +kernel
theorem d_Mo_count_33 : decode prog_7_method_25_code 33 = .ok (.if_icmp .ne 5, 3) := by decide +kernel
theorem d_Mo_count_36 : decode prog_7_method_25_code 36 = .ok (.iload_n 3, 1) := by decide +kernel
theorem d_Mo_count_37 : decode prog_7_method_25_code 37 = .ok (.ireturn, 1) := by decide +kernel
theorem d_Mo_count_38 : decode prog_7_method_25_code 38 = .ok (.iconst 0, 1) := by decide +kernel
theorem d_Mo_count_39 : decode prog_7_method_25_code 39 = .ok (.istore 4, 2) := by decide +kernel
theorem d_Mo_count_41 : decode prog_7_method_25_code 41 = .ok (.iconst 0, 1) := by decide +kernel
theorem d_Mo_count_42 : decode prog_7_method_25_code 42 = .ok (.istore 5, 2) := by decide +kernel
theorem d_Mo_count_44 : decode prog_7_method_25_code 44 = .ok (.iload 5, 2) := by decide +kernel
theorem d_Mo_count_46 : decode prog_7_method_25_code 46 = .ok (.iload_n 2, 1) := by decide +kernel
theorem d_Mo_count_47 : decode prog_7_method_25_code 47 = .ok (.if_icmp .ge 21, 3) := by decide +kernel
theorem d_Mo_count_50 : decode prog_7_method_25_code 50 = .ok (.iload 4, 2) := by decide +kernel
theorem d_Mo_count_52 : decode prog_7_method_25_code 52 = .ok (.aload_n 0, 1) := by decide +kernel
theorem d_Mo_count_53 : decode prog_7_method_25_code 53 = .ok (.iload 5, 2) := by decide +kernel
theorem d_Mo_count_55 : decode prog_7_method_25_code 55 = .ok (.iconst 2, 1) := by decide +kernel
theorem d_Mo_count_56 : decode prog_7_method_25_code 56 = .ok (.invokevirtual 99, 3) := by decide +kernel
theorem d_Mo_count_59 : decode prog_7_method_25_code 59 = .ok (.iadd, 1) := by decide +kernel
theorem d_Mo_count_60 : decode prog_7_method_25_code 60 = .ok (.istore 4, 2) := by decide +kernel
theorem d_Mo_count_62 : decode prog_7_method_25_code 62 = .ok (.iinc 5 1, 3) := by decide +kernel
theorem d_Mo_count_65 : decode prog_7_method_25_code 65 = .ok (.goto (-21), 3) := by decide +kernel
theorem d_Mo_count_68 : decode prog_7_method_25_code 68 = .ok (.iload_n 1, 1) := by decide +kernel
theorem d_Mo_count_69 : decode prog_7_method_25_code 69 = .ok (.iconst 3, 1) := by decide +kernel
theorem d_Mo_count_70 : decode prog_7_method_25_code 70 = .ok (.if_icmp .ne 8, 3) := by decide +kernel
theorem d_Mo_count_73 : decode prog_7_method_25_code 73 = .ok (.iload 4, 2) := by decide +kernel
theorem d_Mo_count_75 : decode prog_7_method_25_code 75 = .ok (.goto 4, 3) := by decide +kernel
theorem d_Mo_count_78 : decode prog_7_method_25_code 78 = .ok (.iconst (-1), 1) := by decide +kernel
theorem d_Mo_count_79 : decode prog_7_method_25_code 79 = .ok (.ireturn, 1) := by decide +kernel
theorem ok_Mo_init : okN y_Mo_init prog_7_method_1_code 1 0 := ⟨m_414, m_6, m_415, by decide +kernel, rfl⟩
theorem ok_Mo_blank : okS y_Mo_blank prog_7_method_2_code 1 (some .boolean) 1 := ⟨m_479, m_6, m_480, by decide +kernel⟩
theorem ok_Mo_lineEnd : okM y_Mo_lineEnd prog_7_method_3_code 3 (some .int) 1 := ⟨m_476, (List.mem_filter.mpr ⟨List.mem_append_left _ (List.mem_of_getElem? (i := 35) (by decide +kernel)), by decide +kernel⟩), m_6, m_477, by decide +kernel⟩
theorem ok_Mo_colon : okM y_Mo_colon prog_7_method_4_code 5 (some .int) 1 := ⟨m_472, (List.mem_filter.mpr ⟨List.mem_append_left _ (List.mem_of_getElem? (i := 34) (by decide +kernel)), by decide +kernel⟩), m_6, m_473, by decide +kernel⟩
theorem ok_Mo_takeLine : okM y_Mo_takeLine prog_7_method_6_code 4 none 1 := ⟨m_483, (List.mem_filter.mpr ⟨List.mem_append_left _ (List.mem_of_getElem? (i := 36) (by decide +kernel)), by decide +kernel⟩), m_6, m_484, by decide +kernel⟩
theorem ok_Mo_trim : okM y_Mo_trim prog_7_method_7_code 3 none 0 := ⟨m_487, (List.mem_filter.mpr ⟨List.mem_append_left _ (List.mem_of_getElem? (i := 37) (by decide +kernel)), by decide +kernel⟩), m_6, m_488, by decide +kernel⟩
theorem ok_Mo_look : okM y_Mo_look prog_7_method_5_code 4 (some .boolean) 1 := ⟨m_468, (List.mem_filter.mpr ⟨List.mem_append_left _ (List.mem_of_getElem? (i := 33) (by decide +kernel)), by decide +kernel⟩), m_6, m_469, by decide +kernel⟩
theorem ok_Mo_letter : okS y_Mo_letter prog_7_method_8_code 1 (some .boolean) 1 := ⟨m_509, m_6, m_510, by decide +kernel⟩
theorem ok_Mo_local : okS y_Mo_local prog_7_method_9_code 1 (some .boolean) 1 := ⟨m_506, m_6, m_507, by decide +kernel⟩
theorem ok_Mo_at : okM y_Mo_at prog_7_method_10_code 6 (some .int) 0 := ⟨m_503, (List.mem_filter.mpr ⟨List.mem_append_left _ (List.mem_of_getElem? (i := 40) (by decide +kernel)), by decide +kernel⟩), m_6, m_504, by decide +kernel⟩
theorem ok_Mo_onePart : okM y_Mo_onePart prog_7_method_12_code 10 (some .int) 1 := ⟨m_499, (List.mem_filter.mpr ⟨List.mem_append_left _ (List.mem_of_getElem? (i := 39) (by decide +kernel)), by decide +kernel⟩), m_6, m_500, by decide +kernel⟩
theorem ok_Mo_addressAt : okM y_Mo_addressAt prog_7_method_11_code 5 (some .int) 1 := ⟨m_525, (List.mem_filter.mpr ⟨List.mem_append_left _ (List.mem_of_getElem? (i := 41) (by decide +kernel)), by decide +kernel⟩), m_6, m_526, by decide +kernel⟩
theorem ok_Mo_addresses : okM y_Mo_addresses prog_7_method_13_code 3 (some .int) 0 := ⟨m_495, (List.mem_filter.mpr ⟨List.mem_append_left _ (List.mem_of_getElem? (i := 38) (by decide +kernel)), by decide +kernel⟩), m_6, m_496, by decide +kernel⟩
theorem ok_Mo_eight : okS y_Mo_eight prog_7_method_14_code 6 (some .long) 3 := ⟨m_517, m_6, m_518, by decide +kernel⟩
theorem ok_Mo_put : okM y_Mo_put prog_7_method_16_code 5 (some .boolean) 2 := ⟨m_455, m_456, m_6, m_457, by decide +kernel⟩
theorem ok_Mo_fields : okM y_Mo_fields prog_7_method_17_code 2 (some .int) 0 := ⟨m_464, (List.mem_filter.mpr ⟨List.mem_append_left _ (List.mem_of_getElem? (i := 32) (by decide +kernel)), by decide +kernel⟩), m_6, m_465, by decide +kernel⟩
theorem ok_Mo_read : okM y_Mo_read prog_7_method_18_code 2 (some .int) 0 := ⟨m_459, m_460, m_6, m_461, by decide +kernel⟩
theorem ok_Mo_field : okM y_Mo_field prog_7_method_19_code 3 (some .int) 2 := ⟨m_490, m_491, m_6, m_492, by decide +kernel⟩
theorem ok_Mo_bytes : okM y_Mo_bytes prog_7_method_20_code 5 (some .long) 3 := ⟨m_512, m_513, m_6, m_514, by decide +kernel⟩
theorem ok_Mo_address : okM y_Mo_address prog_7_method_21_code 4 (some .long) 3 := ⟨m_520, m_521, m_6, m_522, by decide +kernel⟩
theorem ok_Mo_part : okM y_Mo_part prog_7_method_22_code 5 (some .int) 3 := ⟨m_528, m_529, m_6, m_530, by decide +kernel⟩
theorem ok_Mo_low : okS y_Mo_low prog_7_method_23_code 1 (some .int) 1 := ⟨m_536, m_6, m_537, by decide +kernel⟩
theorem ok_Mo_find : okM y_Mo_find prog_7_method_24_code 8 (some .int) 2 := ⟨m_532, m_533, m_6, m_534, by decide +kernel⟩
theorem ok_Mo_count : okM y_Mo_count prog_7_method_25_code 6 (some .int) 1 := ⟨m_539, m_540, m_6, m_541, by decide +kernel⟩
def f_Mo_blank (N : Nat) (x0 : Int32) : Option (Int32) := (if x0 = 32 then some 1 else (if x0 = 9 then some 1 else some 0))
def f_Mo_lineEnd_2 (N : Nat) (v_bytes : Int32) (v_text : Nat → Int32) : Nat → Int32 → Option (Int32)
  | 0, _ => none
  | n + 1, x2 => (if v_bytes ≤ x2 then some x2 else (if inB x2 300 = true then (if (v_text x2.toNatClampNeg) = 13 then (if v_bytes ≤ (x2 + 1) then f_Mo_lineEnd_2 N v_bytes v_text n (x2 + 1) else (if inB (x2 + 1) 300 = true then (if (v_text (x2 + 1).toNatClampNeg) = 10 then some x2 else f_Mo_lineEnd_2 N v_bytes v_text n (x2 + 1)) else none)) else f_Mo_lineEnd_2 N v_bytes v_text n (x2 + 1)) else none))
def f_Mo_lineEnd (N : Nat) (x1 : Int32) (v_bytes : Int32) (v_text : Nat → Int32) : Option (Int32) := f_Mo_lineEnd_2 N v_bytes v_text N x1
def f_Mo_colon_80 (N : Nat) (v_bytes : Int32) (v_text : Nat → Int32) (x2 : Int32) (x3 : Int32) (x4 : Int32) : Option (Int32) := (if x4 < 1 then some (-1) else (if 60 < x4 then some (-1) else (if x2 ≤ x3 then some (-1) else (if inB x3 300 = true then (if (v_text x3.toNatClampNeg) = 58 then some x3 else some (-1)) else none))))
def f_Mo_colon_57 (N : Nat) (v_bytes : Int32) (v_text : Nat → Int32) : Nat → Int32 → Int32 → Int32 → Option (Int32)
  | 0, _, _, _ => none
  | n + 1, x2, x3, x4 => (if x2 ≤ x3 then f_Mo_colon_80 N v_bytes v_text x2 x3 x4 else (if inB x3 300 = true then ((f_Mo_blank N (v_text x3.toNatClampNeg)).bind fun z10 => (if z10 = 0 then f_Mo_colon_80 N v_bytes v_text x2 x3 x4 else f_Mo_colon_57 N v_bytes v_text n x2 (x3 + 1) x4)) else none))
def f_Mo_colon_8 (N : Nat) (x1 : Int32) (v_bytes : Int32) (v_text : Nat → Int32) : Nat → Int32 → Int32 → Option (Int32)
  | 0, _, _ => none
  | n + 1, x2, x3 => (if x2 ≤ x3 then f_Mo_colon_57 N v_bytes v_text N x2 x3 (x3 - x1) else (if inB x3 300 = true then (if (v_text x3.toNatClampNeg) ≤ 32 then f_Mo_colon_57 N v_bytes v_text N x2 x3 (x3 - x1) else (if inB x3 300 = true then (if 127 ≤ (v_text x3.toNatClampNeg) then f_Mo_colon_57 N v_bytes v_text N x2 x3 (x3 - x1) else (if inB x3 300 = true then (if (v_text x3.toNatClampNeg) = 58 then f_Mo_colon_57 N v_bytes v_text N x2 x3 (x3 - x1) else f_Mo_colon_8 N x1 v_bytes v_text n x2 (x3 + 1)) else none)) else none)) else none))
def f_Mo_colon (N : Nat) (x1 : Int32) (v_bytes : Int32) (v_text : Nat → Int32) : Option (Int32) := ((f_Mo_lineEnd N x1 v_bytes v_text).bind fun z17 => f_Mo_colon_8 N x1 v_bytes v_text N z17 x1)
def f_Mo_takeLine_8 (N : Nat) (v_bytes : Int32) (v_text : Nat → Int32) : Nat → Int32 → Int32 → Int32 → Int32 → (Nat → Int32) → Option (Int32 × Int32 × (Nat → Int32))
  | 0, _, _, _, _, _ => none
  | n + 1, x2, x3, v_values, v_behind, v_value => (if x2 ≤ x3 then (if v_bytes ≤ x2 then some (v_values, v_bytes, v_value) else some (v_values, x2 + 2, v_value)) else (if inB x3 300 = true then (if inB v_values 300 = true then f_Mo_takeLine_8 N v_bytes v_text n x2 (x3 + 1) (v_values + 1) v_behind (upd v_value v_values.toNatClampNeg (v_text x3.toNatClampNeg)) else none) else none))
def f_Mo_takeLine (N : Nat) (x1 : Int32) (v_bytes : Int32) (v_values : Int32) (v_behind : Int32) (v_text : Nat → Int32) (v_value : Nat → Int32) : Option (Int32 × Int32 × (Nat → Int32)) := ((f_Mo_lineEnd N x1 v_bytes v_text).bind fun z5 => f_Mo_takeLine_8 N v_bytes v_text N z5 x1 v_values v_behind v_value)
def f_Mo_trim_67 (N : Nat) : Nat → Int32 → Int32 → Int32 → (Nat → Int32) → Option (Int32 × (Nat → Int32))
  | 0, _, _, _, _ => none
  | n + 1, x1, x2, v_values, v_value => (if v_values ≤ x2 then some (v_values - x1, v_value) else (if inB x2 300 = true then (if inB (x2 - x1) 300 = true then f_Mo_trim_67 N n x1 (x2 + 1) v_values (upd v_value (x2 - x1).toNatClampNeg (v_value x2.toNatClampNeg)) else none) else none))
def f_Mo_trim_39 (N : Nat) : Nat → Int32 → Int32 → (Nat → Int32) → Option (Int32 × (Nat → Int32))
  | 0, _, _, _ => none
  | n + 1, x1, v_values, v_value => (if v_values ≤ x1 then f_Mo_trim_67 N N x1 x1 v_values v_value else (if inB x1 300 = true then ((f_Mo_blank N (v_value x1.toNatClampNeg)).bind fun z10 => (if z10 = 0 then f_Mo_trim_67 N N x1 x1 v_values v_value else f_Mo_trim_39 N n (x1 + 1) v_values v_value)) else none))
def f_Mo_trim_0 (N : Nat) : Nat → Int32 → (Nat → Int32) → Option (Int32 × (Nat → Int32))
  | 0, _, _ => none
  | n + 1, v_values, v_value => (if v_values ≤ 0 then f_Mo_trim_39 N N 0 v_values v_value else (if inB (v_values - 1) 300 = true then ((f_Mo_blank N (v_value (v_values - 1).toNatClampNeg)).bind fun z3 => (if z3 = 0 then f_Mo_trim_39 N N 0 v_values v_value else f_Mo_trim_0 N n (v_values - 1) v_value)) else none))
def f_Mo_trim (N : Nat) (v_values : Int32) (v_value : Nat → Int32) : Option (Int32 × (Nat → Int32)) := f_Mo_trim_0 N N v_values v_value
def f_Mo_look_119 (N : Nat) (r7 : Int32 → Int32 → Int32 → Int32 → Int32 → (Nat → Int32) → Option (Int32 × Int32 × Int32 × Int32 × Int32 × (Nat → Int32))) (x1 : Int32) (v_bytes : Int32) (v_text : Nat → Int32) : Nat → Int32 → Int32 → Int32 → Int32 → Int32 → (Nat → Int32) → Option (Int32 × Int32 × Int32 × Int32 × Int32 × (Nat → Int32))
  | 0, _, _, _, _, _, _ => none
  | n + 1, x2, v_nameFrom, v_names, v_values, v_behind, v_value => (if v_bytes ≤ v_behind then r7 (x2 + 1) v_nameFrom v_names v_values v_behind v_value else (if inB v_behind 300 = true then ((f_Mo_blank N (v_text v_behind.toNatClampNeg)).bind fun z3 => (if z3 = 0 then r7 (x2 + 1) v_nameFrom v_names v_values v_behind v_value else ((f_Mo_takeLine N v_behind v_bytes v_values v_behind v_text v_value).bind fun z5 => f_Mo_look_119 N r7 x1 v_bytes v_text n x2 v_nameFrom v_names z5.1 z5.2.1 z5.2.2))) else none))
def f_Mo_look_55 (N : Nat) (r7 : Int32 → Int32 → Int32 → Int32 → Int32 → (Nat → Int32) → Option (Int32 × Int32 × Int32 × Int32 × Int32 × (Nat → Int32))) (x1 : Int32) (v_bytes : Int32) (v_text : Nat → Int32) : Nat → Int32 → Int32 → Int32 → Int32 → Int32 → Int32 → (Nat → Int32) → Option (Int32 × Int32 × Int32 × Int32 × Int32 × (Nat → Int32))
  | 0, _, _, _, _, _, _, _ => none
  | n + 1, x2, x3, v_nameFrom, v_names, v_values, v_behind, v_value => (if inB (v_behind + v_names) 300 = true then (if (v_text (v_behind + v_names).toNatClampNeg) = 58 then ((f_Mo_takeLine N (x3 + 1) v_bytes 0 v_behind v_text v_value).bind fun z14 => f_Mo_look_119 N r7 x1 v_bytes v_text N x2 v_nameFrom v_names z14.1 z14.2.1 z14.2.2) else (if inB (v_behind + v_names) 300 = true then ((f_Mo_blank N (v_text (v_behind + v_names).toNatClampNeg)).bind fun z16 => (if z16 = 0 then f_Mo_look_55 N r7 x1 v_bytes v_text n x2 x3 v_nameFrom (v_names + 1) v_values v_behind v_value else ((f_Mo_takeLine N (x3 + 1) v_bytes 0 v_behind v_text v_value).bind fun z18 => f_Mo_look_119 N r7 x1 v_bytes v_text N x2 v_nameFrom v_names z18.1 z18.2.1 z18.2.2))) else none)) else none)
def f_Mo_look_7 (N : Nat) (x1 : Int32) (v_bytes : Int32) (v_text : Nat → Int32) : Nat → Int32 → Int32 → Int32 → Int32 → Int32 → (Nat → Int32) → Option (Int32 × Int32 × Int32 × Int32 × Int32 × (Nat → Int32))
  | 0, _, _, _, _, _, _ => none
  | n + 1, x2, v_nameFrom, v_names, v_values, v_behind, v_value => (if x1 < x2 then ((f_Mo_trim N v_values v_value).bind fun z7 => some (1, v_nameFrom, v_names, z7.1, v_behind, z7.2)) else (if v_bytes ≤ v_behind then (if 0 ≤ ((-1) : Int32) then f_Mo_look_55 N (f_Mo_look_7 N x1 v_bytes v_text n) x1 v_bytes v_text N x2 (-1) v_behind 0 v_values v_behind v_value else some (0, v_nameFrom, v_names, v_values, v_behind, v_value)) else ((f_Mo_colon N v_behind v_bytes v_text).bind fun z10 => (if 0 ≤ z10 then f_Mo_look_55 N (f_Mo_look_7 N x1 v_bytes v_text n) x1 v_bytes v_text N x2 z10 v_behind 0 v_values v_behind v_value else some (0, v_nameFrom, v_names, v_values, v_behind, v_value)))))
def f_Mo_look (N : Nat) (x1 : Int32) (v_bytes : Int32) (v_nameFrom : Int32) (v_names : Int32) (v_values : Int32) (v_behind : Int32) (v_text : Nat → Int32) (v_value : Nat → Int32) : Option (Int32 × Int32 × Int32 × Int32 × Int32 × (Nat → Int32)) := f_Mo_look_7 N x1 v_bytes v_text N 0 v_nameFrom v_names v_values 0 v_value
def f_Mo_letter_12 (N : Nat) (x0 : Int32) : Option (Int32) := (if x0 < 97 then (if x0 < 48 then some 0 else (if 57 < x0 then some 0 else some 1)) else (if x0 ≤ 122 then some 1 else (if x0 < 48 then some 0 else (if 57 < x0 then some 0 else some 1))))
def f_Mo_letter (N : Nat) (x0 : Int32) : Option (Int32) := (if x0 < 65 then f_Mo_letter_12 N x0 else (if x0 ≤ 90 then some 1 else f_Mo_letter_12 N x0))
def f_Mo_local (N : Nat) (x0 : Int32) : Option (Int32) := ((f_Mo_letter N x0).bind fun z1 => (if z1 = 0 then (if x0 = 46 then some 1 else (if x0 = 33 then some 1 else (if x0 = 35 then some 1 else (if x0 = 36 then some 1 else (if x0 = 37 then some 1 else (if x0 = 38 then some 1 else (if x0 = 39 then some 1 else (if x0 = 42 then some 1 else (if x0 = 43 then some 1 else (if x0 = 45 then some 1 else (if x0 = 47 then some 1 else (if x0 = 61 then some 1 else (if x0 = 63 then some 1 else (if x0 = 94 then some 1 else (if x0 = 95 then some 1 else (if x0 = 96 then some 1 else (if x0 = 123 then some 1 else (if x0 = 124 then some 1 else (if x0 = 125 then some 1 else (if x0 = 126 then some 1 else some 0)))))))))))))))))))) else some 1))
def f_Mo_at_151 (N : Nat) (r67 : Int32 → Int32 → Option (Int32)) (v_parts : Int32) (v_part : Nat → Int32) (x1 : Int32) (x2 : Int32) (x3 : Int32) : Option (Int32) := (if x1 ≤ x2 then (if x2 = x1 then (if (1 : Int32) = 0 then some (-1) else r67 x1 (x2 + 1)) else (if inB x2 300 = true then ((f_Mo_letter N (v_part x2.toNatClampNeg)).bind fun z11 => (if z11 = 0 then (if inB x2 300 = true then (if (v_part x2.toNatClampNeg) = 45 then (if (1 : Int32) = 0 then some (-1) else r67 x1 (x2 + 1)) else (if x3 = 0 then (if (0 : Int32) = 0 then some (-1) else r67 x1 (x2 + 1)) else (if (1 : Int32) = 0 then some (-1) else r67 x1 (x2 + 1)))) else none) else (if (1 : Int32) = 0 then some (-1) else r67 x1 (x2 + 1)))) else none)) else (if inB x2 300 = true then ((f_Mo_local N (v_part x2.toNatClampNeg)).bind fun z21 => (if z21 = 0 then some (-1) else r67 x1 (x2 + 1))) else none))
def f_Mo_at_125 (N : Nat) (r67 : Int32 → Int32 → Option (Int32)) (v_parts : Int32) (v_part : Nat → Int32) (k0 : Int32) (x1 : Int32) (x2 : Int32) (x3 : Int32) : Option (Int32) := (if x3 = 0 then f_Mo_at_151 N r67 v_parts v_part x1 x2 x3 else (if k0 = 0 then (if inB (x2 - 1) 300 = true then (if (v_part (x2 - 1).toNatClampNeg) = 46 then some (-1) else f_Mo_at_151 N r67 v_parts v_part x1 x2 x3) else none) else some (-1)))
def f_Mo_at_120 (N : Nat) (r67 : Int32 → Int32 → Option (Int32)) (v_parts : Int32) (v_part : Nat → Int32) (x1 : Int32) (x2 : Int32) (x3 : Int32) : Option (Int32) := f_Mo_at_125 N r67 v_parts v_part 1 x1 x2 x3
def f_Mo_at_91 (N : Nat) (r67 : Int32 → Int32 → Option (Int32)) (v_parts : Int32) (v_part : Nat → Int32) (k0 : Int32) (x1 : Int32) (x2 : Int32) : Option (Int32) := (if x2 = 0 then f_Mo_at_120 N r67 v_parts v_part x1 x2 k0 else (if x2 = (x1 - 1) then f_Mo_at_120 N r67 v_parts v_part x1 x2 k0 else (if x2 = (x1 + 1) then f_Mo_at_120 N r67 v_parts v_part x1 x2 k0 else (if x2 = (v_parts - 1) then f_Mo_at_120 N r67 v_parts v_part x1 x2 k0 else f_Mo_at_125 N r67 v_parts v_part 0 x1 x2 k0))))
def f_Mo_at_67 (N : Nat) (v_parts : Int32) (v_part : Nat → Int32) : Nat → Int32 → Int32 → Option (Int32)
  | 0, _, _ => none
  | n + 1, x1, x2 => (if v_parts ≤ x2 then some x1 else (if inB x2 300 = true then (if (v_part x2.toNatClampNeg) = 46 then f_Mo_at_91 N (f_Mo_at_67 N v_parts v_part n) v_parts v_part 1 x1 x2 else f_Mo_at_91 N (f_Mo_at_67 N v_parts v_part n) v_parts v_part 0 x1 x2) else none))
def f_Mo_at_27 (N : Nat) (v_parts : Int32) (v_part : Nat → Int32) (x1 : Int32) : Option (Int32) := (if x1 < 1 then some (-1) else (if 40 < x1 then some (-1) else (if ((v_parts - x1) - 1) < 1 then some (-1) else (if ((v_parts - x1) - 1) ≤ 60 then f_Mo_at_67 N v_parts v_part N x1 0 else some (-1)))))
def f_Mo_at_2 (N : Nat) (v_parts : Int32) (v_part : Nat → Int32) : Nat → Int32 → Option (Int32)
  | 0, _ => none
  | n + 1, x1 => (if v_parts ≤ x1 then f_Mo_at_27 N v_parts v_part x1 else (if inB x1 300 = true then (if (v_part x1.toNatClampNeg) = 64 then f_Mo_at_27 N v_parts v_part x1 else f_Mo_at_2 N v_parts v_part n (x1 + 1)) else none))
def f_Mo_at (N : Nat) (v_parts : Int32) (v_part : Nat → Int32) : Option (Int32) := f_Mo_at_2 N v_parts v_part N 0
def f_Mo_onePart_304 (N : Nat) (r18 : Int32 → Int32 → Int32 → Int32 → Int32 → Int32 → (Nat → Int32) → Option (Int32 × Int32 × (Nat → Int32))) (v_values : Int32) (v_value : Nat → Int32) (x2 : Int32) (x3 : Int32) (x4 : Int32) (x5 : Int32) (x6 : Int32) (x7 : Int32) (x9 : Int32) (v_parts : Int32) (v_part : Nat → Int32) : Option (Int32 × Int32 × (Nat → Int32)) := (if x9 = 0 then r18 x2 x3 x4 x5 (x6 + 1) v_parts v_part else (if inB v_parts 300 = true then r18 x2 x3 x4 x5 (x6 + 1) (v_parts + 1) (upd v_part v_parts.toNatClampNeg x7) else none))
def f_Mo_onePart_144 (N : Nat) (r18 : Int32 → Int32 → Int32 → Int32 → Int32 → Int32 → (Nat → Int32) → Option (Int32 × Int32 × (Nat → Int32))) (v_values : Int32) (v_value : Nat → Int32) (x2 : Int32) (x3 : Int32) (x4 : Int32) (x5 : Int32) (x6 : Int32) (x9 : Int32) (v_parts : Int32) (v_part : Nat → Int32) : Option (Int32 × Int32 × (Nat → Int32)) := (if inB (x6 + 1) 300 = true then f_Mo_onePart_304 N r18 v_values v_value x2 x3 x4 x5 (x6 + 1) (v_value (x6 + 1).toNatClampNeg) x9 v_parts v_part else none)
def f_Mo_onePart_175 (N : Nat) (r18 : Int32 → Int32 → Int32 → Int32 → Int32 → Int32 → (Nat → Int32) → Option (Int32 × Int32 × (Nat → Int32))) (v_values : Int32) (v_value : Nat → Int32) (k0 : Int32) (x3 : Int32) (x4 : Int32) (x5 : Int32) (x6 : Int32) (x7 : Int32) (x9 : Int32) (v_parts : Int32) (v_part : Nat → Int32) : Option (Int32 × Int32 × (Nat → Int32)) := f_Mo_onePart_304 N r18 v_values v_value k0 x3 x4 x5 x6 x7 x9 v_parts v_part
def f_Mo_onePart_209 (N : Nat) (r18 : Int32 → Int32 → Int32 → Int32 → Int32 → Int32 → (Nat → Int32) → Option (Int32 × Int32 × (Nat → Int32))) (v_values : Int32) (v_value : Nat → Int32) (k0 : Int32) (k1 : Int32) (x2 : Int32) (x3 : Int32) (x5 : Int32) (x6 : Int32) (x7 : Int32) (x9 : Int32) (v_parts : Int32) (v_part : Nat → Int32) : Option (Int32 × Int32 × (Nat → Int32)) := f_Mo_onePart_304 N r18 v_values v_value x2 x3 (k1 + k0) x5 x6 x7 x9 v_parts v_part
def f_Mo_onePart_293 (N : Nat) (r18 : Int32 → Int32 → Int32 → Int32 → Int32 → Int32 → (Nat → Int32) → Option (Int32 × Int32 × (Nat → Int32))) (v_values : Int32) (v_value : Nat → Int32) (x2 : Int32) (x3 : Int32) (x4 : Int32) (x5 : Int32) (x6 : Int32) (x7 : Int32) (x9 : Int32) (v_parts : Int32) (v_part : Nat → Int32) : Option (Int32 × Int32 × (Nat → Int32)) := ((f_Mo_blank N x7).bind fun z1 => (if z1 = 0 then f_Mo_onePart_304 N r18 v_values v_value x2 x3 x4 x5 x6 x7 x9 v_parts v_part else f_Mo_onePart_304 N r18 v_values v_value x2 x3 x4 x5 x6 x7 0 v_parts v_part))
def f_Mo_onePart_265 (N : Nat) (r18 : Int32 → Int32 → Int32 → Int32 → Int32 → Int32 → (Nat → Int32) → Option (Int32 × Int32 × (Nat → Int32))) (v_values : Int32) (v_value : Nat → Int32) (x2 : Int32) (x3 : Int32) (x4 : Int32) (x5 : Int32) (x6 : Int32) (x7 : Int32) (x9 : Int32) (v_parts : Int32) (v_part : Nat → Int32) : Option (Int32 × Int32 × (Nat → Int32)) := (if x5 = 0 then (if x7 = 60 then f_Mo_onePart_304 N r18 v_values v_value x2 1 x4 1 x6 x7 0 0 v_part else f_Mo_onePart_293 N r18 v_values v_value x2 x3 x4 x5 x6 x7 x9 v_parts v_part) else f_Mo_onePart_293 N r18 v_values v_value x2 x3 x4 x5 x6 x7 x9 v_parts v_part)
def f_Mo_onePart_111 (N : Nat) (r18 : Int32 → Int32 → Int32 → Int32 → Int32 → Int32 → (Nat → Int32) → Option (Int32 × Int32 × (Nat → Int32))) (v_values : Int32) (v_value : Nat → Int32) (k0 : Int32) (x2 : Int32) (x3 : Int32) (x4 : Int32) (x5 : Int32) (x6 : Int32) (x7 : Int32) (x8 : Int32) (v_parts : Int32) (v_part : Nat → Int32) : Option (Int32 × Int32 × (Nat → Int32)) := (if x8 = 0 then (if x2 = 0 then (if x4 ≤ 0 then (if x7 = 40 then f_Mo_onePart_304 N r18 v_values v_value x2 x3 1 x5 x6 x7 0 v_parts v_part else (if x7 = 34 then f_Mo_onePart_304 N r18 v_values v_value 1 x3 x4 x5 x6 x7 k0 v_parts v_part else (if x3 = 0 then f_Mo_onePart_265 N r18 v_values v_value x2 x3 x4 x5 x6 x7 k0 v_parts v_part else (if x7 = 62 then f_Mo_onePart_304 N r18 v_values v_value x2 0 x4 2 x6 x7 0 v_parts v_part else f_Mo_onePart_265 N r18 v_values v_value x2 x3 x4 x5 x6 x7 k0 v_parts v_part)))) else (if x7 = 40 then f_Mo_onePart_209 N r18 v_values v_value 1 x4 x2 x3 x5 x6 x7 k0 v_parts v_part else (if x7 = 41 then f_Mo_onePart_209 N r18 v_values v_value (-1) x4 x2 x3 x5 x6 x7 k0 v_parts v_part else f_Mo_onePart_209 N r18 v_values v_value 0 x4 x2 x3 x5 x6 x7 k0 v_parts v_part))) else (if x7 = 34 then f_Mo_onePart_175 N r18 v_values v_value 0 x3 x4 x5 x6 x7 k0 v_parts v_part else f_Mo_onePart_175 N r18 v_values v_value 1 x3 x4 x5 x6 x7 k0 v_parts v_part)) else (if k0 = 0 then f_Mo_onePart_144 N r18 v_values v_value x2 x3 x4 x5 x6 k0 v_parts v_part else (if inB v_parts 300 = true then f_Mo_onePart_144 N r18 v_values v_value x2 x3 x4 x5 x6 k0 (v_parts + 1) (upd v_part v_parts.toNatClampNeg x7) else none)))
def f_Mo_onePart_110 (N : Nat) (r18 : Int32 → Int32 → Int32 → Int32 → Int32 → Int32 → (Nat → Int32) → Option (Int32 × Int32 × (Nat → Int32))) (v_values : Int32) (v_value : Nat → Int32) (x2 : Int32) (x3 : Int32) (x4 : Int32) (x5 : Int32) (x6 : Int32) (x7 : Int32) (x8 : Int32) (v_parts : Int32) (v_part : Nat → Int32) : Option (Int32 × Int32 × (Nat → Int32)) := f_Mo_onePart_111 N r18 v_values v_value 0 x2 x3 x4 x5 x6 x7 x8 v_parts v_part
def f_Mo_onePart_93 (N : Nat) (r18 : Int32 → Int32 → Int32 → Int32 → Int32 → Int32 → (Nat → Int32) → Option (Int32 × Int32 × (Nat → Int32))) (v_values : Int32) (v_value : Nat → Int32) (k0 : Int32) (x2 : Int32) (x3 : Int32) (x4 : Int32) (x5 : Int32) (x6 : Int32) (x7 : Int32) (v_parts : Int32) (v_part : Nat → Int32) : Option (Int32 × Int32 × (Nat → Int32)) := (if x4 = 0 then (if 2 ≤ x5 then f_Mo_onePart_110 N r18 v_values v_value x2 x3 x4 x5 x6 x7 k0 v_parts v_part else f_Mo_onePart_111 N r18 v_values v_value 1 x2 x3 x4 x5 x6 x7 k0 v_parts v_part) else f_Mo_onePart_110 N r18 v_values v_value x2 x3 x4 x5 x6 x7 k0 v_parts v_part)
def f_Mo_onePart_92 (N : Nat) (r18 : Int32 → Int32 → Int32 → Int32 → Int32 → Int32 → (Nat → Int32) → Option (Int32 × Int32 × (Nat → Int32))) (v_values : Int32) (v_value : Nat → Int32) (x2 : Int32) (x3 : Int32) (x4 : Int32) (x5 : Int32) (x6 : Int32) (x7 : Int32) (v_parts : Int32) (v_part : Nat → Int32) : Option (Int32 × Int32 × (Nat → Int32)) := f_Mo_onePart_93 N r18 v_values v_value 0 x2 x3 x4 x5 x6 x7 v_parts v_part
def f_Mo_onePart_70 (N : Nat) (r18 : Int32 → Int32 → Int32 → Int32 → Int32 → Int32 → (Nat → Int32) → Option (Int32 × Int32 × (Nat → Int32))) (v_values : Int32) (v_value : Nat → Int32) (x2 : Int32) (x3 : Int32) (x4 : Int32) (x5 : Int32) (x6 : Int32) (x7 : Int32) (v_parts : Int32) (v_part : Nat → Int32) : Option (Int32 × Int32 × (Nat → Int32)) := (if x7 = 92 then (if v_values ≤ (x6 + 1) then f_Mo_onePart_92 N r18 v_values v_value x2 x3 x4 x5 x6 x7 v_parts v_part else f_Mo_onePart_93 N r18 v_values v_value 1 x2 x3 x4 x5 x6 x7 v_parts v_part) else f_Mo_onePart_92 N r18 v_values v_value x2 x3 x4 x5 x6 x7 v_parts v_part)
def f_Mo_onePart_52 (N : Nat) (r18 : Int32 → Int32 → Int32 → Int32 → Int32 → Int32 → (Nat → Int32) → Option (Int32 × Int32 × (Nat → Int32))) (v_values : Int32) (v_value : Nat → Int32) (x2 : Int32) (x3 : Int32) (x4 : Int32) (x5 : Int32) (x6 : Int32) (v_parts : Int32) (v_part : Nat → Int32) : Option (Int32 × Int32 × (Nat → Int32)) := (if inB x6 300 = true then (if x2 = 0 then (if x4 ≤ 0 then f_Mo_onePart_92 N r18 v_values v_value x2 x3 x4 x5 x6 (v_value x6.toNatClampNeg) v_parts v_part else f_Mo_onePart_70 N r18 v_values v_value x2 x3 x4 x5 x6 (v_value x6.toNatClampNeg) v_parts v_part) else f_Mo_onePart_70 N r18 v_values v_value x2 x3 x4 x5 x6 (v_value x6.toNatClampNeg) v_parts v_part) else none)
def f_Mo_onePart_18 (N : Nat) (v_values : Int32) (v_value : Nat → Int32) : Nat → Int32 → Int32 → Int32 → Int32 → Int32 → Int32 → (Nat → Int32) → Option (Int32 × Int32 × (Nat → Int32))
  | 0, _, _, _, _, _, _, _ => none
  | n + 1, x2, x3, x4, x5, x6, v_parts, v_part => (if v_values ≤ x6 then (if x5 = 1 then some (x6 + 1, 0, v_part) else some (x6 + 1, v_parts, v_part)) else (if x2 = 0 then (if x3 = 0 then (if 0 < x4 then f_Mo_onePart_52 N (f_Mo_onePart_18 N v_values v_value n) v_values v_value x2 x3 x4 x5 x6 v_parts v_part else (if inB x6 300 = true then (if (v_value x6.toNatClampNeg) = 44 then (if x5 = 1 then some (x6 + 1, 0, v_part) else some (x6 + 1, v_parts, v_part)) else f_Mo_onePart_52 N (f_Mo_onePart_18 N v_values v_value n) v_values v_value x2 x3 x4 x5 x6 v_parts v_part) else none)) else f_Mo_onePart_52 N (f_Mo_onePart_18 N v_values v_value n) v_values v_value x2 x3 x4 x5 x6 v_parts v_part) else f_Mo_onePart_52 N (f_Mo_onePart_18 N v_values v_value n) v_values v_value x2 x3 x4 x5 x6 v_parts v_part))
def f_Mo_onePart (N : Nat) (x1 : Int32) (v_values : Int32) (v_parts : Int32) (v_value : Nat → Int32) (v_part : Nat → Int32) : Option (Int32 × Int32 × (Nat → Int32)) := f_Mo_onePart_18 N v_values v_value N 0 0 0 0 x1 0 v_part
def f_Mo_addressAt_4 (N : Nat) (x1 : Int32) (v_values : Int32) (v_value : Nat → Int32) : Nat → Int32 → Int32 → Int32 → (Nat → Int32) → Option (Int32 × Int32 × (Nat → Int32))
  | 0, _, _, _, _ => none
  | n + 1, x2, x3, v_parts, v_part => (if v_values < x2 then some ((-1), v_parts, v_part) else ((f_Mo_onePart N x2 v_values v_parts v_value v_part).bind fun z2 => ((f_Mo_at N z2.2.1 z2.2.2).bind fun z3 => (if z3 < 0 then (if z3 < 0 then f_Mo_addressAt_4 N x1 v_values v_value n z2.1 x3 z2.2.1 z2.2.2 else (if x3 = x1 then some (z3, z2.2.1, z2.2.2) else f_Mo_addressAt_4 N x1 v_values v_value n z2.1 x3 z2.2.1 z2.2.2)) else (if z3 < 0 then f_Mo_addressAt_4 N x1 v_values v_value n z2.1 (x3 + 1) z2.2.1 z2.2.2 else (if (x3 + 1) = x1 then some (z3, z2.2.1, z2.2.2) else f_Mo_addressAt_4 N x1 v_values v_value n z2.1 (x3 + 1) z2.2.1 z2.2.2))))))
def f_Mo_addressAt (N : Nat) (x1 : Int32) (v_values : Int32) (v_parts : Int32) (v_value : Nat → Int32) (v_part : Nat → Int32) : Option (Int32 × Int32 × (Nat → Int32)) := f_Mo_addressAt_4 N x1 v_values v_value N 0 (-1) v_parts v_part
def f_Mo_addresses_4 (N : Nat) (v_values : Int32) (v_value : Nat → Int32) : Nat → Int32 → Int32 → Int32 → (Nat → Int32) → Option (Int32 × Int32 × (Nat → Int32))
  | 0, _, _, _, _ => none
  | n + 1, x1, x2, v_parts, v_part => (if v_values < x2 then some (x1, v_parts, v_part) else ((f_Mo_onePart N x2 v_values v_parts v_value v_part).bind fun z2 => ((f_Mo_at N z2.2.1 z2.2.2).bind fun z3 => (if z3 < 0 then f_Mo_addresses_4 N v_values v_value n x1 z2.1 z2.2.1 z2.2.2 else f_Mo_addresses_4 N v_values v_value n (x1 + 1) z2.1 z2.2.1 z2.2.2))))
def f_Mo_addresses (N : Nat) (v_values : Int32) (v_parts : Int32) (v_value : Nat → Int32) (v_part : Nat → Int32) : Option (Int32 × Int32 × (Nat → Int32)) := f_Mo_addresses_4 N v_values v_value N 0 0 v_parts v_part
def f_Mo_eight_5 (N : Nat) (x1 : Int32) (x2 : Int32) (v_p0 : Nat → Int32) : Nat → Int64 → Int32 → Option (Int64)
  | 0, _, _ => none
  | n + 1, x3, x5 => (if 8 ≤ x5 then some x3 else (if (x1 - x5) ≤ x2 then f_Mo_eight_5 N x1 x2 v_p0 n ((x3 <<< ((8 : Int32).toInt64 &&& 63)) ||| ((0 : Int32).toInt64)) (x5 + 1) else (if inB (x2 + x5) 300 = true then f_Mo_eight_5 N x1 x2 v_p0 n ((x3 <<< ((8 : Int32).toInt64 &&& 63)) ||| ((v_p0 (x2 + x5).toNatClampNeg).toInt64)) (x5 + 1) else none)))
def f_Mo_eight (N : Nat) (x1 : Int32) (x2 : Int32) (v_p0 : Nat → Int32) : Option (Int64) := f_Mo_eight_5 N x1 x2 v_p0 N 0 0
def f_Mo_put_35 (N : Nat) (x1 : Int64) : Nat → Int32 → Int32 → Int32 → (Nat → Int32) → Option (Int32 × Int32 × Int32 × (Nat → Int32))
  | 0, _, _, _, _ => none
  | n + 1, x4, v_thrownCode, v_puts, v_put => (if x4 < 0 then some (1, v_thrownCode, v_puts, v_put) else (if inB v_puts 300 = true then f_Mo_put_35 N x1 n (x4 + (-1)) v_thrownCode (v_puts + 1) (upd v_put v_puts.toNatClampNeg ((((x1.toUInt64 >>> ((8 * x4).toInt64.toUInt64 &&& Int64.toUInt64 63)).toInt64).toInt32) &&& 255)) else none))
def f_Mo_put (N : Nat) (x1 : Int64) (x3 : Int32) (v_thrownCode : Int32) (v_puts : Int32) (v_put : Nat → Int32) : Option (Int32 × Int32 × Int32 × (Nat → Int32)) := (if x3 < 1 then some (0, 0, v_puts, v_put) else (if 8 < x3 then some (0, 0, v_puts, v_put) else (if (v_puts + x3) ≤ 300 then f_Mo_put_35 N x1 N (x3 - 1) 0 v_puts v_put else some (0, 0, v_puts, v_put))))
def f_Mo_fields_2 (N : Nat) (v_bytes : Int32) (v_text : Nat → Int32) : Nat → Int32 → Int32 → Int32 → Int32 → Int32 → (Nat → Int32) → Option (Int32 × Int32 × Int32 × Int32 × Int32 × (Nat → Int32))
  | 0, _, _, _, _, _, _ => none
  | n + 1, x1, v_nameFrom, v_names, v_values, v_behind, v_value => ((f_Mo_look N x1 v_bytes v_nameFrom v_names v_values v_behind v_text v_value).bind fun z1 => (if z1.1 = 0 then some (x1, z1.2.1, z1.2.2.1, z1.2.2.2.1, z1.2.2.2.2.1, z1.2.2.2.2.2) else f_Mo_fields_2 N v_bytes v_text n (x1 + 1) z1.2.1 z1.2.2.1 z1.2.2.2.1 z1.2.2.2.2.1 z1.2.2.2.2.2))
def f_Mo_fields (N : Nat) (v_bytes : Int32) (v_nameFrom : Int32) (v_names : Int32) (v_values : Int32) (v_behind : Int32) (v_text : Nat → Int32) (v_value : Nat → Int32) : Option (Int32 × Int32 × Int32 × Int32 × Int32 × (Nat → Int32)) := f_Mo_fields_2 N v_bytes v_text N 0 v_nameFrom v_names v_values v_behind v_value
def f_Mo_read_7 (N : Nat) (v_put : Nat → Int32) : Nat → Int32 → Int32 → Int32 → Int32 → Int32 → Int32 → Int32 → Int32 → (Nat → Int32) → (Nat → Int32) → Option (Int32 × Int32 × Int32 × Int32 × Int32 × Int32 × Int32 × Int32 × (Nat → Int32) × (Nat → Int32))
  | 0, _, _, _, _, _, _, _, _, _, _ => none
  | n + 1, x1, v_thrownCode, v_puts, v_bytes, v_nameFrom, v_names, v_values, v_behind, v_text, v_value => (if v_puts ≤ x1 then ((f_Mo_fields N v_puts v_nameFrom v_names v_values v_behind v_text v_value).bind fun z2 => some (z2.1, v_thrownCode, 0, v_puts, z2.2.1, z2.2.2.1, z2.2.2.2.1, z2.2.2.2.2.1, v_text, z2.2.2.2.2.2)) else (if inB x1 300 = true then (if inB x1 300 = true then f_Mo_read_7 N v_put n (x1 + 1) v_thrownCode v_puts v_bytes v_nameFrom v_names v_values v_behind (upd v_text x1.toNatClampNeg (v_put x1.toNatClampNeg)) v_value else none) else none))
def f_Mo_read (N : Nat) (v_thrownCode : Int32) (v_puts : Int32) (v_bytes : Int32) (v_nameFrom : Int32) (v_names : Int32) (v_values : Int32) (v_behind : Int32) (v_put : Nat → Int32) (v_text : Nat → Int32) (v_value : Nat → Int32) : Option (Int32 × Int32 × Int32 × Int32 × Int32 × Int32 × Int32 × Int32 × (Nat → Int32) × (Nat → Int32)) := f_Mo_read_7 N v_put N 0 0 v_puts v_bytes v_nameFrom v_names v_values v_behind v_text v_value
def f_Mo_field (N : Nat) (x1 : Int32) (x2 : Int32) (v_thrownCode : Int32) (v_bytes : Int32) (v_nameFrom : Int32) (v_names : Int32) (v_values : Int32) (v_behind : Int32) (v_parts : Int32) (v_text : Nat → Int32) (v_value : Nat → Int32) (v_part : Nat → Int32) : Option (Int32 × Int32 × Int32 × Int32 × Int32 × Int32 × Int32 × (Nat → Int32) × (Nat → Int32)) := (if x1 < 0 then some ((-1), 0, v_nameFrom, v_names, v_values, v_behind, v_parts, v_value, v_part) else ((f_Mo_look N x1 v_bytes v_nameFrom v_names v_values v_behind v_text v_value).bind fun z2 => (if z2.1 = 0 then some ((-1), 0, z2.2.1, z2.2.2.1, z2.2.2.2.1, z2.2.2.2.2.1, v_parts, z2.2.2.2.2.2, v_part) else (if x2 = 0 then some (z2.2.2.1, 0, z2.2.1, z2.2.2.1, z2.2.2.2.1, z2.2.2.2.2.1, v_parts, z2.2.2.2.2.2, v_part) else (if x2 = 1 then some (z2.2.2.2.1, 0, z2.2.1, z2.2.2.1, z2.2.2.2.1, z2.2.2.2.2.1, v_parts, z2.2.2.2.2.2, v_part) else (if x2 = 2 then ((f_Mo_addresses N z2.2.2.2.1 v_parts z2.2.2.2.2.2 v_part).bind fun z7 => some (z7.1, 0, z2.2.1, z2.2.2.1, z2.2.2.2.1, z2.2.2.2.2.1, z7.2.1, z2.2.2.2.2.2, z7.2.2)) else some ((-1), 0, z2.2.1, z2.2.2.1, z2.2.2.2.1, z2.2.2.2.2.1, v_parts, z2.2.2.2.2.2, v_part)))))))
def f_Mo_bytes_55 (N : Nat) (x3 : Int32) (v_bytes : Int32) (v_text : Nat → Int32) : Nat → Int32 → Int32 → Int32 → Int32 → Int32 → Int32 → (Nat → Int32) → (Nat → Int32) → Option (Int64 × Int32 × Int32 × Int32 × Int32 × Int32 × (Nat → Int32) × (Nat → Int32))
  | 0, _, _, _, _, _, _, _, _ => none
  | n + 1, x4, v_thrownCode, v_nameFrom, v_names, v_values, v_behind, v_value, v_part => (if v_names ≤ x4 then ((f_Mo_eight N v_names x3 v_part).bind fun z2 => some (z2, v_thrownCode, v_nameFrom, v_names, v_values, v_behind, v_value, v_part)) else (if inB (v_nameFrom + x4) 300 = true then (if inB x4 300 = true then f_Mo_bytes_55 N x3 v_bytes v_text n (x4 + 1) v_thrownCode v_nameFrom v_names v_values v_behind v_value (upd v_part x4.toNatClampNeg (v_text (v_nameFrom + x4).toNatClampNeg)) else none) else none))
def f_Mo_bytes (N : Nat) (x1 : Int32) (x2 : Int32) (x3 : Int32) (v_thrownCode : Int32) (v_bytes : Int32) (v_nameFrom : Int32) (v_names : Int32) (v_values : Int32) (v_behind : Int32) (v_text : Nat → Int32) (v_value : Nat → Int32) (v_part : Nat → Int32) : Option (Int64 × Int32 × Int32 × Int32 × Int32 × Int32 × (Nat → Int32) × (Nat → Int32)) := (if x1 < 0 then some ((-1), 0, v_nameFrom, v_names, v_values, v_behind, v_value, v_part) else (if x2 < 0 then some ((-1), 0, v_nameFrom, v_names, v_values, v_behind, v_value, v_part) else (if 1 < x2 then some ((-1), 0, v_nameFrom, v_names, v_values, v_behind, v_value, v_part) else (if x3 < 0 then some ((-1), 0, v_nameFrom, v_names, v_values, v_behind, v_value, v_part) else ((f_Mo_look N x1 v_bytes v_nameFrom v_names v_values v_behind v_text v_value).bind fun z9 => (if z9.1 = 0 then some ((-1), 0, z9.2.1, z9.2.2.1, z9.2.2.2.1, z9.2.2.2.2.1, z9.2.2.2.2.2, v_part) else (if x2 = 1 then ((f_Mo_eight N z9.2.2.2.1 x3 z9.2.2.2.2.2).bind fun z12 => some (z12, 0, z9.2.1, z9.2.2.1, z9.2.2.2.1, z9.2.2.2.2.1, z9.2.2.2.2.2, v_part)) else f_Mo_bytes_55 N x3 v_bytes v_text N 0 0 z9.2.1 z9.2.2.1 z9.2.2.2.1 z9.2.2.2.2.1 z9.2.2.2.2.2 v_part)))))))
def f_Mo_address (N : Nat) (x1 : Int32) (x2 : Int32) (x3 : Int32) (v_thrownCode : Int32) (v_bytes : Int32) (v_nameFrom : Int32) (v_names : Int32) (v_values : Int32) (v_behind : Int32) (v_parts : Int32) (v_text : Nat → Int32) (v_value : Nat → Int32) (v_part : Nat → Int32) : Option (Int64 × Int32 × Int32 × Int32 × Int32 × Int32 × Int32 × (Nat → Int32) × (Nat → Int32)) := (if x1 < 0 then some ((-1), 0, v_nameFrom, v_names, v_values, v_behind, v_parts, v_value, v_part) else (if x2 < 0 then some ((-1), 0, v_nameFrom, v_names, v_values, v_behind, v_parts, v_value, v_part) else (if x3 < 0 then some ((-1), 0, v_nameFrom, v_names, v_values, v_behind, v_parts, v_value, v_part) else ((f_Mo_look N x1 v_bytes v_nameFrom v_names v_values v_behind v_text v_value).bind fun z4 => (if z4.1 = 0 then some ((-1), 0, z4.2.1, z4.2.2.1, z4.2.2.2.1, z4.2.2.2.2.1, v_parts, z4.2.2.2.2.2, v_part) else ((f_Mo_addressAt N x2 z4.2.2.2.1 v_parts z4.2.2.2.2.2 v_part).bind fun z6 => (if 0 ≤ z6.1 then ((f_Mo_eight N z6.2.1 x3 z6.2.2).bind fun z8 => some (z8, 0, z4.2.1, z4.2.2.1, z4.2.2.2.1, z4.2.2.2.2.1, z6.2.1, z4.2.2.2.2.2, z6.2.2)) else some ((-1), 0, z4.2.1, z4.2.2.1, z4.2.2.2.1, z4.2.2.2.2.1, z6.2.1, z4.2.2.2.2.2, z6.2.2))))))))
def f_Mo_part (N : Nat) (x1 : Int32) (x2 : Int32) (x3 : Int32) (v_thrownCode : Int32) (v_bytes : Int32) (v_nameFrom : Int32) (v_names : Int32) (v_values : Int32) (v_behind : Int32) (v_parts : Int32) (v_text : Nat → Int32) (v_value : Nat → Int32) (v_part : Nat → Int32) : Option (Int32 × Int32 × Int32 × Int32 × Int32 × Int32 × Int32 × (Nat → Int32) × (Nat → Int32)) := (if x1 < 0 then some ((-1), 0, v_nameFrom, v_names, v_values, v_behind, v_parts, v_value, v_part) else (if x2 < 0 then some ((-1), 0, v_nameFrom, v_names, v_values, v_behind, v_parts, v_value, v_part) else ((f_Mo_look N x1 v_bytes v_nameFrom v_names v_values v_behind v_text v_value).bind fun z3 => (if z3.1 = 0 then some ((-1), 0, z3.2.1, z3.2.2.1, z3.2.2.2.1, z3.2.2.2.2.1, v_parts, z3.2.2.2.2.2, v_part) else ((f_Mo_addressAt N x2 z3.2.2.2.1 v_parts z3.2.2.2.2.2 v_part).bind fun z5 => (if 0 ≤ z5.1 then (if x3 = 0 then some (z5.2.1, 0, z3.2.1, z3.2.2.1, z3.2.2.2.1, z3.2.2.2.2.1, z5.2.1, z3.2.2.2.2.2, z5.2.2) else (if x3 = 1 then some (z5.1, 0, z3.2.1, z3.2.2.1, z3.2.2.2.1, z3.2.2.2.2.1, z5.2.1, z3.2.2.2.2.2, z5.2.2) else some ((-1), 0, z3.2.1, z3.2.2.1, z3.2.2.2.1, z3.2.2.2.2.1, z5.2.1, z3.2.2.2.2.2, z5.2.2))) else some ((-1), 0, z3.2.1, z3.2.2.1, z3.2.2.2.1, z3.2.2.2.2.1, z5.2.1, z3.2.2.2.2.2, z5.2.2)))))))
def f_Mo_low (N : Nat) (x0 : Int32) : Option (Int32) := (if x0 < 65 then some x0 else (if 90 < x0 then some x0 else some (x0 + 32)))
def f_Mo_find_69 (N : Nat) (r41 : Int32 → Int32 → Int32 → Int32 → Int32 → Int32 → Int32 → Int32 → (Nat → Int32) → Option (Int32 × Int32 × Int32 × Int32 × Int32 × Int32 × (Nat → Int32))) (v_bytes : Int32) (v_text : Nat → Int32) : Nat → Int32 → Int32 → Int32 → Int32 → Int32 → Int32 → Int32 → Int32 → Int32 → Int32 → (Nat → Int32) → Option (Int32 × Int32 × Int32 × Int32 × Int32 × Int32 × (Nat → Int32))
  | 0, _, _, _, _, _, _, _, _, _, _, _ => none
  | n + 1, x3, x4, x5, x6, x7, v_thrownCode, v_nameFrom, v_names, v_values, v_behind, v_value => (if x4 ≤ x7 then (if x6 = 0 then r41 x3 x4 (x5 + 1) v_thrownCode v_nameFrom v_names v_values v_behind v_value else some (x5, v_thrownCode, v_nameFrom, v_names, v_values, v_behind, v_value)) else (if x6 = 0 then (if x6 = 0 then r41 x3 x4 (x5 + 1) v_thrownCode v_nameFrom v_names v_values v_behind v_value else some (x5, v_thrownCode, v_nameFrom, v_names, v_values, v_behind, v_value)) else (if inB (v_nameFrom + x7) 300 = true then ((f_Mo_low N (v_text (v_nameFrom + x7).toNatClampNeg)).bind fun z9 => (if inB (x3 + x7) 300 = true then ((f_Mo_low N (v_text (x3 + x7).toNatClampNeg)).bind fun z11 => (if z9 = z11 then f_Mo_find_69 N r41 v_bytes v_text n x3 x4 x5 1 (x7 + 1) v_thrownCode v_nameFrom v_names v_values v_behind v_value else f_Mo_find_69 N r41 v_bytes v_text n x3 x4 x5 0 (x7 + 1) v_thrownCode v_nameFrom v_names v_values v_behind v_value)) else none)) else none)))
def f_Mo_find_41 (N : Nat) (v_bytes : Int32) (v_text : Nat → Int32) : Nat → Int32 → Int32 → Int32 → Int32 → Int32 → Int32 → Int32 → Int32 → (Nat → Int32) → Option (Int32 × Int32 × Int32 × Int32 × Int32 × Int32 × (Nat → Int32))
  | 0, _, _, _, _, _, _, _, _, _ => none
  | n + 1, x3, x4, x5, v_thrownCode, v_nameFrom, v_names, v_values, v_behind, v_value => ((f_Mo_look N x5 v_bytes v_nameFrom v_names v_values v_behind v_text v_value).bind fun z1 => (if z1.1 = 0 then some ((-1), v_thrownCode, z1.2.1, z1.2.2.1, z1.2.2.2.1, z1.2.2.2.2.1, z1.2.2.2.2.2) else (if z1.2.2.1 = x4 then f_Mo_find_69 N (f_Mo_find_41 N v_bytes v_text n) v_bytes v_text N x3 x4 x5 1 0 v_thrownCode z1.2.1 z1.2.2.1 z1.2.2.2.1 z1.2.2.2.2.1 z1.2.2.2.2.2 else f_Mo_find_69 N (f_Mo_find_41 N v_bytes v_text n) v_bytes v_text N x3 x4 x5 0 0 v_thrownCode z1.2.1 z1.2.2.1 z1.2.2.2.1 z1.2.2.2.2.1 z1.2.2.2.2.2)))
def f_Mo_find (N : Nat) (x1 : Int32) (x2 : Int32) (v_thrownCode : Int32) (v_bytes : Int32) (v_nameFrom : Int32) (v_names : Int32) (v_values : Int32) (v_behind : Int32) (v_text : Nat → Int32) (v_value : Nat → Int32) : Option (Int32 × Int32 × Int32 × Int32 × Int32 × Int32 × (Nat → Int32)) := (if x2 < 0 then some ((-1), 0, v_nameFrom, v_names, v_values, v_behind, v_value) else ((f_Mo_look N x2 v_bytes v_nameFrom v_names v_values v_behind v_text v_value).bind fun z14 => (if z14.1 = 0 then some ((-1), 0, z14.2.1, z14.2.2.1, z14.2.2.2.1, z14.2.2.2.2.1, z14.2.2.2.2.2) else (if 0 ≤ x1 then f_Mo_find_41 N v_bytes v_text N z14.2.1 z14.2.2.1 x1 0 z14.2.1 z14.2.2.1 z14.2.2.2.1 z14.2.2.2.2.1 z14.2.2.2.2.2 else f_Mo_find_41 N v_bytes v_text N z14.2.1 z14.2.2.1 0 0 z14.2.1 z14.2.2.1 z14.2.2.2.1 z14.2.2.2.2.1 z14.2.2.2.2.2))))
def f_Mo_count_44 (N : Nat) (x1 : Int32) (v_puts : Int32) (v_bytes : Int32) (v_text : Nat → Int32) : Nat → Int32 → Int32 → Int32 → Int32 → Int32 → Int32 → Int32 → Int32 → Int32 → (Nat → Int32) → (Nat → Int32) → Option (Int32 × Int32 × Int32 × Int32 × Int32 × Int32 × Int32 × (Nat → Int32) × (Nat → Int32))
  | 0, _, _, _, _, _, _, _, _, _, _, _ => none
  | n + 1, x2, x4, x5, v_thrownCode, v_nameFrom, v_names, v_values, v_behind, v_parts, v_value, v_part => (if x2 ≤ x5 then (if x1 = 3 then some (x4, v_thrownCode, v_nameFrom, v_names, v_values, v_behind, v_parts, v_value, v_part) else some ((-1), v_thrownCode, v_nameFrom, v_names, v_values, v_behind, v_parts, v_value, v_part)) else ((f_Mo_field N x5 2 v_thrownCode v_bytes v_nameFrom v_names v_values v_behind v_parts v_text v_value v_part).bind fun z3 => f_Mo_count_44 N x1 v_puts v_bytes v_text n x2 (x4 + z3.1) (x5 + 1) z3.2.1 z3.2.2.1 z3.2.2.2.1 z3.2.2.2.2.1 z3.2.2.2.2.2.1 z3.2.2.2.2.2.2.1 z3.2.2.2.2.2.2.2.1 z3.2.2.2.2.2.2.2.2))
def f_Mo_count (N : Nat) (x1 : Int32) (v_thrownCode : Int32) (v_puts : Int32) (v_bytes : Int32) (v_nameFrom : Int32) (v_names : Int32) (v_values : Int32) (v_behind : Int32) (v_parts : Int32) (v_text : Nat → Int32) (v_value : Nat → Int32) (v_part : Nat → Int32) : Option (Int32 × Int32 × Int32 × Int32 × Int32 × Int32 × Int32 × (Nat → Int32) × (Nat → Int32)) := (if x1 = 0 then some (v_puts, 0, v_nameFrom, v_names, v_values, v_behind, v_parts, v_value, v_part) else ((f_Mo_fields N v_bytes v_nameFrom v_names v_values v_behind v_text v_value).bind fun z5 => (if x1 = 1 then some (z5.1, 0, z5.2.1, z5.2.2.1, z5.2.2.2.1, z5.2.2.2.2.1, v_parts, z5.2.2.2.2.2, v_part) else (if x1 = 2 then some (z5.2.2.2.2.1, 0, z5.2.1, z5.2.2.1, z5.2.2.2.1, z5.2.2.2.2.1, v_parts, z5.2.2.2.2.2, v_part) else f_Mo_count_44 N x1 v_puts v_bytes v_text N z5.1 0 0 0 z5.2.1 z5.2.2.1 z5.2.2.2.1 z5.2.2.2.2.1 v_parts z5.2.2.2.2.2 v_part))))
set_option maxHeartbeats 4000000 in
set_option maxRecDepth 100000 in
theorem c_Mo_init {l : Launch} {dC : Nat → ClassId} {dI : Nat → Nat → Nat} {cB cI : ClassId} {aK aV : Nat → Nat} (h_this : Nat) : Ci l y_Mo_init prog_7_method_1_code 1 none ({ frames := 1, cells := 4, slots := 1200, locals := 20 }) (dC, dI) cB cI aK aV [.ref h_this] [(h_this, .inr (5, [.int 0, .null, .int 0, .null, .int 0, .int 0, .int 0, .null, .int 0, .int 0, .null, .int 0]))] (fun A => Qn (α := Nat × Nat × Nat × Nat) (dC, dI) (fun q => [(h_this, .inr (5, [.int 0, .ref q.1, .int 0, .ref q.2.1, .int 0, .int 0, .int 0, .ref q.2.2.1, .int 0, .int 0, .ref q.2.2.2, .int 0])), (q.1, .inl (cI, 300, .inl (fun _ => 0))), (q.2.1, .inl (cI, 300, .inl (fun _ => 0))), (q.2.2.1, .inl (cI, 300, .inl (fun _ => 0))), (q.2.2.2, .inl (cI, 300, .inl (fun _ => 0)))]) A) := by
  refine Ci_of (by decide) (Nat.le_of_ble_eq_true rfl) (fun p e s m below meth c A C hK hnm hA hP hD ls hl => ?_)
  obtain ⟨hx, hb, hr, hml, hown, hts, hlk⟩ := id C
  have hS : va_S A s.heap s.heap [] := va_S.rf
  have hl : lv_has ls 1 [(0, .ref h_this)] := hl
  refine lv_aload_n hx hb d_Mo_init_0 rfl (lv_at hl 0 rfl) ?_
  refine W.objInit hx hb hown (hts _ m_416) (hts _ m_19) (hts _ m_20) rfl (by rw [hml]; exact hl.1) rfl d_Mo_init_1 (by decide) (Nat.le_of_ble_eq_true rfl) ?_
  refine W.eq (g2 := F0 m 4 ls []) rfl ?_
  refine lv_aload_n hx hb d_Mo_init_4 rfl (lv_at hl 0 rfl) ?_
  refine lv_iconst (v := 0) hx hb d_Mo_init_5 (by decide) ?_
  refine va_put (D := (dC, dI)) (ci := 5) (v := .int 0) (ty := .int) (C := R_Mo) (T := F_Mo) (N := 12) hx hb hts in_Mo t_Mo t_Mo_ok n_Mo hown hK.1 hP hD hS 0 rfl rfl 0 (by decide) (hts _ m_417) (fun _ h9 => h9) rfl (by decide +kernel) rfl rfl (Nat.le_of_ble_eq_true rfl) d_Mo_init_6 (fun H locs hP hD hS => ?_)
  have hP : va_P (dC, dI) classes [(h_this, .inr (5, [.int 0, .null, .int 0, .null, .int 0, .int 0, .int 0, .null, .int 0, .int 0, .null, .int 0]))] H := hP
  have hD : va_D A [(h_this, .inr (5, [.int 0, .null, .int 0, .null, .int 0, .int 0, .int 0, .null, .int 0, .int 0, .null, .int 0]))] := hD
  refine lv_aload_n hx hb d_Mo_init_9 rfl (lv_at hl 0 rfl) ?_
  refine lv_sipush (v := 300) hx hb d_Mo_init_10 (by decide) ?_
  refine na_I hx hb (hts _ m_72) hK hP hD hS hA (by decide) (N' := 300) (by decide) (by decide) (by decide) (by decide) d_Mo_init_13 (fun q1 H hP hD hS => ?_)
  refine W.widen (k := 1) (n := 300) (by decide) (by decide) ?_
  have hP : va_P (dC, dI) classes [(h_this, .inr (5, [.int 0, .null, .int 0, .null, .int 0, .int 0, .int 0, .null, .int 0, .int 0, .null, .int 0])), (q1, .inl (cI, 300, .inl (fun _ => 0)))] H := hP
  have hD : va_D A [(h_this, .inr (5, [.int 0, .null, .int 0, .null, .int 0, .int 0, .int 0, .null, .int 0, .int 0, .null, .int 0])), (q1, .inl (cI, 300, .inl (fun _ => 0)))] := hD
  refine va_putF (D := (dC, dI)) (ci := 5) (v := .ref q1) (ty := (.array .int)) (C := R_Mo) (T := F_Mo) (N := 12) hx hb hts in_Mo t_Mo t_Mo_ok n_Mo hown hK.1 hP hD hS 0 rfl rfl 1 (by decide) (hts _ m_418) (fun _ h9 => h9) rfl hnm rfl (by decide +kernel) rfl rfl (Nat.le_of_ble_eq_true rfl) d_Mo_init_15 (fun H locs hP hD hS => ?_)
  have hP : va_P (dC, dI) classes [(h_this, .inr (5, [.int 0, .ref q1, .int 0, .null, .int 0, .int 0, .int 0, .null, .int 0, .int 0, .null, .int 0])), (q1, .inl (cI, 300, .inl (fun _ => 0)))] H := hP
  have hD : va_D A [(h_this, .inr (5, [.int 0, .ref q1, .int 0, .null, .int 0, .int 0, .int 0, .null, .int 0, .int 0, .null, .int 0])), (q1, .inl (cI, 300, .inl (fun _ => 0)))] := hD
  refine lv_aload_n hx hb d_Mo_init_18 rfl (lv_at hl 0 rfl) ?_
  refine lv_iconst (v := 0) hx hb d_Mo_init_19 (by decide) ?_
  refine va_put (D := (dC, dI)) (ci := 5) (v := .int 0) (ty := .int) (C := R_Mo) (T := F_Mo) (N := 12) hx hb hts in_Mo t_Mo t_Mo_ok n_Mo hown hK.1 hP hD hS 0 rfl rfl 2 (by decide) (hts _ m_419) (fun _ h9 => h9) rfl (by decide +kernel) rfl rfl (Nat.le_of_ble_eq_true rfl) d_Mo_init_20 (fun H locs hP hD hS => ?_)
  have hP : va_P (dC, dI) classes [(h_this, .inr (5, [.int 0, .ref q1, .int 0, .null, .int 0, .int 0, .int 0, .null, .int 0, .int 0, .null, .int 0])), (q1, .inl (cI, 300, .inl (fun _ => 0)))] H := hP
  have hD : va_D A [(h_this, .inr (5, [.int 0, .ref q1, .int 0, .null, .int 0, .int 0, .int 0, .null, .int 0, .int 0, .null, .int 0])), (q1, .inl (cI, 300, .inl (fun _ => 0)))] := hD
  refine lv_aload_n hx hb d_Mo_init_23 rfl (lv_at hl 0 rfl) ?_
  refine lv_sipush (v := 300) hx hb d_Mo_init_24 (by decide) ?_
  refine na_I hx hb (hts _ m_72) hK hP hD hS hA (by decide) (N' := 300) (by decide) (by decide) (by decide) (by decide) d_Mo_init_27 (fun q2 H hP hD hS => ?_)
  refine W.widen (k := 2) (n := 600) (by decide) (by decide) ?_
  have hP : va_P (dC, dI) classes [(h_this, .inr (5, [.int 0, .ref q1, .int 0, .null, .int 0, .int 0, .int 0, .null, .int 0, .int 0, .null, .int 0])), (q1, .inl (cI, 300, .inl (fun _ => 0))), (q2, .inl (cI, 300, .inl (fun _ => 0)))] H := hP
  have hD : va_D A [(h_this, .inr (5, [.int 0, .ref q1, .int 0, .null, .int 0, .int 0, .int 0, .null, .int 0, .int 0, .null, .int 0])), (q1, .inl (cI, 300, .inl (fun _ => 0))), (q2, .inl (cI, 300, .inl (fun _ => 0)))] := hD
  refine va_putF (D := (dC, dI)) (ci := 5) (v := .ref q2) (ty := (.array .int)) (C := R_Mo) (T := F_Mo) (N := 12) hx hb hts in_Mo t_Mo t_Mo_ok n_Mo hown hK.1 hP hD hS 0 rfl rfl 3 (by decide) (hts _ m_420) (fun _ h9 => h9) rfl hnm rfl (by decide +kernel) rfl rfl (Nat.le_of_ble_eq_true rfl) d_Mo_init_29 (fun H locs hP hD hS => ?_)
  have hP : va_P (dC, dI) classes [(h_this, .inr (5, [.int 0, .ref q1, .int 0, .ref q2, .int 0, .int 0, .int 0, .null, .int 0, .int 0, .null, .int 0])), (q1, .inl (cI, 300, .inl (fun _ => 0))), (q2, .inl (cI, 300, .inl (fun _ => 0)))] H := hP
  have hD : va_D A [(h_this, .inr (5, [.int 0, .ref q1, .int 0, .ref q2, .int 0, .int 0, .int 0, .null, .int 0, .int 0, .null, .int 0])), (q1, .inl (cI, 300, .inl (fun _ => 0))), (q2, .inl (cI, 300, .inl (fun _ => 0)))] := hD
  refine lv_aload_n hx hb d_Mo_init_32 rfl (lv_at hl 0 rfl) ?_
  refine lv_iconst (v := 0) hx hb d_Mo_init_33 (by decide) ?_
  refine va_put (D := (dC, dI)) (ci := 5) (v := .int 0) (ty := .int) (C := R_Mo) (T := F_Mo) (N := 12) hx hb hts in_Mo t_Mo t_Mo_ok n_Mo hown hK.1 hP hD hS 0 rfl rfl 4 (by decide) (hts _ m_421) (fun _ h9 => h9) rfl (by decide +kernel) rfl rfl (Nat.le_of_ble_eq_true rfl) d_Mo_init_34 (fun H locs hP hD hS => ?_)
  have hP : va_P (dC, dI) classes [(h_this, .inr (5, [.int 0, .ref q1, .int 0, .ref q2, .int 0, .int 0, .int 0, .null, .int 0, .int 0, .null, .int 0])), (q1, .inl (cI, 300, .inl (fun _ => 0))), (q2, .inl (cI, 300, .inl (fun _ => 0)))] H := hP
  have hD : va_D A [(h_this, .inr (5, [.int 0, .ref q1, .int 0, .ref q2, .int 0, .int 0, .int 0, .null, .int 0, .int 0, .null, .int 0])), (q1, .inl (cI, 300, .inl (fun _ => 0))), (q2, .inl (cI, 300, .inl (fun _ => 0)))] := hD
  refine lv_aload_n hx hb d_Mo_init_37 rfl (lv_at hl 0 rfl) ?_
  refine lv_iconst (v := 0) hx hb d_Mo_init_38 (by decide) ?_
  refine va_put (D := (dC, dI)) (ci := 5) (v := .int 0) (ty := .int) (C := R_Mo) (T := F_Mo) (N := 12) hx hb hts in_Mo t_Mo t_Mo_ok n_Mo hown hK.1 hP hD hS 0 rfl rfl 5 (by decide) (hts _ m_422) (fun _ h9 => h9) rfl (by decide +kernel) rfl rfl (Nat.le_of_ble_eq_true rfl) d_Mo_init_39 (fun H locs hP hD hS => ?_)
  have hP : va_P (dC, dI) classes [(h_this, .inr (5, [.int 0, .ref q1, .int 0, .ref q2, .int 0, .int 0, .int 0, .null, .int 0, .int 0, .null, .int 0])), (q1, .inl (cI, 300, .inl (fun _ => 0))), (q2, .inl (cI, 300, .inl (fun _ => 0)))] H := hP
  have hD : va_D A [(h_this, .inr (5, [.int 0, .ref q1, .int 0, .ref q2, .int 0, .int 0, .int 0, .null, .int 0, .int 0, .null, .int 0])), (q1, .inl (cI, 300, .inl (fun _ => 0))), (q2, .inl (cI, 300, .inl (fun _ => 0)))] := hD
  refine lv_aload_n hx hb d_Mo_init_42 rfl (lv_at hl 0 rfl) ?_
  refine lv_iconst (v := 0) hx hb d_Mo_init_43 (by decide) ?_
  refine va_put (D := (dC, dI)) (ci := 5) (v := .int 0) (ty := .int) (C := R_Mo) (T := F_Mo) (N := 12) hx hb hts in_Mo t_Mo t_Mo_ok n_Mo hown hK.1 hP hD hS 0 rfl rfl 6 (by decide) (hts _ m_423) (fun _ h9 => h9) rfl (by decide +kernel) rfl rfl (Nat.le_of_ble_eq_true rfl) d_Mo_init_44 (fun H locs hP hD hS => ?_)
  have hP : va_P (dC, dI) classes [(h_this, .inr (5, [.int 0, .ref q1, .int 0, .ref q2, .int 0, .int 0, .int 0, .null, .int 0, .int 0, .null, .int 0])), (q1, .inl (cI, 300, .inl (fun _ => 0))), (q2, .inl (cI, 300, .inl (fun _ => 0)))] H := hP
  have hD : va_D A [(h_this, .inr (5, [.int 0, .ref q1, .int 0, .ref q2, .int 0, .int 0, .int 0, .null, .int 0, .int 0, .null, .int 0])), (q1, .inl (cI, 300, .inl (fun _ => 0))), (q2, .inl (cI, 300, .inl (fun _ => 0)))] := hD
  refine lv_aload_n hx hb d_Mo_init_47 rfl (lv_at hl 0 rfl) ?_
  refine lv_sipush (v := 300) hx hb d_Mo_init_48 (by decide) ?_
  refine na_I hx hb (hts _ m_72) hK hP hD hS hA (by decide) (N' := 300) (by decide) (by decide) (by decide) (by decide) d_Mo_init_51 (fun q3 H hP hD hS => ?_)
  refine W.widen (k := 3) (n := 900) (by decide) (by decide) ?_
  have hP : va_P (dC, dI) classes [(h_this, .inr (5, [.int 0, .ref q1, .int 0, .ref q2, .int 0, .int 0, .int 0, .null, .int 0, .int 0, .null, .int 0])), (q1, .inl (cI, 300, .inl (fun _ => 0))), (q2, .inl (cI, 300, .inl (fun _ => 0))), (q3, .inl (cI, 300, .inl (fun _ => 0)))] H := hP
  have hD : va_D A [(h_this, .inr (5, [.int 0, .ref q1, .int 0, .ref q2, .int 0, .int 0, .int 0, .null, .int 0, .int 0, .null, .int 0])), (q1, .inl (cI, 300, .inl (fun _ => 0))), (q2, .inl (cI, 300, .inl (fun _ => 0))), (q3, .inl (cI, 300, .inl (fun _ => 0)))] := hD
  refine va_putF (D := (dC, dI)) (ci := 5) (v := .ref q3) (ty := (.array .int)) (C := R_Mo) (T := F_Mo) (N := 12) hx hb hts in_Mo t_Mo t_Mo_ok n_Mo hown hK.1 hP hD hS 0 rfl rfl 7 (by decide) (hts _ m_424) (fun _ h9 => h9) rfl hnm rfl (by decide +kernel) rfl rfl (Nat.le_of_ble_eq_true rfl) d_Mo_init_53 (fun H locs hP hD hS => ?_)
  have hP : va_P (dC, dI) classes [(h_this, .inr (5, [.int 0, .ref q1, .int 0, .ref q2, .int 0, .int 0, .int 0, .ref q3, .int 0, .int 0, .null, .int 0])), (q1, .inl (cI, 300, .inl (fun _ => 0))), (q2, .inl (cI, 300, .inl (fun _ => 0))), (q3, .inl (cI, 300, .inl (fun _ => 0)))] H := hP
  have hD : va_D A [(h_this, .inr (5, [.int 0, .ref q1, .int 0, .ref q2, .int 0, .int 0, .int 0, .ref q3, .int 0, .int 0, .null, .int 0])), (q1, .inl (cI, 300, .inl (fun _ => 0))), (q2, .inl (cI, 300, .inl (fun _ => 0))), (q3, .inl (cI, 300, .inl (fun _ => 0)))] := hD
  refine lv_aload_n hx hb d_Mo_init_56 rfl (lv_at hl 0 rfl) ?_
  refine lv_iconst (v := 0) hx hb d_Mo_init_57 (by decide) ?_
  refine va_put (D := (dC, dI)) (ci := 5) (v := .int 0) (ty := .int) (C := R_Mo) (T := F_Mo) (N := 12) hx hb hts in_Mo t_Mo t_Mo_ok n_Mo hown hK.1 hP hD hS 0 rfl rfl 8 (by decide) (hts _ m_425) (fun _ h9 => h9) rfl (by decide +kernel) rfl rfl (Nat.le_of_ble_eq_true rfl) d_Mo_init_58 (fun H locs hP hD hS => ?_)
  have hP : va_P (dC, dI) classes [(h_this, .inr (5, [.int 0, .ref q1, .int 0, .ref q2, .int 0, .int 0, .int 0, .ref q3, .int 0, .int 0, .null, .int 0])), (q1, .inl (cI, 300, .inl (fun _ => 0))), (q2, .inl (cI, 300, .inl (fun _ => 0))), (q3, .inl (cI, 300, .inl (fun _ => 0)))] H := hP
  have hD : va_D A [(h_this, .inr (5, [.int 0, .ref q1, .int 0, .ref q2, .int 0, .int 0, .int 0, .ref q3, .int 0, .int 0, .null, .int 0])), (q1, .inl (cI, 300, .inl (fun _ => 0))), (q2, .inl (cI, 300, .inl (fun _ => 0))), (q3, .inl (cI, 300, .inl (fun _ => 0)))] := hD
  refine lv_aload_n hx hb d_Mo_init_61 rfl (lv_at hl 0 rfl) ?_
  refine lv_iconst (v := 0) hx hb d_Mo_init_62 (by decide) ?_
  refine va_put (D := (dC, dI)) (ci := 5) (v := .int 0) (ty := .int) (C := R_Mo) (T := F_Mo) (N := 12) hx hb hts in_Mo t_Mo t_Mo_ok n_Mo hown hK.1 hP hD hS 0 rfl rfl 9 (by decide) (hts _ m_426) (fun _ h9 => h9) rfl (by decide +kernel) rfl rfl (Nat.le_of_ble_eq_true rfl) d_Mo_init_63 (fun H locs hP hD hS => ?_)
  have hP : va_P (dC, dI) classes [(h_this, .inr (5, [.int 0, .ref q1, .int 0, .ref q2, .int 0, .int 0, .int 0, .ref q3, .int 0, .int 0, .null, .int 0])), (q1, .inl (cI, 300, .inl (fun _ => 0))), (q2, .inl (cI, 300, .inl (fun _ => 0))), (q3, .inl (cI, 300, .inl (fun _ => 0)))] H := hP
  have hD : va_D A [(h_this, .inr (5, [.int 0, .ref q1, .int 0, .ref q2, .int 0, .int 0, .int 0, .ref q3, .int 0, .int 0, .null, .int 0])), (q1, .inl (cI, 300, .inl (fun _ => 0))), (q2, .inl (cI, 300, .inl (fun _ => 0))), (q3, .inl (cI, 300, .inl (fun _ => 0)))] := hD
  refine lv_aload_n hx hb d_Mo_init_66 rfl (lv_at hl 0 rfl) ?_
  refine lv_sipush (v := 300) hx hb d_Mo_init_67 (by decide) ?_
  refine na_I hx hb (hts _ m_72) hK hP hD hS hA (by decide) (N' := 300) (by decide) (by decide) (by decide) (by decide) d_Mo_init_70 (fun q4 H hP hD hS => ?_)
  refine W.widen (k := 4) (n := 1200) (by decide) (by decide) ?_
  have hP : va_P (dC, dI) classes [(h_this, .inr (5, [.int 0, .ref q1, .int 0, .ref q2, .int 0, .int 0, .int 0, .ref q3, .int 0, .int 0, .null, .int 0])), (q1, .inl (cI, 300, .inl (fun _ => 0))), (q2, .inl (cI, 300, .inl (fun _ => 0))), (q3, .inl (cI, 300, .inl (fun _ => 0))), (q4, .inl (cI, 300, .inl (fun _ => 0)))] H := hP
  have hD : va_D A [(h_this, .inr (5, [.int 0, .ref q1, .int 0, .ref q2, .int 0, .int 0, .int 0, .ref q3, .int 0, .int 0, .null, .int 0])), (q1, .inl (cI, 300, .inl (fun _ => 0))), (q2, .inl (cI, 300, .inl (fun _ => 0))), (q3, .inl (cI, 300, .inl (fun _ => 0))), (q4, .inl (cI, 300, .inl (fun _ => 0)))] := hD
  refine va_putF (D := (dC, dI)) (ci := 5) (v := .ref q4) (ty := (.array .int)) (C := R_Mo) (T := F_Mo) (N := 12) hx hb hts in_Mo t_Mo t_Mo_ok n_Mo hown hK.1 hP hD hS 0 rfl rfl 10 (by decide) (hts _ m_427) (fun _ h9 => h9) rfl hnm rfl (by decide +kernel) rfl rfl (Nat.le_of_ble_eq_true rfl) d_Mo_init_72 (fun H locs hP hD hS => ?_)
  have hP : va_P (dC, dI) classes [(h_this, .inr (5, [.int 0, .ref q1, .int 0, .ref q2, .int 0, .int 0, .int 0, .ref q3, .int 0, .int 0, .ref q4, .int 0])), (q1, .inl (cI, 300, .inl (fun _ => 0))), (q2, .inl (cI, 300, .inl (fun _ => 0))), (q3, .inl (cI, 300, .inl (fun _ => 0))), (q4, .inl (cI, 300, .inl (fun _ => 0)))] H := hP
  have hD : va_D A [(h_this, .inr (5, [.int 0, .ref q1, .int 0, .ref q2, .int 0, .int 0, .int 0, .ref q3, .int 0, .int 0, .ref q4, .int 0])), (q1, .inl (cI, 300, .inl (fun _ => 0))), (q2, .inl (cI, 300, .inl (fun _ => 0))), (q3, .inl (cI, 300, .inl (fun _ => 0))), (q4, .inl (cI, 300, .inl (fun _ => 0)))] := hD
  refine lv_aload_n hx hb d_Mo_init_75 rfl (lv_at hl 0 rfl) ?_
  refine lv_iconst (v := 0) hx hb d_Mo_init_76 (by decide) ?_
  refine va_put (D := (dC, dI)) (ci := 5) (v := .int 0) (ty := .int) (C := R_Mo) (T := F_Mo) (N := 12) hx hb hts in_Mo t_Mo t_Mo_ok n_Mo hown hK.1 hP hD hS 0 rfl rfl 11 (by decide) (hts _ m_428) (fun _ h9 => h9) rfl (by decide +kernel) rfl rfl (Nat.le_of_ble_eq_true rfl) d_Mo_init_77 (fun H locs hP hD hS => ?_)
  have hP : va_P (dC, dI) classes [(h_this, .inr (5, [.int 0, .ref q1, .int 0, .ref q2, .int 0, .int 0, .int 0, .ref q3, .int 0, .int 0, .ref q4, .int 0])), (q1, .inl (cI, 300, .inl (fun _ => 0))), (q2, .inl (cI, 300, .inl (fun _ => 0))), (q3, .inl (cI, 300, .inl (fun _ => 0))), (q4, .inl (cI, 300, .inl (fun _ => 0)))] H := hP
  have hD : va_D A [(h_this, .inr (5, [.int 0, .ref q1, .int 0, .ref q2, .int 0, .int 0, .int 0, .ref q3, .int 0, .int 0, .ref q4, .int 0])), (q1, .inl (cI, 300, .inl (fun _ => 0))), (q2, .inl (cI, 300, .inl (fun _ => 0))), (q3, .inl (cI, 300, .inl (fun _ => 0))), (q4, .inl (cI, 300, .inl (fun _ => 0)))] := hD
  have hP9 := va_P_perm (ws' := [(h_this, .inr (5, [.int 0, .ref q1, .int 0, .ref q2, .int 0, .int 0, .int 0, .ref q3, .int 0, .int 0, .ref q4, .int 0])), (q1, .inl (cI, 300, .inl (fun _ => 0))), (q2, .inl (cI, 300, .inl (fun _ => 0))), (q3, .inl (cI, 300, .inl (fun _ => 0))), (q4, .inl (cI, 300, .inl (fun _ => 0)))]) hP [0, 1, 2, 3, 4] rfl
  have hD9 := hD.sub (ws' := [(h_this, .inr (5, [.int 0, .ref q1, .int 0, .ref q2, .int 0, .int 0, .int 0, .ref q3, .int 0, .int 0, .ref q4, .int 0])), (q1, .inl (cI, 300, .inl (fun _ => 0))), (q2, .inl (cI, 300, .inl (fun _ => 0))), (q3, .inl (cI, 300, .inl (fun _ => 0))), (q4, .inl (cI, 300, .inl (fun _ => 0)))]) [0, 1, 2, 3, 4] (by decide) rfl
  exact W.vret hx hb hr (fun t ht hW => ⟨⟨(), rfl, trivial, (q1, q2, q3, q4), by rw [ht]; exact hP9, hD9⟩, hS.F ht⟩) hS.2.2 d_Mo_init_80 hlk
set_option maxHeartbeats 4000000 in
set_option maxRecDepth 100000 in
theorem c_Mo_blank {l : Launch} {dC : Nat → ClassId} {dI : Nat → Nat → Nat} {cB cI : ClassId} {aK aV : Nat → Nat} (N : Nat) (x0 : Int32) (z : Int32) (h : f_Mo_blank N x0 = some z) : Ci l y_Mo_blank prog_7_method_2_code 1 (some .boolean) ({ frames := 0, cells := 0, slots := 0, locals := 0 }) (dC, dI) cB cI aK aV [.int x0] [] (fun A => (Qi (dC, dI) [] A z)) := by
  refine Ci_of (by decide) (Nat.le_of_ble_eq_true rfl) (fun p e s m below meth c A C hK hnm hA hP hD ls hl => ?_)
  obtain ⟨hx, hb, hr, hml, hown, hts, hlk⟩ := id C
  have hS : va_S A s.heap s.heap [] := va_S.rf
  have hl : lv_has ls 1 [(0, .int x0)] := hl
  rw [f_Mo_blank] at h
  refine lv_iload_n hx hb d_Mo_blank_0 rfl (lv_at hl 0 rfl) ?_
  refine lv_bipush (v := 32) hx hb d_Mo_blank_1 (by decide) ?_
  refine lv_icmp_eq (tgt := 12) hx hb d_Mo_blank_3 (by decide) (fun c_1 => ?_) (fun c_1 => ?_)
  · replace h := itT h c_1
    refine lv_iconst (v := 1) hx hb d_Mo_blank_12 (by decide) ?_
    refine lv_goto (tgt := 17) hx hb d_Mo_blank_13 (by decide) ?_
    obtain rfl := Option.some.inj h
    exact W.zret (v := 1) hx hb hr rfl (fun t ht hW => ⟨⟨1, (), rfl, rfl, by rw [ht]; exact hP, hD⟩, hS.F ht⟩) hS.2.2 d_Mo_blank_17 hlk
  · replace h := itF h c_1
    refine lv_iload_n hx hb d_Mo_blank_6 rfl (lv_at hl 0 rfl) ?_
    refine lv_bipush (v := 9) hx hb d_Mo_blank_7 (by decide) ?_
    refine lv_icmp_ne (tgt := 16) hx hb d_Mo_blank_9 (by decide) (fun c_2 => ?_) (fun c_2 => ?_)
    · replace h := itF h c_2
      refine lv_iconst (v := 0) hx hb d_Mo_blank_16 (by decide) ?_
      obtain rfl := Option.some.inj h
      exact W.zret (v := 0) hx hb hr rfl (fun t ht hW => ⟨⟨0, (), rfl, rfl, by rw [ht]; exact hP, hD⟩, hS.F ht⟩) hS.2.2 d_Mo_blank_17 hlk
    · replace h := itT h c_2
      refine lv_iconst (v := 1) hx hb d_Mo_blank_12 (by decide) ?_
      refine lv_goto (tgt := 17) hx hb d_Mo_blank_13 (by decide) ?_
      obtain rfl := Option.some.inj h
      exact W.zret (v := 1) hx hb hr rfl (fun t ht hW => ⟨⟨1, (), rfl, rfl, by rw [ht]; exact hP, hD⟩, hS.F ht⟩) hS.2.2 d_Mo_blank_17 hlk
set_option maxHeartbeats 4000000 in
set_option maxRecDepth 100000 in
theorem k_Mo_lineEnd_2 {p : Program} {l : Launch} {e : Env} {s : State} {m : MethodId} {args : Array Value} {below : List Frame} {meth : Method} {c : Code} {dC : Nat → ClassId} {dI : Nat → Nat → Nat} {cB cI : ClassId} {aK aV : Nat → Nat} {A : Nat → Prop} (C : cx p s m args meth c R_Mo prog_7_method_3_code 3 (some .int)) (hK : kx (dC, dI) cB cI aK aV A s) (hA : ∀ q : Nat, s.heap.size ≤ q → A q) (N : Nat) (h_this h_this_put h_this_text h_this_value h_this_part : Nat) (v_thrownCode : Int32) (v_puts : Int32) (v_nameFrom : Int32) (v_names : Int32) (v_values : Int32) (v_behind : Int32) (v_parts : Int32) (v_put : Nat → Int32) (v_value : Nat → Int32) (v_part : Nat → Int32) (v_bytes : Int32) (v_text : Nat → Int32) (z : Int32) :
    ∀ (n : Nat), ∀ (x2 : Int32), f_Mo_lineEnd_2 N v_bytes v_text n x2 = some z → ∀ (H : Heap) (locs : List Loc), va_P (dC, dI) classes [(h_this, .inr (5, [.int v_thrownCode, .ref h_this_put, .int v_puts, .ref h_this_text, .int v_bytes, .int v_nameFrom, .int v_names, .ref h_this_value, .int v_values, .int v_behind, .ref h_this_part, .int v_parts])), (h_this_put, .inl (cI, 300, .inl v_put)), (h_this_text, .inl (cI, 300, .inl v_text)), (h_this_value, .inl (cI, 300, .inl v_value)), (h_this_part, .inl (cI, 300, .inl v_part))] H → va_D A [(h_this, .inr (5, [.int v_thrownCode, .ref h_this_put, .int v_puts, .ref h_this_text, .int v_bytes, .int v_nameFrom, .int v_names, .ref h_this_value, .int v_values, .int v_behind, .ref h_this_part, .int v_parts])), (h_this_put, .inl (cI, 300, .inl v_put)), (h_this_text, .inl (cI, 300, .inl v_text)), (h_this_value, .inl (cI, 300, .inl v_value)), (h_this_part, .inl (cI, 300, .inl v_part))] → va_S A s.heap H locs → ∀ ls : Array Slot, lv_has ls 3 [(0, .ref h_this), (2, .int x2)] → W p l e ({ frames := 0, cells := 0, slots := 0, locals := 0 }) s m args below meth c H locs 0 0 (MQ below (Qi (dC, dI) [(h_this, .inr (5, [.int v_thrownCode, .ref h_this_put, .int v_puts, .ref h_this_text, .int v_bytes, .int v_nameFrom, .int v_names, .ref h_this_value, .int v_values, .int v_behind, .ref h_this_part, .int v_parts])), (h_this_put, .inl (cI, 300, .inl v_put)), (h_this_text, .inl (cI, 300, .inl v_text)), (h_this_value, .inl (cI, 300, .inl v_value)), (h_this_part, .inl (cI, 300, .inl v_part))] A z) args s 0 0 A) (F0 m 2 ls []) := by
  obtain ⟨hx, hb, hr, hml, hown, hts, hlk⟩ := id C
  intro n
  induction n with
  | zero =>
    intro x2 h
    rw [f_Mo_lineEnd_2] at h
    cases h
  | succ n ih =>
    intro x2 h H locs hP hD hS ls hl
    rw [f_Mo_lineEnd_2] at h
    refine lv_iload_n hx hb d_Mo_lineEnd_2 rfl (lv_at hl 1 rfl) ?_
    refine lv_aload_n hx hb d_Mo_lineEnd_3 rfl (lv_at hl 0 rfl) ?_
    refine va_get (D := (dC, dI)) (ci := 5) (v := .int v_bytes) (C := R_Mo) (T := F_Mo) (N := 12) hx hb hts in_Mo hown hK.1 hP 0 rfl rfl 4 (by decide) (hts _ m_421) (fun _ h9 => h9) rfl d_Mo_lineEnd_4 ?_
    refine lv_icmp_ge (tgt := 50) hx hb d_Mo_lineEnd_7 (by decide) (fun c_1 => ?_) (fun c_1 => ?_)
    · replace h := itT h c_1
      refine lv_iload_n hx hb d_Mo_lineEnd_50 rfl (lv_at hl 1 rfl) ?_
      obtain rfl := Option.some.inj h
      exact W.iret (v := x2) hx hb hr (fun t ht hW => ⟨⟨x2, (), rfl, rfl, by rw [ht]; exact hP, hD⟩, hS.F ht⟩) hS.2.2 d_Mo_lineEnd_51 hlk
    · replace h := itF h c_1
      refine lv_aload_n hx hb d_Mo_lineEnd_10 rfl (lv_at hl 0 rfl) ?_
      refine va_get (D := (dC, dI)) (ci := 5) (v := .ref h_this_text) (C := R_Mo) (T := F_Mo) (N := 12) hx hb hts in_Mo hown hK.1 hP 0 rfl rfl 3 (by decide) (hts _ m_420) (fun _ h9 => h9) rfl d_Mo_lineEnd_11 ?_
      refine lv_iload_n hx hb d_Mo_lineEnd_14 rfl (lv_at hl 1 rfl) ?_
      obtain ⟨g_2, h⟩ := grd h
      refine va_iald hx hb hK.1 hP 2 1 rfl rfl (inB_in g_2) d_Mo_lineEnd_15 ?_
      refine lv_bipush (v := 13) hx hb d_Mo_lineEnd_16 (by decide) ?_
      refine lv_icmp_ne (tgt := 44) hx hb d_Mo_lineEnd_18 (by decide) (fun c_3 => ?_) (fun c_3 => ?_)
      · replace h := itF h c_3
        refine lv_iinc (v := x2 + 1) (lv' := [(2, .int (x2 + 1)), (0, .ref h_this)]) hx hb d_Mo_lineEnd_44 hl (k := 1) rfl rfl (by decide) rfl (fun ls hl => ?_)
        refine lv_goto (tgt := 2) hx hb d_Mo_lineEnd_47 (by decide) ?_
        exact ih (x2 + 1) h _ _ hP hD hS _ (lv_sub hl [1, 0] rfl)
      · replace h := itT h c_3
        refine lv_iload_n hx hb d_Mo_lineEnd_21 rfl (lv_at hl 1 rfl) ?_
        refine lv_iconst (v := 1) hx hb d_Mo_lineEnd_22 (by decide) ?_
        refine lv_iadd hx hb d_Mo_lineEnd_23 ?_
        refine lv_aload_n hx hb d_Mo_lineEnd_24 rfl (lv_at hl 0 rfl) ?_
        refine va_get (D := (dC, dI)) (ci := 5) (v := .int v_bytes) (C := R_Mo) (T := F_Mo) (N := 12) hx hb hts in_Mo hown hK.1 hP 0 rfl rfl 4 (by decide) (hts _ m_421) (fun _ h9 => h9) rfl d_Mo_lineEnd_25 ?_
        refine lv_icmp_ge (tgt := 44) hx hb d_Mo_lineEnd_28 (by decide) (fun c_4 => ?_) (fun c_4 => ?_)
        · replace h := itT h c_4
          refine lv_iinc (v := x2 + 1) (lv' := [(2, .int (x2 + 1)), (0, .ref h_this)]) hx hb d_Mo_lineEnd_44 hl (k := 1) rfl rfl (by decide) rfl (fun ls hl => ?_)
          refine lv_goto (tgt := 2) hx hb d_Mo_lineEnd_47 (by decide) ?_
          exact ih (x2 + 1) h _ _ hP hD hS _ (lv_sub hl [1, 0] rfl)
        · replace h := itF h c_4
          refine lv_aload_n hx hb d_Mo_lineEnd_31 rfl (lv_at hl 0 rfl) ?_
          refine va_get (D := (dC, dI)) (ci := 5) (v := .ref h_this_text) (C := R_Mo) (T := F_Mo) (N := 12) hx hb hts in_Mo hown hK.1 hP 0 rfl rfl 3 (by decide) (hts _ m_420) (fun _ h9 => h9) rfl d_Mo_lineEnd_32 ?_
          refine lv_iload_n hx hb d_Mo_lineEnd_35 rfl (lv_at hl 1 rfl) ?_
          refine lv_iconst (v := 1) hx hb d_Mo_lineEnd_36 (by decide) ?_
          refine lv_iadd hx hb d_Mo_lineEnd_37 ?_
          obtain ⟨g_5, h⟩ := grd h
          refine va_iald hx hb hK.1 hP 2 1 rfl rfl (inB_in g_5) d_Mo_lineEnd_38 ?_
          refine lv_bipush (v := 10) hx hb d_Mo_lineEnd_39 (by decide) ?_
          refine lv_icmp_eq (tgt := 50) hx hb d_Mo_lineEnd_41 (by decide) (fun c_6 => ?_) (fun c_6 => ?_)
          · replace h := itT h c_6
            refine lv_iload_n hx hb d_Mo_lineEnd_50 rfl (lv_at hl 1 rfl) ?_
            obtain rfl := Option.some.inj h
            exact W.iret (v := x2) hx hb hr (fun t ht hW => ⟨⟨x2, (), rfl, rfl, by rw [ht]; exact hP, hD⟩, hS.F ht⟩) hS.2.2 d_Mo_lineEnd_51 hlk
          · replace h := itF h c_6
            refine lv_iinc (v := x2 + 1) (lv' := [(2, .int (x2 + 1)), (0, .ref h_this)]) hx hb d_Mo_lineEnd_44 hl (k := 1) rfl rfl (by decide) rfl (fun ls hl => ?_)
            refine lv_goto (tgt := 2) hx hb d_Mo_lineEnd_47 (by decide) ?_
            exact ih (x2 + 1) h _ _ hP hD hS _ (lv_sub hl [1, 0] rfl)
set_option maxHeartbeats 4000000 in
set_option maxRecDepth 100000 in
theorem c_Mo_lineEnd {l : Launch} {dC : Nat → ClassId} {dI : Nat → Nat → Nat} {cB cI : ClassId} {aK aV : Nat → Nat} (N : Nat) (h_this h_this_put h_this_text h_this_value h_this_part : Nat) (v_thrownCode : Int32) (v_puts : Int32) (v_bytes : Int32) (v_nameFrom : Int32) (v_names : Int32) (v_values : Int32) (v_behind : Int32) (v_parts : Int32) (v_put : Nat → Int32) (v_text : Nat → Int32) (v_value : Nat → Int32) (v_part : Nat → Int32) (x1 : Int32) (z : Int32) (h : f_Mo_lineEnd N x1 v_bytes v_text = some z) : Ci l y_Mo_lineEnd prog_7_method_3_code 3 (some .int) ({ frames := 0, cells := 0, slots := 0, locals := 0 }) (dC, dI) cB cI aK aV [.ref h_this, .int x1] [(h_this, .inr (5, [.int v_thrownCode, .ref h_this_put, .int v_puts, .ref h_this_text, .int v_bytes, .int v_nameFrom, .int v_names, .ref h_this_value, .int v_values, .int v_behind, .ref h_this_part, .int v_parts])), (h_this_put, .inl (cI, 300, .inl v_put)), (h_this_text, .inl (cI, 300, .inl v_text)), (h_this_value, .inl (cI, 300, .inl v_value)), (h_this_part, .inl (cI, 300, .inl v_part))] (fun A => (Qi (dC, dI) [(h_this, .inr (5, [.int v_thrownCode, .ref h_this_put, .int v_puts, .ref h_this_text, .int v_bytes, .int v_nameFrom, .int v_names, .ref h_this_value, .int v_values, .int v_behind, .ref h_this_part, .int v_parts])), (h_this_put, .inl (cI, 300, .inl v_put)), (h_this_text, .inl (cI, 300, .inl v_text)), (h_this_value, .inl (cI, 300, .inl v_value)), (h_this_part, .inl (cI, 300, .inl v_part))] A z)) := by
  refine Ci_of (by decide) (Nat.le_of_ble_eq_true rfl) (fun p e s m below meth c A C hK hnm hA hP hD ls hl => ?_)
  obtain ⟨hx, hb, hr, hml, hown, hts, hlk⟩ := id C
  have hS : va_S A s.heap s.heap [] := va_S.rf
  have hl : lv_has ls 3 [(0, .ref h_this), (1, .int x1)] := hl
  rw [f_Mo_lineEnd] at h
  refine lv_iload_n hx hb d_Mo_lineEnd_0 rfl (lv_at hl 1 rfl) ?_
  refine lv_istore_n (lv' := [(2, .int x1), (0, .ref h_this), (1, .int x1)]) hx hb d_Mo_lineEnd_1 rfl hl (by decide) rfl (fun ls hl => ?_)
  exact k_Mo_lineEnd_2 C hK hA N h_this h_this_put h_this_text h_this_value h_this_part v_thrownCode v_puts v_nameFrom v_names v_values v_behind v_parts v_put v_value v_part v_bytes v_text z N x1 h _ _ hP hD hS _ (lv_sub hl [1, 0] rfl)
set_option maxHeartbeats 4000000 in
set_option maxRecDepth 100000 in
theorem k_Mo_colon_80 {p : Program} {l : Launch} {e : Env} {s : State} {m : MethodId} {args : Array Value} {below : List Frame} {meth : Method} {c : Code} {dC : Nat → ClassId} {dI : Nat → Nat → Nat} {cB cI : ClassId} {aK aV : Nat → Nat} {A : Nat → Prop} (C : cx p s m args meth c R_Mo prog_7_method_4_code 5 (some .int)) (hK : kx (dC, dI) cB cI aK aV A s) (hA : ∀ q : Nat, s.heap.size ≤ q → A q) (N : Nat) (h_this h_this_put h_this_text h_this_value h_this_part : Nat) (v_thrownCode : Int32) (v_puts : Int32) (v_nameFrom : Int32) (v_names : Int32) (v_values : Int32) (v_behind : Int32) (v_parts : Int32) (v_put : Nat → Int32) (v_value : Nat → Int32) (v_part : Nat → Int32) (v_bytes : Int32) (v_text : Nat → Int32) (z : Int32) :
    ∀ (x2 : Int32) (x3 : Int32) (x4 : Int32), f_Mo_colon_80 N v_bytes v_text x2 x3 x4 = some z → ∀ (H : Heap) (locs : List Loc), va_P (dC, dI) classes [(h_this, .inr (5, [.int v_thrownCode, .ref h_this_put, .int v_puts, .ref h_this_text, .int v_bytes, .int v_nameFrom, .int v_names, .ref h_this_value, .int v_values, .int v_behind, .ref h_this_part, .int v_parts])), (h_this_put, .inl (cI, 300, .inl v_put)), (h_this_text, .inl (cI, 300, .inl v_text)), (h_this_value, .inl (cI, 300, .inl v_value)), (h_this_part, .inl (cI, 300, .inl v_part))] H → va_D A [(h_this, .inr (5, [.int v_thrownCode, .ref h_this_put, .int v_puts, .ref h_this_text, .int v_bytes, .int v_nameFrom, .int v_names, .ref h_this_value, .int v_values, .int v_behind, .ref h_this_part, .int v_parts])), (h_this_put, .inl (cI, 300, .inl v_put)), (h_this_text, .inl (cI, 300, .inl v_text)), (h_this_value, .inl (cI, 300, .inl v_value)), (h_this_part, .inl (cI, 300, .inl v_part))] → va_S A s.heap H locs → ∀ ls : Array Slot, lv_has ls 5 [(0, .ref h_this), (2, .int x2), (3, .int x3), (4, .int x4)] → W p l e ({ frames := 1, cells := 0, slots := 0, locals := 22 }) s m args below meth c H locs 0 0 (MQ below (Qi (dC, dI) [(h_this, .inr (5, [.int v_thrownCode, .ref h_this_put, .int v_puts, .ref h_this_text, .int v_bytes, .int v_nameFrom, .int v_names, .ref h_this_value, .int v_values, .int v_behind, .ref h_this_part, .int v_parts])), (h_this_put, .inl (cI, 300, .inl v_put)), (h_this_text, .inl (cI, 300, .inl v_text)), (h_this_value, .inl (cI, 300, .inl v_value)), (h_this_part, .inl (cI, 300, .inl v_part))] A z) args s 0 0 A) (F0 m 80 ls []) := by
  obtain ⟨hx, hb, hr, hml, hown, hts, hlk⟩ := id C
  intro x2 x3 x4 h H locs hP hD hS ls hl
  rw [f_Mo_colon_80] at h
  refine lv_iload hx hb d_Mo_colon_80 (lv_at hl 3 rfl) ?_
  refine lv_iconst (v := 1) hx hb d_Mo_colon_82 (by decide) ?_
  refine lv_icmp_lt (tgt := 109) hx hb d_Mo_colon_83 (by decide) (fun c_12 => ?_) (fun c_12 => ?_)
  · replace h := itT h c_12
    refine lv_iconst (v := (-1)) hx hb d_Mo_colon_109 (by decide) ?_
    refine lv_goto (tgt := 114) hx hb d_Mo_colon_110 (by decide) ?_
    obtain rfl := Option.some.inj h
    exact W.iret (v := (-1)) hx hb hr (fun t ht hW => ⟨⟨(-1), (), rfl, rfl, by rw [ht]; exact hP, hD⟩, hS.F ht⟩) hS.2.2 d_Mo_colon_114 hlk
  · replace h := itF h c_12
    refine lv_iload hx hb d_Mo_colon_86 (lv_at hl 3 rfl) ?_
    refine lv_bipush (v := 60) hx hb d_Mo_colon_88 (by decide) ?_
    refine lv_icmp_gt (tgt := 109) hx hb d_Mo_colon_90 (by decide) (fun c_13 => ?_) (fun c_13 => ?_)
    · replace h := itT h c_13
      refine lv_iconst (v := (-1)) hx hb d_Mo_colon_109 (by decide) ?_
      refine lv_goto (tgt := 114) hx hb d_Mo_colon_110 (by decide) ?_
      obtain rfl := Option.some.inj h
      exact W.iret (v := (-1)) hx hb hr (fun t ht hW => ⟨⟨(-1), (), rfl, rfl, by rw [ht]; exact hP, hD⟩, hS.F ht⟩) hS.2.2 d_Mo_colon_114 hlk
    · replace h := itF h c_13
      refine lv_iload_n hx hb d_Mo_colon_93 rfl (lv_at hl 2 rfl) ?_
      refine lv_iload_n hx hb d_Mo_colon_94 rfl (lv_at hl 1 rfl) ?_
      refine lv_icmp_ge (tgt := 109) hx hb d_Mo_colon_95 (by decide) (fun c_14 => ?_) (fun c_14 => ?_)
      · replace h := itT h c_14
        refine lv_iconst (v := (-1)) hx hb d_Mo_colon_109 (by decide) ?_
        refine lv_goto (tgt := 114) hx hb d_Mo_colon_110 (by decide) ?_
        obtain rfl := Option.some.inj h
        exact W.iret (v := (-1)) hx hb hr (fun t ht hW => ⟨⟨(-1), (), rfl, rfl, by rw [ht]; exact hP, hD⟩, hS.F ht⟩) hS.2.2 d_Mo_colon_114 hlk
      · replace h := itF h c_14
        refine lv_aload_n hx hb d_Mo_colon_98 rfl (lv_at hl 0 rfl) ?_
        refine va_get (D := (dC, dI)) (ci := 5) (v := .ref h_this_text) (C := R_Mo) (T := F_Mo) (N := 12) hx hb hts in_Mo hown hK.1 hP 0 rfl rfl 3 (by decide) (hts _ m_420) (fun _ h9 => h9) rfl d_Mo_colon_99 ?_
        refine lv_iload_n hx hb d_Mo_colon_102 rfl (lv_at hl 2 rfl) ?_
        obtain ⟨g_15, h⟩ := grd h
        refine va_iald hx hb hK.1 hP 2 1 rfl rfl (inB_in g_15) d_Mo_colon_103 ?_
        refine lv_bipush (v := 58) hx hb d_Mo_colon_104 (by decide) ?_
        refine lv_icmp_eq (tgt := 113) hx hb d_Mo_colon_106 (by decide) (fun c_16 => ?_) (fun c_16 => ?_)
        · replace h := itT h c_16
          refine lv_iload_n hx hb d_Mo_colon_113 rfl (lv_at hl 2 rfl) ?_
          obtain rfl := Option.some.inj h
          exact W.iret (v := x3) hx hb hr (fun t ht hW => ⟨⟨x3, (), rfl, rfl, by rw [ht]; exact hP, hD⟩, hS.F ht⟩) hS.2.2 d_Mo_colon_114 hlk
        · replace h := itF h c_16
          refine lv_iconst (v := (-1)) hx hb d_Mo_colon_109 (by decide) ?_
          refine lv_goto (tgt := 114) hx hb d_Mo_colon_110 (by decide) ?_
          obtain rfl := Option.some.inj h
          exact W.iret (v := (-1)) hx hb hr (fun t ht hW => ⟨⟨(-1), (), rfl, rfl, by rw [ht]; exact hP, hD⟩, hS.F ht⟩) hS.2.2 d_Mo_colon_114 hlk
set_option maxHeartbeats 4000000 in
set_option maxRecDepth 100000 in
theorem k_Mo_colon_57 {p : Program} {l : Launch} {e : Env} {s : State} {m : MethodId} {args : Array Value} {below : List Frame} {meth : Method} {c : Code} {dC : Nat → ClassId} {dI : Nat → Nat → Nat} {cB cI : ClassId} {aK aV : Nat → Nat} {A : Nat → Prop} (C : cx p s m args meth c R_Mo prog_7_method_4_code 5 (some .int)) (hK : kx (dC, dI) cB cI aK aV A s) (hA : ∀ q : Nat, s.heap.size ≤ q → A q) (N : Nat) (h_this h_this_put h_this_text h_this_value h_this_part : Nat) (v_thrownCode : Int32) (v_puts : Int32) (v_nameFrom : Int32) (v_names : Int32) (v_values : Int32) (v_behind : Int32) (v_parts : Int32) (v_put : Nat → Int32) (v_value : Nat → Int32) (v_part : Nat → Int32) (v_bytes : Int32) (v_text : Nat → Int32) (z : Int32) :
    ∀ (n : Nat), ∀ (x2 : Int32) (x3 : Int32) (x4 : Int32), f_Mo_colon_57 N v_bytes v_text n x2 x3 x4 = some z → ∀ (H : Heap) (locs : List Loc), va_P (dC, dI) classes [(h_this, .inr (5, [.int v_thrownCode, .ref h_this_put, .int v_puts, .ref h_this_text, .int v_bytes, .int v_nameFrom, .int v_names, .ref h_this_value, .int v_values, .int v_behind, .ref h_this_part, .int v_parts])), (h_this_put, .inl (cI, 300, .inl v_put)), (h_this_text, .inl (cI, 300, .inl v_text)), (h_this_value, .inl (cI, 300, .inl v_value)), (h_this_part, .inl (cI, 300, .inl v_part))] H → va_D A [(h_this, .inr (5, [.int v_thrownCode, .ref h_this_put, .int v_puts, .ref h_this_text, .int v_bytes, .int v_nameFrom, .int v_names, .ref h_this_value, .int v_values, .int v_behind, .ref h_this_part, .int v_parts])), (h_this_put, .inl (cI, 300, .inl v_put)), (h_this_text, .inl (cI, 300, .inl v_text)), (h_this_value, .inl (cI, 300, .inl v_value)), (h_this_part, .inl (cI, 300, .inl v_part))] → va_S A s.heap H locs → ∀ ls : Array Slot, lv_has ls 5 [(0, .ref h_this), (2, .int x2), (3, .int x3), (4, .int x4)] → W p l e ({ frames := 1, cells := 0, slots := 0, locals := 22 }) s m args below meth c H locs 0 0 (MQ below (Qi (dC, dI) [(h_this, .inr (5, [.int v_thrownCode, .ref h_this_put, .int v_puts, .ref h_this_text, .int v_bytes, .int v_nameFrom, .int v_names, .ref h_this_value, .int v_values, .int v_behind, .ref h_this_part, .int v_parts])), (h_this_put, .inl (cI, 300, .inl v_put)), (h_this_text, .inl (cI, 300, .inl v_text)), (h_this_value, .inl (cI, 300, .inl v_value)), (h_this_part, .inl (cI, 300, .inl v_part))] A z) args s 0 0 A) (F0 m 57 ls []) := by
  obtain ⟨hx, hb, hr, hml, hown, hts, hlk⟩ := id C
  intro n
  induction n with
  | zero =>
    intro x2 x3 x4 h
    rw [f_Mo_colon_57] at h
    cases h
  | succ n ih =>
    intro x2 x3 x4 h H locs hP hD hS ls hl
    rw [f_Mo_colon_57] at h
    refine lv_iload_n hx hb d_Mo_colon_57 rfl (lv_at hl 2 rfl) ?_
    refine lv_iload_n hx hb d_Mo_colon_58 rfl (lv_at hl 1 rfl) ?_
    refine lv_icmp_ge (tgt := 80) hx hb d_Mo_colon_59 (by decide) (fun c_8 => ?_) (fun c_8 => ?_)
    · replace h := itT h c_8
      exact k_Mo_colon_80 C hK hA N h_this h_this_put h_this_text h_this_value h_this_part v_thrownCode v_puts v_nameFrom v_names v_values v_behind v_parts v_put v_value v_part v_bytes v_text z x2 x3 x4 h _ _ hP hD hS _ (lv_sub hl [0, 1, 2, 3] rfl)
    · replace h := itF h c_8
      refine lv_aload_n hx hb d_Mo_colon_62 rfl (lv_at hl 0 rfl) ?_
      refine va_get (D := (dC, dI)) (ci := 5) (v := .ref h_this_text) (C := R_Mo) (T := F_Mo) (N := 12) hx hb hts in_Mo hown hK.1 hP 0 rfl rfl 3 (by decide) (hts _ m_420) (fun _ h9 => h9) rfl d_Mo_colon_63 ?_
      refine lv_iload_n hx hb d_Mo_colon_66 rfl (lv_at hl 2 rfl) ?_
      obtain ⟨g_9, h⟩ := grd h
      refine va_iald hx hb hK.1 hP 2 1 rfl rfl (inB_in g_9) d_Mo_colon_67 ?_
      obtain ⟨z10, hc_10, h⟩ := bs h
      refine go_i (wr := [(h_this, .inr (5, [.int v_thrownCode, .ref h_this_put, .int v_puts, .ref h_this_text, .int v_bytes, .int v_nameFrom, .int v_names, .ref h_this_value, .int v_values, .int v_behind, .ref h_this_part, .int v_parts])), (h_this_put, .inl (cI, 300, .inl v_put)), (h_this_text, .inl (cI, 300, .inl v_text)), (h_this_value, .inl (cI, 300, .inl v_value)), (h_this_part, .inl (cI, 300, .inl v_part))]) (w1 := []) (ws2 := [(h_this, .inr (5, [.int v_thrownCode, .ref h_this_put, .int v_puts, .ref h_this_text, .int v_bytes, .int v_nameFrom, .int v_names, .ref h_this_value, .int v_values, .int v_behind, .ref h_this_part, .int v_parts])), (h_this_put, .inl (cI, 300, .inl v_put)), (h_this_text, .inl (cI, 300, .inl v_text)), (h_this_value, .inl (cI, 300, .inl v_value)), (h_this_part, .inl (cI, 300, .inl v_part))]) hP hD hS hA [] [0, 1, 2, 3, 4] [0, 1, 2, 3, 4] rfl (by decide) rfl (by decide) (by decide) rfl (by decide) (fun hPc hDc hFc => rn_S (As := [.int (v_text x3.toNatClampNeg)]) (rest := []) C hK (c_Mo_blank N (v_text x3.toNatClampNeg) z10 hc_10 _) ⟨rfl, rfl⟩ m_478 ok_Mo_blank ⟨by decide, by decide⟩ hl.1 rfl (Nat.le_of_ble_eq_true rfl) d_Mo_colon_68 ⟨by decide, by decide⟩ hS hPc hDc hFc) (fun H locs hP hD hS => ?_)
      refine lv_if_eq (tgt := 80) hx hb d_Mo_colon_71 (by decide) (fun c_11 => ?_) (fun c_11 => ?_)
      · replace h := itT h c_11
        exact k_Mo_colon_80 C hK hA N h_this h_this_put h_this_text h_this_value h_this_part v_thrownCode v_puts v_nameFrom v_names v_values v_behind v_parts v_put v_value v_part v_bytes v_text z x2 x3 x4 h _ _ hP hD hS _ (lv_sub hl [0, 1, 2, 3] rfl)
      · replace h := itF h c_11
        refine lv_iinc (v := x3 + 1) (lv' := [(3, .int (x3 + 1)), (0, .ref h_this), (2, .int x2), (4, .int x4)]) hx hb d_Mo_colon_74 hl (k := 2) rfl rfl (by decide) rfl (fun ls hl => ?_)
        refine lv_goto (tgt := 57) hx hb d_Mo_colon_77 (by decide) ?_
        exact ih x2 (x3 + 1) x4 h _ _ hP hD hS _ (lv_sub hl [1, 2, 0, 3] rfl)
set_option maxHeartbeats 4000000 in
set_option maxRecDepth 100000 in
theorem k_Mo_colon_8 {p : Program} {l : Launch} {e : Env} {s : State} {m : MethodId} {args : Array Value} {below : List Frame} {meth : Method} {c : Code} {dC : Nat → ClassId} {dI : Nat → Nat → Nat} {cB cI : ClassId} {aK aV : Nat → Nat} {A : Nat → Prop} (C : cx p s m args meth c R_Mo prog_7_method_4_code 5 (some .int)) (hK : kx (dC, dI) cB cI aK aV A s) (hA : ∀ q : Nat, s.heap.size ≤ q → A q) (N : Nat) (h_this h_this_put h_this_text h_this_value h_this_part : Nat) (v_thrownCode : Int32) (v_puts : Int32) (v_nameFrom : Int32) (v_names : Int32) (v_values : Int32) (v_behind : Int32) (v_parts : Int32) (v_put : Nat → Int32) (v_value : Nat → Int32) (v_part : Nat → Int32) (x1 : Int32) (v_bytes : Int32) (v_text : Nat → Int32) (z : Int32) :
    ∀ (n : Nat), ∀ (x2 : Int32) (x3 : Int32), f_Mo_colon_8 N x1 v_bytes v_text n x2 x3 = some z → ∀ (H : Heap) (locs : List Loc), va_P (dC, dI) classes [(h_this, .inr (5, [.int v_thrownCode, .ref h_this_put, .int v_puts, .ref h_this_text, .int v_bytes, .int v_nameFrom, .int v_names, .ref h_this_value, .int v_values, .int v_behind, .ref h_this_part, .int v_parts])), (h_this_put, .inl (cI, 300, .inl v_put)), (h_this_text, .inl (cI, 300, .inl v_text)), (h_this_value, .inl (cI, 300, .inl v_value)), (h_this_part, .inl (cI, 300, .inl v_part))] H → va_D A [(h_this, .inr (5, [.int v_thrownCode, .ref h_this_put, .int v_puts, .ref h_this_text, .int v_bytes, .int v_nameFrom, .int v_names, .ref h_this_value, .int v_values, .int v_behind, .ref h_this_part, .int v_parts])), (h_this_put, .inl (cI, 300, .inl v_put)), (h_this_text, .inl (cI, 300, .inl v_text)), (h_this_value, .inl (cI, 300, .inl v_value)), (h_this_part, .inl (cI, 300, .inl v_part))] → va_S A s.heap H locs → ∀ ls : Array Slot, lv_has ls 5 [(0, .ref h_this), (1, .int x1), (2, .int x2), (3, .int x3)] → W p l e ({ frames := 1, cells := 0, slots := 0, locals := 22 }) s m args below meth c H locs 0 0 (MQ below (Qi (dC, dI) [(h_this, .inr (5, [.int v_thrownCode, .ref h_this_put, .int v_puts, .ref h_this_text, .int v_bytes, .int v_nameFrom, .int v_names, .ref h_this_value, .int v_values, .int v_behind, .ref h_this_part, .int v_parts])), (h_this_put, .inl (cI, 300, .inl v_put)), (h_this_text, .inl (cI, 300, .inl v_text)), (h_this_value, .inl (cI, 300, .inl v_value)), (h_this_part, .inl (cI, 300, .inl v_part))] A z) args s 0 0 A) (F0 m 8 ls []) := by
  obtain ⟨hx, hb, hr, hml, hown, hts, hlk⟩ := id C
  intro n
  induction n with
  | zero =>
    intro x2 x3 h
    rw [f_Mo_colon_8] at h
    cases h
  | succ n ih =>
    intro x2 x3 h H locs hP hD hS ls hl
    rw [f_Mo_colon_8] at h
    refine lv_iload_n hx hb d_Mo_colon_8 rfl (lv_at hl 3 rfl) ?_
    refine lv_iload_n hx hb d_Mo_colon_9 rfl (lv_at hl 2 rfl) ?_
    refine lv_icmp_ge (tgt := 52) hx hb d_Mo_colon_10 (by decide) (fun c_1 => ?_) (fun c_1 => ?_)
    · replace h := itT h c_1
      refine lv_iload_n hx hb d_Mo_colon_52 rfl (lv_at hl 3 rfl) ?_
      refine lv_iload_n hx hb d_Mo_colon_53 rfl (lv_at hl 1 rfl) ?_
      refine lv_isub hx hb d_Mo_colon_54 ?_
      refine lv_istore (lv' := [(4, .int (x3 - x1)), (0, .ref h_this), (1, .int x1), (2, .int x2), (3, .int x3)]) hx hb d_Mo_colon_55 hl (by decide) rfl (fun ls hl => ?_)
      exact k_Mo_colon_57 C hK hA N h_this h_this_put h_this_text h_this_value h_this_part v_thrownCode v_puts v_nameFrom v_names v_values v_behind v_parts v_put v_value v_part v_bytes v_text z N x2 x3 (x3 - x1) h _ _ hP hD hS _ (lv_sub hl [1, 3, 4, 0] rfl)
    · replace h := itF h c_1
      refine lv_aload_n hx hb d_Mo_colon_13 rfl (lv_at hl 0 rfl) ?_
      refine va_get (D := (dC, dI)) (ci := 5) (v := .ref h_this_text) (C := R_Mo) (T := F_Mo) (N := 12) hx hb hts in_Mo hown hK.1 hP 0 rfl rfl 3 (by decide) (hts _ m_420) (fun _ h9 => h9) rfl d_Mo_colon_14 ?_
      refine lv_iload_n hx hb d_Mo_colon_17 rfl (lv_at hl 3 rfl) ?_
      obtain ⟨g_2, h⟩ := grd h
      refine va_iald hx hb hK.1 hP 2 1 rfl rfl (inB_in g_2) d_Mo_colon_18 ?_
      refine lv_bipush (v := 32) hx hb d_Mo_colon_19 (by decide) ?_
      refine lv_icmp_le (tgt := 52) hx hb d_Mo_colon_21 (by decide) (fun c_3 => ?_) (fun c_3 => ?_)
      · replace h := itT h c_3
        refine lv_iload_n hx hb d_Mo_colon_52 rfl (lv_at hl 3 rfl) ?_
        refine lv_iload_n hx hb d_Mo_colon_53 rfl (lv_at hl 1 rfl) ?_
        refine lv_isub hx hb d_Mo_colon_54 ?_
        refine lv_istore (lv' := [(4, .int (x3 - x1)), (0, .ref h_this), (1, .int x1), (2, .int x2), (3, .int x3)]) hx hb d_Mo_colon_55 hl (by decide) rfl (fun ls hl => ?_)
        exact k_Mo_colon_57 C hK hA N h_this h_this_put h_this_text h_this_value h_this_part v_thrownCode v_puts v_nameFrom v_names v_values v_behind v_parts v_put v_value v_part v_bytes v_text z N x2 x3 (x3 - x1) h _ _ hP hD hS _ (lv_sub hl [1, 3, 4, 0] rfl)
      · replace h := itF h c_3
        refine lv_aload_n hx hb d_Mo_colon_24 rfl (lv_at hl 0 rfl) ?_
        refine va_get (D := (dC, dI)) (ci := 5) (v := .ref h_this_text) (C := R_Mo) (T := F_Mo) (N := 12) hx hb hts in_Mo hown hK.1 hP 0 rfl rfl 3 (by decide) (hts _ m_420) (fun _ h9 => h9) rfl d_Mo_colon_25 ?_
        refine lv_iload_n hx hb d_Mo_colon_28 rfl (lv_at hl 3 rfl) ?_
        obtain ⟨g_4, h⟩ := grd h
        refine va_iald hx hb hK.1 hP 2 1 rfl rfl (inB_in g_4) d_Mo_colon_29 ?_
        refine lv_bipush (v := 127) hx hb d_Mo_colon_30 (by decide) ?_
        refine lv_icmp_ge (tgt := 52) hx hb d_Mo_colon_32 (by decide) (fun c_5 => ?_) (fun c_5 => ?_)
        · replace h := itT h c_5
          refine lv_iload_n hx hb d_Mo_colon_52 rfl (lv_at hl 3 rfl) ?_
          refine lv_iload_n hx hb d_Mo_colon_53 rfl (lv_at hl 1 rfl) ?_
          refine lv_isub hx hb d_Mo_colon_54 ?_
          refine lv_istore (lv' := [(4, .int (x3 - x1)), (0, .ref h_this), (1, .int x1), (2, .int x2), (3, .int x3)]) hx hb d_Mo_colon_55 hl (by decide) rfl (fun ls hl => ?_)
          exact k_Mo_colon_57 C hK hA N h_this h_this_put h_this_text h_this_value h_this_part v_thrownCode v_puts v_nameFrom v_names v_values v_behind v_parts v_put v_value v_part v_bytes v_text z N x2 x3 (x3 - x1) h _ _ hP hD hS _ (lv_sub hl [1, 3, 4, 0] rfl)
        · replace h := itF h c_5
          refine lv_aload_n hx hb d_Mo_colon_35 rfl (lv_at hl 0 rfl) ?_
          refine va_get (D := (dC, dI)) (ci := 5) (v := .ref h_this_text) (C := R_Mo) (T := F_Mo) (N := 12) hx hb hts in_Mo hown hK.1 hP 0 rfl rfl 3 (by decide) (hts _ m_420) (fun _ h9 => h9) rfl d_Mo_colon_36 ?_
          refine lv_iload_n hx hb d_Mo_colon_39 rfl (lv_at hl 3 rfl) ?_
          obtain ⟨g_6, h⟩ := grd h
          refine va_iald hx hb hK.1 hP 2 1 rfl rfl (inB_in g_6) d_Mo_colon_40 ?_
          refine lv_bipush (v := 58) hx hb d_Mo_colon_41 (by decide) ?_
          refine lv_icmp_eq (tgt := 52) hx hb d_Mo_colon_43 (by decide) (fun c_7 => ?_) (fun c_7 => ?_)
          · replace h := itT h c_7
            refine lv_iload_n hx hb d_Mo_colon_52 rfl (lv_at hl 3 rfl) ?_
            refine lv_iload_n hx hb d_Mo_colon_53 rfl (lv_at hl 1 rfl) ?_
            refine lv_isub hx hb d_Mo_colon_54 ?_
            refine lv_istore (lv' := [(4, .int (x3 - x1)), (0, .ref h_this), (1, .int x1), (2, .int x2), (3, .int x3)]) hx hb d_Mo_colon_55 hl (by decide) rfl (fun ls hl => ?_)
            exact k_Mo_colon_57 C hK hA N h_this h_this_put h_this_text h_this_value h_this_part v_thrownCode v_puts v_nameFrom v_names v_values v_behind v_parts v_put v_value v_part v_bytes v_text z N x2 x3 (x3 - x1) h _ _ hP hD hS _ (lv_sub hl [1, 3, 4, 0] rfl)
          · replace h := itF h c_7
            refine lv_iinc (v := x3 + 1) (lv' := [(3, .int (x3 + 1)), (0, .ref h_this), (1, .int x1), (2, .int x2)]) hx hb d_Mo_colon_46 hl (k := 3) rfl rfl (by decide) rfl (fun ls hl => ?_)
            refine lv_goto (tgt := 8) hx hb d_Mo_colon_49 (by decide) ?_
            exact ih x2 (x3 + 1) h _ _ hP hD hS _ (lv_sub hl [1, 2, 3, 0] rfl)
set_option maxHeartbeats 4000000 in
set_option maxRecDepth 100000 in
theorem c_Mo_colon {l : Launch} {dC : Nat → ClassId} {dI : Nat → Nat → Nat} {cB cI : ClassId} {aK aV : Nat → Nat} (N : Nat) (h_this h_this_put h_this_text h_this_value h_this_part : Nat) (v_thrownCode : Int32) (v_puts : Int32) (v_bytes : Int32) (v_nameFrom : Int32) (v_names : Int32) (v_values : Int32) (v_behind : Int32) (v_parts : Int32) (v_put : Nat → Int32) (v_text : Nat → Int32) (v_value : Nat → Int32) (v_part : Nat → Int32) (x1 : Int32) (z : Int32) (h : f_Mo_colon N x1 v_bytes v_text = some z) : Ci l y_Mo_colon prog_7_method_4_code 5 (some .int) ({ frames := 1, cells := 0, slots := 0, locals := 22 }) (dC, dI) cB cI aK aV [.ref h_this, .int x1] [(h_this, .inr (5, [.int v_thrownCode, .ref h_this_put, .int v_puts, .ref h_this_text, .int v_bytes, .int v_nameFrom, .int v_names, .ref h_this_value, .int v_values, .int v_behind, .ref h_this_part, .int v_parts])), (h_this_put, .inl (cI, 300, .inl v_put)), (h_this_text, .inl (cI, 300, .inl v_text)), (h_this_value, .inl (cI, 300, .inl v_value)), (h_this_part, .inl (cI, 300, .inl v_part))] (fun A => (Qi (dC, dI) [(h_this, .inr (5, [.int v_thrownCode, .ref h_this_put, .int v_puts, .ref h_this_text, .int v_bytes, .int v_nameFrom, .int v_names, .ref h_this_value, .int v_values, .int v_behind, .ref h_this_part, .int v_parts])), (h_this_put, .inl (cI, 300, .inl v_put)), (h_this_text, .inl (cI, 300, .inl v_text)), (h_this_value, .inl (cI, 300, .inl v_value)), (h_this_part, .inl (cI, 300, .inl v_part))] A z)) := by
  refine Ci_of (by decide) (Nat.le_of_ble_eq_true rfl) (fun p e s m below meth c A C hK hnm hA hP hD ls hl => ?_)
  obtain ⟨hx, hb, hr, hml, hown, hts, hlk⟩ := id C
  have hS : va_S A s.heap s.heap [] := va_S.rf
  have hl : lv_has ls 5 [(0, .ref h_this), (1, .int x1)] := hl
  rw [f_Mo_colon] at h
  refine lv_aload_n hx hb d_Mo_colon_0 rfl (lv_at hl 0 rfl) ?_
  refine lv_iload_n hx hb d_Mo_colon_1 rfl (lv_at hl 1 rfl) ?_
  obtain ⟨z17, hc_17, h⟩ := bs h
  refine go_i (wr := []) (w1 := [(h_this, .inr (5, [.int v_thrownCode, .ref h_this_put, .int v_puts, .ref h_this_text, .int v_bytes, .int v_nameFrom, .int v_names, .ref h_this_value, .int v_values, .int v_behind, .ref h_this_part, .int v_parts])), (h_this_put, .inl (cI, 300, .inl v_put)), (h_this_text, .inl (cI, 300, .inl v_text)), (h_this_value, .inl (cI, 300, .inl v_value)), (h_this_part, .inl (cI, 300, .inl v_part))]) (ws2 := [(h_this, .inr (5, [.int v_thrownCode, .ref h_this_put, .int v_puts, .ref h_this_text, .int v_bytes, .int v_nameFrom, .int v_names, .ref h_this_value, .int v_values, .int v_behind, .ref h_this_part, .int v_parts])), (h_this_put, .inl (cI, 300, .inl v_put)), (h_this_text, .inl (cI, 300, .inl v_text)), (h_this_value, .inl (cI, 300, .inl v_value)), (h_this_part, .inl (cI, 300, .inl v_part))]) hP hD hS hA [0, 1, 2, 3, 4] [] [0, 1, 2, 3, 4] rfl (by decide) rfl (by decide) (by decide) rfl (by decide) (fun hPc hDc hFc => rn_V (As := [.int x1]) (rest := []) C hK (c_Mo_lineEnd N h_this h_this_put h_this_text h_this_value h_this_part v_thrownCode v_puts v_bytes v_nameFrom v_names v_values v_behind v_parts v_put v_text v_value v_part x1 z17 hc_17 _) ⟨rfl, rfl⟩ m_474 ok_Mo_lineEnd ⟨by decide, by decide⟩ rfl rfl rfl hl.1 rfl (Nat.le_of_ble_eq_true rfl) d_Mo_colon_2 ⟨by decide, by decide⟩ hS hPc hDc hFc) (fun H locs hP hD hS => ?_)
  refine lv_istore_n (lv' := [(2, .int z17), (0, .ref h_this), (1, .int x1)]) hx hb d_Mo_colon_5 rfl hl (by decide) rfl (fun ls hl => ?_)
  refine lv_iload_n hx hb d_Mo_colon_6 rfl (lv_at hl 2 rfl) ?_
  refine lv_istore_n (lv' := [(3, .int x1), (2, .int z17), (0, .ref h_this), (1, .int x1)]) hx hb d_Mo_colon_7 rfl hl (by decide) rfl (fun ls hl => ?_)
  exact k_Mo_colon_8 C hK hA N h_this h_this_put h_this_text h_this_value h_this_part v_thrownCode v_puts v_nameFrom v_names v_values v_behind v_parts v_put v_value v_part x1 v_bytes v_text z N z17 x1 h _ _ hP hD hS _ (lv_sub hl [2, 3, 1, 0] rfl)
set_option maxHeartbeats 4000000 in
set_option maxRecDepth 100000 in
theorem k_Mo_takeLine_8 {p : Program} {l : Launch} {e : Env} {s : State} {m : MethodId} {args : Array Value} {below : List Frame} {meth : Method} {c : Code} {dC : Nat → ClassId} {dI : Nat → Nat → Nat} {cB cI : ClassId} {aK aV : Nat → Nat} {A : Nat → Prop} (C : cx p s m args meth c R_Mo prog_7_method_6_code 4 none) (hK : kx (dC, dI) cB cI aK aV A s) (hA : ∀ q : Nat, s.heap.size ≤ q → A q) (N : Nat) (h_this h_this_put h_this_text h_this_value h_this_part : Nat) (v_thrownCode : Int32) (v_puts : Int32) (v_nameFrom : Int32) (v_names : Int32) (v_parts : Int32) (v_put : Nat → Int32) (v_part : Nat → Int32) (v_bytes : Int32) (v_text : Nat → Int32) (z : Int32 × Int32 × (Nat → Int32)) :
    ∀ (n : Nat), ∀ (x2 : Int32) (x3 : Int32) (v_values : Int32) (v_behind : Int32) (v_value : Nat → Int32), f_Mo_takeLine_8 N v_bytes v_text n x2 x3 v_values v_behind v_value = some z → ∀ (H : Heap) (locs : List Loc), va_P (dC, dI) classes [(h_this, .inr (5, [.int v_thrownCode, .ref h_this_put, .int v_puts, .ref h_this_text, .int v_bytes, .int v_nameFrom, .int v_names, .ref h_this_value, .int v_values, .int v_behind, .ref h_this_part, .int v_parts])), (h_this_put, .inl (cI, 300, .inl v_put)), (h_this_text, .inl (cI, 300, .inl v_text)), (h_this_value, .inl (cI, 300, .inl v_value)), (h_this_part, .inl (cI, 300, .inl v_part))] H → va_D A [(h_this, .inr (5, [.int v_thrownCode, .ref h_this_put, .int v_puts, .ref h_this_text, .int v_bytes, .int v_nameFrom, .int v_names, .ref h_this_value, .int v_values, .int v_behind, .ref h_this_part, .int v_parts])), (h_this_put, .inl (cI, 300, .inl v_put)), (h_this_text, .inl (cI, 300, .inl v_text)), (h_this_value, .inl (cI, 300, .inl v_value)), (h_this_part, .inl (cI, 300, .inl v_part))] → va_S A s.heap H locs → ∀ ls : Array Slot, lv_has ls 4 [(0, .ref h_this), (2, .int x2), (3, .int x3)] → W p l e ({ frames := 1, cells := 0, slots := 0, locals := 22 }) s m args below meth c H locs 0 0 (MQ below (Qv (dC, dI) [(h_this, .inr (5, [.int v_thrownCode, .ref h_this_put, .int v_puts, .ref h_this_text, .int v_bytes, .int v_nameFrom, .int v_names, .ref h_this_value, .int z.1, .int z.2.1, .ref h_this_part, .int v_parts])), (h_this_put, .inl (cI, 300, .inl v_put)), (h_this_text, .inl (cI, 300, .inl v_text)), (h_this_value, .inl (cI, 300, .inl z.2.2)), (h_this_part, .inl (cI, 300, .inl v_part))] A) args s 0 0 A) (F0 m 8 ls []) := by
  obtain ⟨hx, hb, hr, hml, hown, hts, hlk⟩ := id C
  intro n
  induction n with
  | zero =>
    intro x2 x3 v_values v_behind v_value h
    rw [f_Mo_takeLine_8] at h
    cases h
  | succ n ih =>
    intro x2 x3 v_values v_behind v_value h H locs hP hD hS ls hl
    rw [f_Mo_takeLine_8] at h
    refine lv_iload_n hx hb d_Mo_takeLine_8 rfl (lv_at hl 2 rfl) ?_
    refine lv_iload_n hx hb d_Mo_takeLine_9 rfl (lv_at hl 1 rfl) ?_
    refine lv_icmp_ge (tgt := 44) hx hb d_Mo_takeLine_10 (by decide) (fun c_1 => ?_) (fun c_1 => ?_)
    · replace h := itT h c_1
      refine lv_aload_n hx hb d_Mo_takeLine_44 rfl (lv_at hl 0 rfl) ?_
      refine lv_iload_n hx hb d_Mo_takeLine_45 rfl (lv_at hl 1 rfl) ?_
      refine lv_aload_n hx hb d_Mo_takeLine_46 rfl (lv_at hl 0 rfl) ?_
      refine va_get (D := (dC, dI)) (ci := 5) (v := .int v_bytes) (C := R_Mo) (T := F_Mo) (N := 12) hx hb hts in_Mo hown hK.1 hP 0 rfl rfl 4 (by decide) (hts _ m_421) (fun _ h9 => h9) rfl d_Mo_takeLine_47 ?_
      refine lv_icmp_ge (tgt := 59) hx hb d_Mo_takeLine_50 (by decide) (fun c_2 => ?_) (fun c_2 => ?_)
      · replace h := itT h c_2
        refine lv_aload_n hx hb d_Mo_takeLine_59 rfl (lv_at hl 0 rfl) ?_
        refine va_get (D := (dC, dI)) (ci := 5) (v := .int v_bytes) (C := R_Mo) (T := F_Mo) (N := 12) hx hb hts in_Mo hown hK.1 hP 0 rfl rfl 4 (by decide) (hts _ m_421) (fun _ h9 => h9) rfl d_Mo_takeLine_60 ?_
        refine va_put (D := (dC, dI)) (ci := 5) (v := .int v_bytes) (ty := .int) (C := R_Mo) (T := F_Mo) (N := 12) hx hb hts in_Mo t_Mo t_Mo_ok n_Mo hown hK.1 hP hD hS 0 rfl rfl 9 (by decide) (hts _ m_426) (fun _ h9 => h9) rfl (by decide +kernel) rfl rfl (Nat.le_of_ble_eq_true rfl) d_Mo_takeLine_63 (fun H locs hP hD hS => ?_)
        have hP : va_P (dC, dI) classes [(h_this, .inr (5, [.int v_thrownCode, .ref h_this_put, .int v_puts, .ref h_this_text, .int v_bytes, .int v_nameFrom, .int v_names, .ref h_this_value, .int v_values, .int v_bytes, .ref h_this_part, .int v_parts])), (h_this_put, .inl (cI, 300, .inl v_put)), (h_this_text, .inl (cI, 300, .inl v_text)), (h_this_value, .inl (cI, 300, .inl v_value)), (h_this_part, .inl (cI, 300, .inl v_part))] H := hP
        have hD : va_D A [(h_this, .inr (5, [.int v_thrownCode, .ref h_this_put, .int v_puts, .ref h_this_text, .int v_bytes, .int v_nameFrom, .int v_names, .ref h_this_value, .int v_values, .int v_bytes, .ref h_this_part, .int v_parts])), (h_this_put, .inl (cI, 300, .inl v_put)), (h_this_text, .inl (cI, 300, .inl v_text)), (h_this_value, .inl (cI, 300, .inl v_value)), (h_this_part, .inl (cI, 300, .inl v_part))] := hD
        obtain rfl := Option.some.inj h
        exact W.vret hx hb hr (fun t ht hW => ⟨⟨(), rfl, trivial, by rw [ht]; exact hP, hD⟩, hS.F ht⟩) hS.2.2 d_Mo_takeLine_66 hlk
      · replace h := itF h c_2
        refine lv_iload_n hx hb d_Mo_takeLine_53 rfl (lv_at hl 1 rfl) ?_
        refine lv_iconst (v := 2) hx hb d_Mo_takeLine_54 (by decide) ?_
        refine lv_iadd hx hb d_Mo_takeLine_55 ?_
        refine lv_goto (tgt := 63) hx hb d_Mo_takeLine_56 (by decide) ?_
        refine va_put (D := (dC, dI)) (ci := 5) (v := .int (x2 + 2)) (ty := .int) (C := R_Mo) (T := F_Mo) (N := 12) hx hb hts in_Mo t_Mo t_Mo_ok n_Mo hown hK.1 hP hD hS 0 rfl rfl 9 (by decide) (hts _ m_426) (fun _ h9 => h9) rfl (by decide +kernel) rfl rfl (Nat.le_of_ble_eq_true rfl) d_Mo_takeLine_63 (fun H locs hP hD hS => ?_)
        have hP : va_P (dC, dI) classes [(h_this, .inr (5, [.int v_thrownCode, .ref h_this_put, .int v_puts, .ref h_this_text, .int v_bytes, .int v_nameFrom, .int v_names, .ref h_this_value, .int v_values, .int (x2 + 2), .ref h_this_part, .int v_parts])), (h_this_put, .inl (cI, 300, .inl v_put)), (h_this_text, .inl (cI, 300, .inl v_text)), (h_this_value, .inl (cI, 300, .inl v_value)), (h_this_part, .inl (cI, 300, .inl v_part))] H := hP
        have hD : va_D A [(h_this, .inr (5, [.int v_thrownCode, .ref h_this_put, .int v_puts, .ref h_this_text, .int v_bytes, .int v_nameFrom, .int v_names, .ref h_this_value, .int v_values, .int (x2 + 2), .ref h_this_part, .int v_parts])), (h_this_put, .inl (cI, 300, .inl v_put)), (h_this_text, .inl (cI, 300, .inl v_text)), (h_this_value, .inl (cI, 300, .inl v_value)), (h_this_part, .inl (cI, 300, .inl v_part))] := hD
        obtain rfl := Option.some.inj h
        exact W.vret hx hb hr (fun t ht hW => ⟨⟨(), rfl, trivial, by rw [ht]; exact hP, hD⟩, hS.F ht⟩) hS.2.2 d_Mo_takeLine_66 hlk
    · replace h := itF h c_1
      refine lv_aload_n hx hb d_Mo_takeLine_13 rfl (lv_at hl 0 rfl) ?_
      refine va_get (D := (dC, dI)) (ci := 5) (v := .ref h_this_value) (C := R_Mo) (T := F_Mo) (N := 12) hx hb hts in_Mo hown hK.1 hP 0 rfl rfl 7 (by decide) (hts _ m_424) (fun _ h9 => h9) rfl d_Mo_takeLine_14 ?_
      refine lv_aload_n hx hb d_Mo_takeLine_17 rfl (lv_at hl 0 rfl) ?_
      refine va_get (D := (dC, dI)) (ci := 5) (v := .int v_values) (C := R_Mo) (T := F_Mo) (N := 12) hx hb hts in_Mo hown hK.1 hP 0 rfl rfl 8 (by decide) (hts _ m_425) (fun _ h9 => h9) rfl d_Mo_takeLine_18 ?_
      refine lv_aload_n hx hb d_Mo_takeLine_21 rfl (lv_at hl 0 rfl) ?_
      refine va_get (D := (dC, dI)) (ci := 5) (v := .ref h_this_text) (C := R_Mo) (T := F_Mo) (N := 12) hx hb hts in_Mo hown hK.1 hP 0 rfl rfl 3 (by decide) (hts _ m_420) (fun _ h9 => h9) rfl d_Mo_takeLine_22 ?_
      refine lv_iload_n hx hb d_Mo_takeLine_25 rfl (lv_at hl 2 rfl) ?_
      obtain ⟨g_3, h⟩ := grd h
      refine va_iald hx hb hK.1 hP 2 1 rfl rfl (inB_in g_3) d_Mo_takeLine_26 ?_
      obtain ⟨g_4, h⟩ := grd h
      refine va_iast hx hb hK.1 hP hD hS 3 1 rfl rfl (inB_in g_4) d_Mo_takeLine_27 (fun H locs hP hD hS => ?_)
      have hP : va_P (dC, dI) classes [(h_this, .inr (5, [.int v_thrownCode, .ref h_this_put, .int v_puts, .ref h_this_text, .int v_bytes, .int v_nameFrom, .int v_names, .ref h_this_value, .int v_values, .int v_behind, .ref h_this_part, .int v_parts])), (h_this_put, .inl (cI, 300, .inl v_put)), (h_this_text, .inl (cI, 300, .inl v_text)), (h_this_value, .inl (cI, 300, .inl (upd v_value v_values.toNatClampNeg (v_text x3.toNatClampNeg)))), (h_this_part, .inl (cI, 300, .inl v_part))] H := hP
      have hD : va_D A [(h_this, .inr (5, [.int v_thrownCode, .ref h_this_put, .int v_puts, .ref h_this_text, .int v_bytes, .int v_nameFrom, .int v_names, .ref h_this_value, .int v_values, .int v_behind, .ref h_this_part, .int v_parts])), (h_this_put, .inl (cI, 300, .inl v_put)), (h_this_text, .inl (cI, 300, .inl v_text)), (h_this_value, .inl (cI, 300, .inl (upd v_value v_values.toNatClampNeg (v_text x3.toNatClampNeg)))), (h_this_part, .inl (cI, 300, .inl v_part))] := hD
      refine lv_aload_n hx hb d_Mo_takeLine_28 rfl (lv_at hl 0 rfl) ?_
      refine lv_dup hx hb d_Mo_takeLine_29 rfl ?_
      refine va_get (D := (dC, dI)) (ci := 5) (v := .int v_values) (C := R_Mo) (T := F_Mo) (N := 12) hx hb hts in_Mo hown hK.1 hP 0 rfl rfl 8 (by decide) (hts _ m_425) (fun _ h9 => h9) rfl d_Mo_takeLine_30 ?_
      refine lv_iconst (v := 1) hx hb d_Mo_takeLine_33 (by decide) ?_
      refine lv_iadd hx hb d_Mo_takeLine_34 ?_
      refine va_put (D := (dC, dI)) (ci := 5) (v := .int (v_values + 1)) (ty := .int) (C := R_Mo) (T := F_Mo) (N := 12) hx hb hts in_Mo t_Mo t_Mo_ok n_Mo hown hK.1 hP hD hS 0 rfl rfl 8 (by decide) (hts _ m_425) (fun _ h9 => h9) rfl (by decide +kernel) rfl rfl (Nat.le_of_ble_eq_true rfl) d_Mo_takeLine_35 (fun H locs hP hD hS => ?_)
      have hP : va_P (dC, dI) classes [(h_this, .inr (5, [.int v_thrownCode, .ref h_this_put, .int v_puts, .ref h_this_text, .int v_bytes, .int v_nameFrom, .int v_names, .ref h_this_value, .int (v_values + 1), .int v_behind, .ref h_this_part, .int v_parts])), (h_this_put, .inl (cI, 300, .inl v_put)), (h_this_text, .inl (cI, 300, .inl v_text)), (h_this_value, .inl (cI, 300, .inl (upd v_value v_values.toNatClampNeg (v_text x3.toNatClampNeg)))), (h_this_part, .inl (cI, 300, .inl v_part))] H := hP
      have hD : va_D A [(h_this, .inr (5, [.int v_thrownCode, .ref h_this_put, .int v_puts, .ref h_this_text, .int v_bytes, .int v_nameFrom, .int v_names, .ref h_this_value, .int (v_values + 1), .int v_behind, .ref h_this_part, .int v_parts])), (h_this_put, .inl (cI, 300, .inl v_put)), (h_this_text, .inl (cI, 300, .inl v_text)), (h_this_value, .inl (cI, 300, .inl (upd v_value v_values.toNatClampNeg (v_text x3.toNatClampNeg)))), (h_this_part, .inl (cI, 300, .inl v_part))] := hD
      refine lv_iinc (v := x3 + 1) (lv' := [(3, .int (x3 + 1)), (0, .ref h_this), (2, .int x2)]) hx hb d_Mo_takeLine_38 hl (k := 2) rfl rfl (by decide) rfl (fun ls hl => ?_)
      refine lv_goto (tgt := 8) hx hb d_Mo_takeLine_41 (by decide) ?_
      exact ih x2 (x3 + 1) (v_values + 1) v_behind (upd v_value v_values.toNatClampNeg (v_text x3.toNatClampNeg)) h _ _ hP hD hS _ (lv_sub hl [1, 2, 0] rfl)
set_option maxHeartbeats 4000000 in
set_option maxRecDepth 100000 in
theorem c_Mo_takeLine {l : Launch} {dC : Nat → ClassId} {dI : Nat → Nat → Nat} {cB cI : ClassId} {aK aV : Nat → Nat} (N : Nat) (h_this h_this_put h_this_text h_this_value h_this_part : Nat) (v_thrownCode : Int32) (v_puts : Int32) (v_bytes : Int32) (v_nameFrom : Int32) (v_names : Int32) (v_values : Int32) (v_behind : Int32) (v_parts : Int32) (v_put : Nat → Int32) (v_text : Nat → Int32) (v_value : Nat → Int32) (v_part : Nat → Int32) (x1 : Int32) (z : Int32 × Int32 × (Nat → Int32)) (h : f_Mo_takeLine N x1 v_bytes v_values v_behind v_text v_value = some z) : Ci l y_Mo_takeLine prog_7_method_6_code 4 none ({ frames := 1, cells := 0, slots := 0, locals := 22 }) (dC, dI) cB cI aK aV [.ref h_this, .int x1] [(h_this, .inr (5, [.int v_thrownCode, .ref h_this_put, .int v_puts, .ref h_this_text, .int v_bytes, .int v_nameFrom, .int v_names, .ref h_this_value, .int v_values, .int v_behind, .ref h_this_part, .int v_parts])), (h_this_put, .inl (cI, 300, .inl v_put)), (h_this_text, .inl (cI, 300, .inl v_text)), (h_this_value, .inl (cI, 300, .inl v_value)), (h_this_part, .inl (cI, 300, .inl v_part))] (fun A => (Qv (dC, dI) [(h_this, .inr (5, [.int v_thrownCode, .ref h_this_put, .int v_puts, .ref h_this_text, .int v_bytes, .int v_nameFrom, .int v_names, .ref h_this_value, .int z.1, .int z.2.1, .ref h_this_part, .int v_parts])), (h_this_put, .inl (cI, 300, .inl v_put)), (h_this_text, .inl (cI, 300, .inl v_text)), (h_this_value, .inl (cI, 300, .inl z.2.2)), (h_this_part, .inl (cI, 300, .inl v_part))] A)) := by
  refine Ci_of (by decide) (Nat.le_of_ble_eq_true rfl) (fun p e s m below meth c A C hK hnm hA hP hD ls hl => ?_)
  obtain ⟨hx, hb, hr, hml, hown, hts, hlk⟩ := id C
  have hS : va_S A s.heap s.heap [] := va_S.rf
  have hl : lv_has ls 4 [(0, .ref h_this), (1, .int x1)] := hl
  rw [f_Mo_takeLine] at h
  refine lv_aload_n hx hb d_Mo_takeLine_0 rfl (lv_at hl 0 rfl) ?_
  refine lv_iload_n hx hb d_Mo_takeLine_1 rfl (lv_at hl 1 rfl) ?_
  obtain ⟨z5, hc_5, h⟩ := bs h
  refine go_i (wr := []) (w1 := [(h_this, .inr (5, [.int v_thrownCode, .ref h_this_put, .int v_puts, .ref h_this_text, .int v_bytes, .int v_nameFrom, .int v_names, .ref h_this_value, .int v_values, .int v_behind, .ref h_this_part, .int v_parts])), (h_this_put, .inl (cI, 300, .inl v_put)), (h_this_text, .inl (cI, 300, .inl v_text)), (h_this_value, .inl (cI, 300, .inl v_value)), (h_this_part, .inl (cI, 300, .inl v_part))]) (ws2 := [(h_this, .inr (5, [.int v_thrownCode, .ref h_this_put, .int v_puts, .ref h_this_text, .int v_bytes, .int v_nameFrom, .int v_names, .ref h_this_value, .int v_values, .int v_behind, .ref h_this_part, .int v_parts])), (h_this_put, .inl (cI, 300, .inl v_put)), (h_this_text, .inl (cI, 300, .inl v_text)), (h_this_value, .inl (cI, 300, .inl v_value)), (h_this_part, .inl (cI, 300, .inl v_part))]) hP hD hS hA [0, 1, 2, 3, 4] [] [0, 1, 2, 3, 4] rfl (by decide) rfl (by decide) (by decide) rfl (by decide) (fun hPc hDc hFc => rn_V (As := [.int x1]) (rest := []) C hK (c_Mo_lineEnd N h_this h_this_put h_this_text h_this_value h_this_part v_thrownCode v_puts v_bytes v_nameFrom v_names v_values v_behind v_parts v_put v_text v_value v_part x1 z5 hc_5 _) ⟨rfl, rfl⟩ m_474 ok_Mo_lineEnd ⟨by decide, by decide⟩ rfl rfl rfl hl.1 rfl (Nat.le_of_ble_eq_true rfl) d_Mo_takeLine_2 ⟨by decide, by decide⟩ hS hPc hDc hFc) (fun H locs hP hD hS => ?_)
  refine lv_istore_n (lv' := [(2, .int z5), (0, .ref h_this), (1, .int x1)]) hx hb d_Mo_takeLine_5 rfl hl (by decide) rfl (fun ls hl => ?_)
  refine lv_iload_n hx hb d_Mo_takeLine_6 rfl (lv_at hl 2 rfl) ?_
  refine lv_istore_n (lv' := [(3, .int x1), (2, .int z5), (0, .ref h_this), (1, .int x1)]) hx hb d_Mo_takeLine_7 rfl hl (by decide) rfl (fun ls hl => ?_)
  exact k_Mo_takeLine_8 C hK hA N h_this h_this_put h_this_text h_this_value h_this_part v_thrownCode v_puts v_nameFrom v_names v_parts v_put v_part v_bytes v_text z N z5 x1 v_values v_behind v_value h _ _ hP hD hS _ (lv_sub hl [2, 1, 0] rfl)
set_option maxHeartbeats 4000000 in
set_option maxRecDepth 100000 in
theorem k_Mo_trim_67 {p : Program} {l : Launch} {e : Env} {s : State} {m : MethodId} {args : Array Value} {below : List Frame} {meth : Method} {c : Code} {dC : Nat → ClassId} {dI : Nat → Nat → Nat} {cB cI : ClassId} {aK aV : Nat → Nat} {A : Nat → Prop} (C : cx p s m args meth c R_Mo prog_7_method_7_code 3 none) (hK : kx (dC, dI) cB cI aK aV A s) (hA : ∀ q : Nat, s.heap.size ≤ q → A q) (N : Nat) (h_this h_this_put h_this_text h_this_value h_this_part : Nat) (v_thrownCode : Int32) (v_puts : Int32) (v_bytes : Int32) (v_nameFrom : Int32) (v_names : Int32) (v_behind : Int32) (v_parts : Int32) (v_put : Nat → Int32) (v_text : Nat → Int32) (v_part : Nat → Int32) (z : Int32 × (Nat → Int32)) :
    ∀ (n : Nat), ∀ (x1 : Int32) (x2 : Int32) (v_values : Int32) (v_value : Nat → Int32), f_Mo_trim_67 N n x1 x2 v_values v_value = some z → ∀ (H : Heap) (locs : List Loc), va_P (dC, dI) classes [(h_this, .inr (5, [.int v_thrownCode, .ref h_this_put, .int v_puts, .ref h_this_text, .int v_bytes, .int v_nameFrom, .int v_names, .ref h_this_value, .int v_values, .int v_behind, .ref h_this_part, .int v_parts])), (h_this_put, .inl (cI, 300, .inl v_put)), (h_this_text, .inl (cI, 300, .inl v_text)), (h_this_value, .inl (cI, 300, .inl v_value)), (h_this_part, .inl (cI, 300, .inl v_part))] H → va_D A [(h_this, .inr (5, [.int v_thrownCode, .ref h_this_put, .int v_puts, .ref h_this_text, .int v_bytes, .int v_nameFrom, .int v_names, .ref h_this_value, .int v_values, .int v_behind, .ref h_this_part, .int v_parts])), (h_this_put, .inl (cI, 300, .inl v_put)), (h_this_text, .inl (cI, 300, .inl v_text)), (h_this_value, .inl (cI, 300, .inl v_value)), (h_this_part, .inl (cI, 300, .inl v_part))] → va_S A s.heap H locs → ∀ ls : Array Slot, lv_has ls 3 [(0, .ref h_this), (1, .int x1), (2, .int x2)] → W p l e ({ frames := 1, cells := 0, slots := 0, locals := 20 }) s m args below meth c H locs 0 0 (MQ below (Qv (dC, dI) [(h_this, .inr (5, [.int v_thrownCode, .ref h_this_put, .int v_puts, .ref h_this_text, .int v_bytes, .int v_nameFrom, .int v_names, .ref h_this_value, .int z.1, .int v_behind, .ref h_this_part, .int v_parts])), (h_this_put, .inl (cI, 300, .inl v_put)), (h_this_text, .inl (cI, 300, .inl v_text)), (h_this_value, .inl (cI, 300, .inl z.2)), (h_this_part, .inl (cI, 300, .inl v_part))] A) args s 0 0 A) (F0 m 67 ls []) := by
  obtain ⟨hx, hb, hr, hml, hown, hts, hlk⟩ := id C
  intro n
  induction n with
  | zero =>
    intro x1 x2 v_values v_value h
    rw [f_Mo_trim_67] at h
    cases h
  | succ n ih =>
    intro x1 x2 v_values v_value h H locs hP hD hS ls hl
    rw [f_Mo_trim_67] at h
    refine lv_iload_n hx hb d_Mo_trim_67 rfl (lv_at hl 2 rfl) ?_
    refine lv_aload_n hx hb d_Mo_trim_68 rfl (lv_at hl 0 rfl) ?_
    refine va_get (D := (dC, dI)) (ci := 5) (v := .int v_values) (C := R_Mo) (T := F_Mo) (N := 12) hx hb hts in_Mo hown hK.1 hP 0 rfl rfl 8 (by decide) (hts _ m_425) (fun _ h9 => h9) rfl d_Mo_trim_69 ?_
    refine lv_icmp_ge (tgt := 95) hx hb d_Mo_trim_72 (by decide) (fun c_5 => ?_) (fun c_5 => ?_)
    · replace h := itT h c_5
      refine lv_aload_n hx hb d_Mo_trim_95 rfl (lv_at hl 0 rfl) ?_
      refine lv_dup hx hb d_Mo_trim_96 rfl ?_
      refine va_get (D := (dC, dI)) (ci := 5) (v := .int v_values) (C := R_Mo) (T := F_Mo) (N := 12) hx hb hts in_Mo hown hK.1 hP 0 rfl rfl 8 (by decide) (hts _ m_425) (fun _ h9 => h9) rfl d_Mo_trim_97 ?_
      refine lv_iload_n hx hb d_Mo_trim_100 rfl (lv_at hl 1 rfl) ?_
      refine lv_isub hx hb d_Mo_trim_101 ?_
      refine va_put (D := (dC, dI)) (ci := 5) (v := .int (v_values - x1)) (ty := .int) (C := R_Mo) (T := F_Mo) (N := 12) hx hb hts in_Mo t_Mo t_Mo_ok n_Mo hown hK.1 hP hD hS 0 rfl rfl 8 (by decide) (hts _ m_425) (fun _ h9 => h9) rfl (by decide +kernel) rfl rfl (Nat.le_of_ble_eq_true rfl) d_Mo_trim_102 (fun H locs hP hD hS => ?_)
      have hP : va_P (dC, dI) classes [(h_this, .inr (5, [.int v_thrownCode, .ref h_this_put, .int v_puts, .ref h_this_text, .int v_bytes, .int v_nameFrom, .int v_names, .ref h_this_value, .int (v_values - x1), .int v_behind, .ref h_this_part, .int v_parts])), (h_this_put, .inl (cI, 300, .inl v_put)), (h_this_text, .inl (cI, 300, .inl v_text)), (h_this_value, .inl (cI, 300, .inl v_value)), (h_this_part, .inl (cI, 300, .inl v_part))] H := hP
      have hD : va_D A [(h_this, .inr (5, [.int v_thrownCode, .ref h_this_put, .int v_puts, .ref h_this_text, .int v_bytes, .int v_nameFrom, .int v_names, .ref h_this_value, .int (v_values - x1), .int v_behind, .ref h_this_part, .int v_parts])), (h_this_put, .inl (cI, 300, .inl v_put)), (h_this_text, .inl (cI, 300, .inl v_text)), (h_this_value, .inl (cI, 300, .inl v_value)), (h_this_part, .inl (cI, 300, .inl v_part))] := hD
      obtain rfl := Option.some.inj h
      exact W.vret hx hb hr (fun t ht hW => ⟨⟨(), rfl, trivial, by rw [ht]; exact hP, hD⟩, hS.F ht⟩) hS.2.2 d_Mo_trim_105 hlk
    · replace h := itF h c_5
      refine lv_aload_n hx hb d_Mo_trim_75 rfl (lv_at hl 0 rfl) ?_
      refine va_get (D := (dC, dI)) (ci := 5) (v := .ref h_this_value) (C := R_Mo) (T := F_Mo) (N := 12) hx hb hts in_Mo hown hK.1 hP 0 rfl rfl 7 (by decide) (hts _ m_424) (fun _ h9 => h9) rfl d_Mo_trim_76 ?_
      refine lv_iload_n hx hb d_Mo_trim_79 rfl (lv_at hl 2 rfl) ?_
      refine lv_iload_n hx hb d_Mo_trim_80 rfl (lv_at hl 1 rfl) ?_
      refine lv_isub hx hb d_Mo_trim_81 ?_
      refine lv_aload_n hx hb d_Mo_trim_82 rfl (lv_at hl 0 rfl) ?_
      refine va_get (D := (dC, dI)) (ci := 5) (v := .ref h_this_value) (C := R_Mo) (T := F_Mo) (N := 12) hx hb hts in_Mo hown hK.1 hP 0 rfl rfl 7 (by decide) (hts _ m_424) (fun _ h9 => h9) rfl d_Mo_trim_83 ?_
      refine lv_iload_n hx hb d_Mo_trim_86 rfl (lv_at hl 2 rfl) ?_
      obtain ⟨g_6, h⟩ := grd h
      refine va_iald hx hb hK.1 hP 3 1 rfl rfl (inB_in g_6) d_Mo_trim_87 ?_
      obtain ⟨g_7, h⟩ := grd h
      refine va_iast hx hb hK.1 hP hD hS 3 1 rfl rfl (inB_in g_7) d_Mo_trim_88 (fun H locs hP hD hS => ?_)
      have hP : va_P (dC, dI) classes [(h_this, .inr (5, [.int v_thrownCode, .ref h_this_put, .int v_puts, .ref h_this_text, .int v_bytes, .int v_nameFrom, .int v_names, .ref h_this_value, .int v_values, .int v_behind, .ref h_this_part, .int v_parts])), (h_this_put, .inl (cI, 300, .inl v_put)), (h_this_text, .inl (cI, 300, .inl v_text)), (h_this_value, .inl (cI, 300, .inl (upd v_value (x2 - x1).toNatClampNeg (v_value x2.toNatClampNeg)))), (h_this_part, .inl (cI, 300, .inl v_part))] H := hP
      have hD : va_D A [(h_this, .inr (5, [.int v_thrownCode, .ref h_this_put, .int v_puts, .ref h_this_text, .int v_bytes, .int v_nameFrom, .int v_names, .ref h_this_value, .int v_values, .int v_behind, .ref h_this_part, .int v_parts])), (h_this_put, .inl (cI, 300, .inl v_put)), (h_this_text, .inl (cI, 300, .inl v_text)), (h_this_value, .inl (cI, 300, .inl (upd v_value (x2 - x1).toNatClampNeg (v_value x2.toNatClampNeg)))), (h_this_part, .inl (cI, 300, .inl v_part))] := hD
      refine lv_iinc (v := x2 + 1) (lv' := [(2, .int (x2 + 1)), (0, .ref h_this), (1, .int x1)]) hx hb d_Mo_trim_89 hl (k := 2) rfl rfl (by decide) rfl (fun ls hl => ?_)
      refine lv_goto (tgt := 67) hx hb d_Mo_trim_92 (by decide) ?_
      exact ih x1 (x2 + 1) v_values (upd v_value (x2 - x1).toNatClampNeg (v_value x2.toNatClampNeg)) h _ _ hP hD hS _ (lv_sub hl [1, 2, 0] rfl)
set_option maxHeartbeats 4000000 in
set_option maxRecDepth 100000 in
theorem k_Mo_trim_39 {p : Program} {l : Launch} {e : Env} {s : State} {m : MethodId} {args : Array Value} {below : List Frame} {meth : Method} {c : Code} {dC : Nat → ClassId} {dI : Nat → Nat → Nat} {cB cI : ClassId} {aK aV : Nat → Nat} {A : Nat → Prop} (C : cx p s m args meth c R_Mo prog_7_method_7_code 3 none) (hK : kx (dC, dI) cB cI aK aV A s) (hA : ∀ q : Nat, s.heap.size ≤ q → A q) (N : Nat) (h_this h_this_put h_this_text h_this_value h_this_part : Nat) (v_thrownCode : Int32) (v_puts : Int32) (v_bytes : Int32) (v_nameFrom : Int32) (v_names : Int32) (v_behind : Int32) (v_parts : Int32) (v_put : Nat → Int32) (v_text : Nat → Int32) (v_part : Nat → Int32) (z : Int32 × (Nat → Int32)) :
    ∀ (n : Nat), ∀ (x1 : Int32) (v_values : Int32) (v_value : Nat → Int32), f_Mo_trim_39 N n x1 v_values v_value = some z → ∀ (H : Heap) (locs : List Loc), va_P (dC, dI) classes [(h_this, .inr (5, [.int v_thrownCode, .ref h_this_put, .int v_puts, .ref h_this_text, .int v_bytes, .int v_nameFrom, .int v_names, .ref h_this_value, .int v_values, .int v_behind, .ref h_this_part, .int v_parts])), (h_this_put, .inl (cI, 300, .inl v_put)), (h_this_text, .inl (cI, 300, .inl v_text)), (h_this_value, .inl (cI, 300, .inl v_value)), (h_this_part, .inl (cI, 300, .inl v_part))] H → va_D A [(h_this, .inr (5, [.int v_thrownCode, .ref h_this_put, .int v_puts, .ref h_this_text, .int v_bytes, .int v_nameFrom, .int v_names, .ref h_this_value, .int v_values, .int v_behind, .ref h_this_part, .int v_parts])), (h_this_put, .inl (cI, 300, .inl v_put)), (h_this_text, .inl (cI, 300, .inl v_text)), (h_this_value, .inl (cI, 300, .inl v_value)), (h_this_part, .inl (cI, 300, .inl v_part))] → va_S A s.heap H locs → ∀ ls : Array Slot, lv_has ls 3 [(0, .ref h_this), (1, .int x1)] → W p l e ({ frames := 1, cells := 0, slots := 0, locals := 20 }) s m args below meth c H locs 0 0 (MQ below (Qv (dC, dI) [(h_this, .inr (5, [.int v_thrownCode, .ref h_this_put, .int v_puts, .ref h_this_text, .int v_bytes, .int v_nameFrom, .int v_names, .ref h_this_value, .int z.1, .int v_behind, .ref h_this_part, .int v_parts])), (h_this_put, .inl (cI, 300, .inl v_put)), (h_this_text, .inl (cI, 300, .inl v_text)), (h_this_value, .inl (cI, 300, .inl z.2)), (h_this_part, .inl (cI, 300, .inl v_part))] A) args s 0 0 A) (F0 m 39 ls []) := by
  obtain ⟨hx, hb, hr, hml, hown, hts, hlk⟩ := id C
  intro n
  induction n with
  | zero =>
    intro x1 v_values v_value h
    rw [f_Mo_trim_39] at h
    cases h
  | succ n ih =>
    intro x1 v_values v_value h H locs hP hD hS ls hl
    rw [f_Mo_trim_39] at h
    refine lv_iload_n hx hb d_Mo_trim_39 rfl (lv_at hl 1 rfl) ?_
    refine lv_aload_n hx hb d_Mo_trim_40 rfl (lv_at hl 0 rfl) ?_
    refine va_get (D := (dC, dI)) (ci := 5) (v := .int v_values) (C := R_Mo) (T := F_Mo) (N := 12) hx hb hts in_Mo hown hK.1 hP 0 rfl rfl 8 (by decide) (hts _ m_425) (fun _ h9 => h9) rfl d_Mo_trim_41 ?_
    refine lv_icmp_ge (tgt := 65) hx hb d_Mo_trim_44 (by decide) (fun c_8 => ?_) (fun c_8 => ?_)
    · replace h := itT h c_8
      refine lv_iload_n hx hb d_Mo_trim_65 rfl (lv_at hl 1 rfl) ?_
      refine lv_istore_n (lv' := [(2, .int x1), (0, .ref h_this), (1, .int x1)]) hx hb d_Mo_trim_66 rfl hl (by decide) rfl (fun ls hl => ?_)
      exact k_Mo_trim_67 C hK hA N h_this h_this_put h_this_text h_this_value h_this_part v_thrownCode v_puts v_bytes v_nameFrom v_names v_behind v_parts v_put v_text v_part z N x1 x1 v_values v_value h _ _ hP hD hS _ (lv_sub hl [1, 2, 0] rfl)
    · replace h := itF h c_8
      refine lv_aload_n hx hb d_Mo_trim_47 rfl (lv_at hl 0 rfl) ?_
      refine va_get (D := (dC, dI)) (ci := 5) (v := .ref h_this_value) (C := R_Mo) (T := F_Mo) (N := 12) hx hb hts in_Mo hown hK.1 hP 0 rfl rfl 7 (by decide) (hts _ m_424) (fun _ h9 => h9) rfl d_Mo_trim_48 ?_
      refine lv_iload_n hx hb d_Mo_trim_51 rfl (lv_at hl 1 rfl) ?_
      obtain ⟨g_9, h⟩ := grd h
      refine va_iald hx hb hK.1 hP 3 1 rfl rfl (inB_in g_9) d_Mo_trim_52 ?_
      obtain ⟨z10, hc_10, h⟩ := bs h
      refine go_i (wr := [(h_this, .inr (5, [.int v_thrownCode, .ref h_this_put, .int v_puts, .ref h_this_text, .int v_bytes, .int v_nameFrom, .int v_names, .ref h_this_value, .int v_values, .int v_behind, .ref h_this_part, .int v_parts])), (h_this_put, .inl (cI, 300, .inl v_put)), (h_this_text, .inl (cI, 300, .inl v_text)), (h_this_value, .inl (cI, 300, .inl v_value)), (h_this_part, .inl (cI, 300, .inl v_part))]) (w1 := []) (ws2 := [(h_this, .inr (5, [.int v_thrownCode, .ref h_this_put, .int v_puts, .ref h_this_text, .int v_bytes, .int v_nameFrom, .int v_names, .ref h_this_value, .int v_values, .int v_behind, .ref h_this_part, .int v_parts])), (h_this_put, .inl (cI, 300, .inl v_put)), (h_this_text, .inl (cI, 300, .inl v_text)), (h_this_value, .inl (cI, 300, .inl v_value)), (h_this_part, .inl (cI, 300, .inl v_part))]) hP hD hS hA [] [0, 1, 2, 3, 4] [0, 1, 2, 3, 4] rfl (by decide) rfl (by decide) (by decide) rfl (by decide) (fun hPc hDc hFc => rn_S (As := [.int (v_value x1.toNatClampNeg)]) (rest := []) C hK (c_Mo_blank N (v_value x1.toNatClampNeg) z10 hc_10 _) ⟨rfl, rfl⟩ m_478 ok_Mo_blank ⟨by decide, by decide⟩ hl.1 rfl (Nat.le_of_ble_eq_true rfl) d_Mo_trim_53 ⟨by decide, by decide⟩ hS hPc hDc hFc) (fun H locs hP hD hS => ?_)
      refine lv_if_eq (tgt := 65) hx hb d_Mo_trim_56 (by decide) (fun c_11 => ?_) (fun c_11 => ?_)
      · replace h := itT h c_11
        refine lv_iload_n hx hb d_Mo_trim_65 rfl (lv_at hl 1 rfl) ?_
        refine lv_istore_n (lv' := [(2, .int x1), (0, .ref h_this), (1, .int x1)]) hx hb d_Mo_trim_66 rfl hl (by decide) rfl (fun ls hl => ?_)
        exact k_Mo_trim_67 C hK hA N h_this h_this_put h_this_text h_this_value h_this_part v_thrownCode v_puts v_bytes v_nameFrom v_names v_behind v_parts v_put v_text v_part z N x1 x1 v_values v_value h _ _ hP hD hS _ (lv_sub hl [1, 2, 0] rfl)
      · replace h := itF h c_11
        refine lv_iinc (v := x1 + 1) (lv' := [(1, .int (x1 + 1)), (0, .ref h_this)]) hx hb d_Mo_trim_59 hl (k := 1) rfl rfl (by decide) rfl (fun ls hl => ?_)
        refine lv_goto (tgt := 39) hx hb d_Mo_trim_62 (by decide) ?_
        exact ih (x1 + 1) v_values v_value h _ _ hP hD hS _ (lv_sub hl [1, 0] rfl)
set_option maxHeartbeats 4000000 in
set_option maxRecDepth 100000 in
theorem k_Mo_trim_0 {p : Program} {l : Launch} {e : Env} {s : State} {m : MethodId} {args : Array Value} {below : List Frame} {meth : Method} {c : Code} {dC : Nat → ClassId} {dI : Nat → Nat → Nat} {cB cI : ClassId} {aK aV : Nat → Nat} {A : Nat → Prop} (C : cx p s m args meth c R_Mo prog_7_method_7_code 3 none) (hK : kx (dC, dI) cB cI aK aV A s) (hA : ∀ q : Nat, s.heap.size ≤ q → A q) (N : Nat) (h_this h_this_put h_this_text h_this_value h_this_part : Nat) (v_thrownCode : Int32) (v_puts : Int32) (v_bytes : Int32) (v_nameFrom : Int32) (v_names : Int32) (v_behind : Int32) (v_parts : Int32) (v_put : Nat → Int32) (v_text : Nat → Int32) (v_part : Nat → Int32) (z : Int32 × (Nat → Int32)) :
    ∀ (n : Nat), ∀ (v_values : Int32) (v_value : Nat → Int32), f_Mo_trim_0 N n v_values v_value = some z → ∀ (H : Heap) (locs : List Loc), va_P (dC, dI) classes [(h_this, .inr (5, [.int v_thrownCode, .ref h_this_put, .int v_puts, .ref h_this_text, .int v_bytes, .int v_nameFrom, .int v_names, .ref h_this_value, .int v_values, .int v_behind, .ref h_this_part, .int v_parts])), (h_this_put, .inl (cI, 300, .inl v_put)), (h_this_text, .inl (cI, 300, .inl v_text)), (h_this_value, .inl (cI, 300, .inl v_value)), (h_this_part, .inl (cI, 300, .inl v_part))] H → va_D A [(h_this, .inr (5, [.int v_thrownCode, .ref h_this_put, .int v_puts, .ref h_this_text, .int v_bytes, .int v_nameFrom, .int v_names, .ref h_this_value, .int v_values, .int v_behind, .ref h_this_part, .int v_parts])), (h_this_put, .inl (cI, 300, .inl v_put)), (h_this_text, .inl (cI, 300, .inl v_text)), (h_this_value, .inl (cI, 300, .inl v_value)), (h_this_part, .inl (cI, 300, .inl v_part))] → va_S A s.heap H locs → ∀ ls : Array Slot, lv_has ls 3 [(0, .ref h_this)] → W p l e ({ frames := 1, cells := 0, slots := 0, locals := 20 }) s m args below meth c H locs 0 0 (MQ below (Qv (dC, dI) [(h_this, .inr (5, [.int v_thrownCode, .ref h_this_put, .int v_puts, .ref h_this_text, .int v_bytes, .int v_nameFrom, .int v_names, .ref h_this_value, .int z.1, .int v_behind, .ref h_this_part, .int v_parts])), (h_this_put, .inl (cI, 300, .inl v_put)), (h_this_text, .inl (cI, 300, .inl v_text)), (h_this_value, .inl (cI, 300, .inl z.2)), (h_this_part, .inl (cI, 300, .inl v_part))] A) args s 0 0 A) (F0 m 0 ls []) := by
  obtain ⟨hx, hb, hr, hml, hown, hts, hlk⟩ := id C
  intro n
  induction n with
  | zero =>
    intro v_values v_value h
    rw [f_Mo_trim_0] at h
    cases h
  | succ n ih =>
    intro v_values v_value h H locs hP hD hS ls hl
    rw [f_Mo_trim_0] at h
    refine lv_aload_n hx hb d_Mo_trim_0 rfl (lv_at hl 0 rfl) ?_
    refine va_get (D := (dC, dI)) (ci := 5) (v := .int v_values) (C := R_Mo) (T := F_Mo) (N := 12) hx hb hts in_Mo hown hK.1 hP 0 rfl rfl 8 (by decide) (hts _ m_425) (fun _ h9 => h9) rfl d_Mo_trim_1 ?_
    refine lv_if_le (tgt := 37) hx hb d_Mo_trim_4 (by decide) (fun c_1 => ?_) (fun c_1 => ?_)
    · replace h := itT h c_1
      refine lv_iconst (v := 0) hx hb d_Mo_trim_37 (by decide) ?_
      refine lv_istore_n (lv' := [(1, .int 0), (0, .ref h_this)]) hx hb d_Mo_trim_38 rfl hl (by decide) rfl (fun ls hl => ?_)
      exact k_Mo_trim_39 C hK hA N h_this h_this_put h_this_text h_this_value h_this_part v_thrownCode v_puts v_bytes v_nameFrom v_names v_behind v_parts v_put v_text v_part z N 0 v_values v_value h _ _ hP hD hS _ (lv_sub hl [1, 0] rfl)
    · replace h := itF h c_1
      refine lv_aload_n hx hb d_Mo_trim_7 rfl (lv_at hl 0 rfl) ?_
      refine va_get (D := (dC, dI)) (ci := 5) (v := .ref h_this_value) (C := R_Mo) (T := F_Mo) (N := 12) hx hb hts in_Mo hown hK.1 hP 0 rfl rfl 7 (by decide) (hts _ m_424) (fun _ h9 => h9) rfl d_Mo_trim_8 ?_
      refine lv_aload_n hx hb d_Mo_trim_11 rfl (lv_at hl 0 rfl) ?_
      refine va_get (D := (dC, dI)) (ci := 5) (v := .int v_values) (C := R_Mo) (T := F_Mo) (N := 12) hx hb hts in_Mo hown hK.1 hP 0 rfl rfl 8 (by decide) (hts _ m_425) (fun _ h9 => h9) rfl d_Mo_trim_12 ?_
      refine lv_iconst (v := 1) hx hb d_Mo_trim_15 (by decide) ?_
      refine lv_isub hx hb d_Mo_trim_16 ?_
      obtain ⟨g_2, h⟩ := grd h
      refine va_iald hx hb hK.1 hP 3 1 rfl rfl (inB_in g_2) d_Mo_trim_17 ?_
      obtain ⟨z3, hc_3, h⟩ := bs h
      refine go_i (wr := [(h_this, .inr (5, [.int v_thrownCode, .ref h_this_put, .int v_puts, .ref h_this_text, .int v_bytes, .int v_nameFrom, .int v_names, .ref h_this_value, .int v_values, .int v_behind, .ref h_this_part, .int v_parts])), (h_this_put, .inl (cI, 300, .inl v_put)), (h_this_text, .inl (cI, 300, .inl v_text)), (h_this_value, .inl (cI, 300, .inl v_value)), (h_this_part, .inl (cI, 300, .inl v_part))]) (w1 := []) (ws2 := [(h_this, .inr (5, [.int v_thrownCode, .ref h_this_put, .int v_puts, .ref h_this_text, .int v_bytes, .int v_nameFrom, .int v_names, .ref h_this_value, .int v_values, .int v_behind, .ref h_this_part, .int v_parts])), (h_this_put, .inl (cI, 300, .inl v_put)), (h_this_text, .inl (cI, 300, .inl v_text)), (h_this_value, .inl (cI, 300, .inl v_value)), (h_this_part, .inl (cI, 300, .inl v_part))]) hP hD hS hA [] [0, 1, 2, 3, 4] [0, 1, 2, 3, 4] rfl (by decide) rfl (by decide) (by decide) rfl (by decide) (fun hPc hDc hFc => rn_S (As := [.int (v_value (v_values - 1).toNatClampNeg)]) (rest := []) C hK (c_Mo_blank N (v_value (v_values - 1).toNatClampNeg) z3 hc_3 _) ⟨rfl, rfl⟩ m_478 ok_Mo_blank ⟨by decide, by decide⟩ hl.1 rfl (Nat.le_of_ble_eq_true rfl) d_Mo_trim_18 ⟨by decide, by decide⟩ hS hPc hDc hFc) (fun H locs hP hD hS => ?_)
      refine lv_if_eq (tgt := 37) hx hb d_Mo_trim_21 (by decide) (fun c_4 => ?_) (fun c_4 => ?_)
      · replace h := itT h c_4
        refine lv_iconst (v := 0) hx hb d_Mo_trim_37 (by decide) ?_
        refine lv_istore_n (lv' := [(1, .int 0), (0, .ref h_this)]) hx hb d_Mo_trim_38 rfl hl (by decide) rfl (fun ls hl => ?_)
        exact k_Mo_trim_39 C hK hA N h_this h_this_put h_this_text h_this_value h_this_part v_thrownCode v_puts v_bytes v_nameFrom v_names v_behind v_parts v_put v_text v_part z N 0 v_values v_value h _ _ hP hD hS _ (lv_sub hl [1, 0] rfl)
      · replace h := itF h c_4
        refine lv_aload_n hx hb d_Mo_trim_24 rfl (lv_at hl 0 rfl) ?_
        refine lv_dup hx hb d_Mo_trim_25 rfl ?_
        refine va_get (D := (dC, dI)) (ci := 5) (v := .int v_values) (C := R_Mo) (T := F_Mo) (N := 12) hx hb hts in_Mo hown hK.1 hP 0 rfl rfl 8 (by decide) (hts _ m_425) (fun _ h9 => h9) rfl d_Mo_trim_26 ?_
        refine lv_iconst (v := 1) hx hb d_Mo_trim_29 (by decide) ?_
        refine lv_isub hx hb d_Mo_trim_30 ?_
        refine va_put (D := (dC, dI)) (ci := 5) (v := .int (v_values - 1)) (ty := .int) (C := R_Mo) (T := F_Mo) (N := 12) hx hb hts in_Mo t_Mo t_Mo_ok n_Mo hown hK.1 hP hD hS 0 rfl rfl 8 (by decide) (hts _ m_425) (fun _ h9 => h9) rfl (by decide +kernel) rfl rfl (Nat.le_of_ble_eq_true rfl) d_Mo_trim_31 (fun H locs hP hD hS => ?_)
        have hP : va_P (dC, dI) classes [(h_this, .inr (5, [.int v_thrownCode, .ref h_this_put, .int v_puts, .ref h_this_text, .int v_bytes, .int v_nameFrom, .int v_names, .ref h_this_value, .int (v_values - 1), .int v_behind, .ref h_this_part, .int v_parts])), (h_this_put, .inl (cI, 300, .inl v_put)), (h_this_text, .inl (cI, 300, .inl v_text)), (h_this_value, .inl (cI, 300, .inl v_value)), (h_this_part, .inl (cI, 300, .inl v_part))] H := hP
        have hD : va_D A [(h_this, .inr (5, [.int v_thrownCode, .ref h_this_put, .int v_puts, .ref h_this_text, .int v_bytes, .int v_nameFrom, .int v_names, .ref h_this_value, .int (v_values - 1), .int v_behind, .ref h_this_part, .int v_parts])), (h_this_put, .inl (cI, 300, .inl v_put)), (h_this_text, .inl (cI, 300, .inl v_text)), (h_this_value, .inl (cI, 300, .inl v_value)), (h_this_part, .inl (cI, 300, .inl v_part))] := hD
        refine lv_goto (tgt := 0) hx hb d_Mo_trim_34 (by decide) ?_
        exact ih (v_values - 1) v_value h _ _ hP hD hS _ (lv_sub hl [0] rfl)
set_option maxHeartbeats 4000000 in
set_option maxRecDepth 100000 in
theorem c_Mo_trim {l : Launch} {dC : Nat → ClassId} {dI : Nat → Nat → Nat} {cB cI : ClassId} {aK aV : Nat → Nat} (N : Nat) (h_this h_this_put h_this_text h_this_value h_this_part : Nat) (v_thrownCode : Int32) (v_puts : Int32) (v_bytes : Int32) (v_nameFrom : Int32) (v_names : Int32) (v_values : Int32) (v_behind : Int32) (v_parts : Int32) (v_put : Nat → Int32) (v_text : Nat → Int32) (v_value : Nat → Int32) (v_part : Nat → Int32) (z : Int32 × (Nat → Int32)) (h : f_Mo_trim N v_values v_value = some z) : Ci l y_Mo_trim prog_7_method_7_code 3 none ({ frames := 1, cells := 0, slots := 0, locals := 20 }) (dC, dI) cB cI aK aV [.ref h_this] [(h_this, .inr (5, [.int v_thrownCode, .ref h_this_put, .int v_puts, .ref h_this_text, .int v_bytes, .int v_nameFrom, .int v_names, .ref h_this_value, .int v_values, .int v_behind, .ref h_this_part, .int v_parts])), (h_this_put, .inl (cI, 300, .inl v_put)), (h_this_text, .inl (cI, 300, .inl v_text)), (h_this_value, .inl (cI, 300, .inl v_value)), (h_this_part, .inl (cI, 300, .inl v_part))] (fun A => (Qv (dC, dI) [(h_this, .inr (5, [.int v_thrownCode, .ref h_this_put, .int v_puts, .ref h_this_text, .int v_bytes, .int v_nameFrom, .int v_names, .ref h_this_value, .int z.1, .int v_behind, .ref h_this_part, .int v_parts])), (h_this_put, .inl (cI, 300, .inl v_put)), (h_this_text, .inl (cI, 300, .inl v_text)), (h_this_value, .inl (cI, 300, .inl z.2)), (h_this_part, .inl (cI, 300, .inl v_part))] A)) := by
  refine Ci_of (by decide) (Nat.le_of_ble_eq_true rfl) (fun p e s m below meth c A C hK hnm hA hP hD ls hl => ?_)
  obtain ⟨hx, hb, hr, hml, hown, hts, hlk⟩ := id C
  have hS : va_S A s.heap s.heap [] := va_S.rf
  have hl : lv_has ls 3 [(0, .ref h_this)] := hl
  rw [f_Mo_trim] at h
  exact k_Mo_trim_0 C hK hA N h_this h_this_put h_this_text h_this_value h_this_part v_thrownCode v_puts v_bytes v_nameFrom v_names v_behind v_parts v_put v_text v_part z N v_values v_value h _ _ hP hD hS _ (lv_sub hl [0] rfl)
set_option maxHeartbeats 4000000 in
set_option maxRecDepth 100000 in
theorem k_Mo_look_119 {p : Program} {l : Launch} {e : Env} {s : State} {m : MethodId} {args : Array Value} {below : List Frame} {meth : Method} {c : Code} {dC : Nat → ClassId} {dI : Nat → Nat → Nat} {cB cI : ClassId} {aK aV : Nat → Nat} {A : Nat → Prop} (C : cx p s m args meth c R_Mo prog_7_method_5_code 4 (some .boolean)) (hK : kx (dC, dI) cB cI aK aV A s) (hA : ∀ q : Nat, s.heap.size ≤ q → A q) (N : Nat) (h_this h_this_put h_this_text h_this_value h_this_part : Nat) (v_thrownCode : Int32) (v_puts : Int32) (v_parts : Int32) (v_put : Nat → Int32) (v_part : Nat → Int32) (x1 : Int32) (v_bytes : Int32) (v_text : Nat → Int32) (z : Int32 × Int32 × Int32 × Int32 × Int32 × (Nat → Int32)) (r7 : Int32 → Int32 → Int32 → Int32 → Int32 → (Nat → Int32) → Option (Int32 × Int32 × Int32 × Int32 × Int32 × (Nat → Int32))) (hr7 : ∀ (x2 : Int32) (v_nameFrom : Int32) (v_names : Int32) (v_values : Int32) (v_behind : Int32) (v_value : Nat → Int32), r7 x2 v_nameFrom v_names v_values v_behind v_value = some z → ∀ (H : Heap) (locs : List Loc), va_P (dC, dI) classes [(h_this, .inr (5, [.int v_thrownCode, .ref h_this_put, .int v_puts, .ref h_this_text, .int v_bytes, .int v_nameFrom, .int v_names, .ref h_this_value, .int v_values, .int v_behind, .ref h_this_part, .int v_parts])), (h_this_put, .inl (cI, 300, .inl v_put)), (h_this_text, .inl (cI, 300, .inl v_text)), (h_this_value, .inl (cI, 300, .inl v_value)), (h_this_part, .inl (cI, 300, .inl v_part))] H → va_D A [(h_this, .inr (5, [.int v_thrownCode, .ref h_this_put, .int v_puts, .ref h_this_text, .int v_bytes, .int v_nameFrom, .int v_names, .ref h_this_value, .int v_values, .int v_behind, .ref h_this_part, .int v_parts])), (h_this_put, .inl (cI, 300, .inl v_put)), (h_this_text, .inl (cI, 300, .inl v_text)), (h_this_value, .inl (cI, 300, .inl v_value)), (h_this_part, .inl (cI, 300, .inl v_part))] → va_S A s.heap H locs → ∀ ls : Array Slot, lv_has ls 4 [(0, .ref h_this), (1, .int x1), (2, .int x2)] → W p l e ({ frames := 2, cells := 0, slots := 0, locals := 46 }) s m args below meth c H locs 0 0 (MQ below (Qi (dC, dI) [(h_this, .inr (5, [.int v_thrownCode, .ref h_this_put, .int v_puts, .ref h_this_text, .int v_bytes, .int z.2.1, .int z.2.2.1, .ref h_this_value, .int z.2.2.2.1, .int z.2.2.2.2.1, .ref h_this_part, .int v_parts])), (h_this_put, .inl (cI, 300, .inl v_put)), (h_this_text, .inl (cI, 300, .inl v_text)), (h_this_value, .inl (cI, 300, .inl z.2.2.2.2.2)), (h_this_part, .inl (cI, 300, .inl v_part))] A z.1) args s 0 0 A) (F0 m 7 ls [])) :
    ∀ (n : Nat), ∀ (x2 : Int32) (v_nameFrom : Int32) (v_names : Int32) (v_values : Int32) (v_behind : Int32) (v_value : Nat → Int32), f_Mo_look_119 N r7 x1 v_bytes v_text n x2 v_nameFrom v_names v_values v_behind v_value = some z → ∀ (H : Heap) (locs : List Loc), va_P (dC, dI) classes [(h_this, .inr (5, [.int v_thrownCode, .ref h_this_put, .int v_puts, .ref h_this_text, .int v_bytes, .int v_nameFrom, .int v_names, .ref h_this_value, .int v_values, .int v_behind, .ref h_this_part, .int v_parts])), (h_this_put, .inl (cI, 300, .inl v_put)), (h_this_text, .inl (cI, 300, .inl v_text)), (h_this_value, .inl (cI, 300, .inl v_value)), (h_this_part, .inl (cI, 300, .inl v_part))] H → va_D A [(h_this, .inr (5, [.int v_thrownCode, .ref h_this_put, .int v_puts, .ref h_this_text, .int v_bytes, .int v_nameFrom, .int v_names, .ref h_this_value, .int v_values, .int v_behind, .ref h_this_part, .int v_parts])), (h_this_put, .inl (cI, 300, .inl v_put)), (h_this_text, .inl (cI, 300, .inl v_text)), (h_this_value, .inl (cI, 300, .inl v_value)), (h_this_part, .inl (cI, 300, .inl v_part))] → va_S A s.heap H locs → ∀ ls : Array Slot, lv_has ls 4 [(0, .ref h_this), (1, .int x1), (2, .int x2)] → W p l e ({ frames := 2, cells := 0, slots := 0, locals := 46 }) s m args below meth c H locs 0 0 (MQ below (Qi (dC, dI) [(h_this, .inr (5, [.int v_thrownCode, .ref h_this_put, .int v_puts, .ref h_this_text, .int v_bytes, .int z.2.1, .int z.2.2.1, .ref h_this_value, .int z.2.2.2.1, .int z.2.2.2.2.1, .ref h_this_part, .int v_parts])), (h_this_put, .inl (cI, 300, .inl v_put)), (h_this_text, .inl (cI, 300, .inl v_text)), (h_this_value, .inl (cI, 300, .inl z.2.2.2.2.2)), (h_this_part, .inl (cI, 300, .inl v_part))] A z.1) args s 0 0 A) (F0 m 119 ls []) := by
  obtain ⟨hx, hb, hr, hml, hown, hts, hlk⟩ := id C
  intro n
  induction n with
  | zero =>
    intro x2 v_nameFrom v_names v_values v_behind v_value h
    rw [f_Mo_look_119] at h
    cases h
  | succ n ih =>
    intro x2 v_nameFrom v_names v_values v_behind v_value h H locs hP hD hS ls hl
    rw [f_Mo_look_119] at h
    refine lv_aload_n hx hb d_Mo_look_119 rfl (lv_at hl 0 rfl) ?_
    refine va_get (D := (dC, dI)) (ci := 5) (v := .int v_behind) (C := R_Mo) (T := F_Mo) (N := 12) hx hb hts in_Mo hown hK.1 hP 0 rfl rfl 9 (by decide) (hts _ m_426) (fun _ h9 => h9) rfl d_Mo_look_120 ?_
    refine lv_aload_n hx hb d_Mo_look_123 rfl (lv_at hl 0 rfl) ?_
    refine va_get (D := (dC, dI)) (ci := 5) (v := .int v_bytes) (C := R_Mo) (T := F_Mo) (N := 12) hx hb hts in_Mo hown hK.1 hP 0 rfl rfl 4 (by decide) (hts _ m_421) (fun _ h9 => h9) rfl d_Mo_look_124 ?_
    refine lv_icmp_ge (tgt := 156) hx hb d_Mo_look_127 (by decide) (fun c_1 => ?_) (fun c_1 => ?_)
    · replace h := itT h c_1
      refine lv_iinc (v := x2 + 1) (lv' := [(2, .int (x2 + 1)), (0, .ref h_this), (1, .int x1)]) hx hb d_Mo_look_156 hl (k := 2) rfl rfl (by decide) rfl (fun ls hl => ?_)
      refine lv_goto (tgt := 7) hx hb d_Mo_look_159 (by decide) ?_
      exact hr7 (x2 + 1) v_nameFrom v_names v_values v_behind v_value h _ _ hP hD hS _ (lv_sub hl [1, 2, 0] rfl)
    · replace h := itF h c_1
      refine lv_aload_n hx hb d_Mo_look_130 rfl (lv_at hl 0 rfl) ?_
      refine va_get (D := (dC, dI)) (ci := 5) (v := .ref h_this_text) (C := R_Mo) (T := F_Mo) (N := 12) hx hb hts in_Mo hown hK.1 hP 0 rfl rfl 3 (by decide) (hts _ m_420) (fun _ h9 => h9) rfl d_Mo_look_131 ?_
      refine lv_aload_n hx hb d_Mo_look_134 rfl (lv_at hl 0 rfl) ?_
      refine va_get (D := (dC, dI)) (ci := 5) (v := .int v_behind) (C := R_Mo) (T := F_Mo) (N := 12) hx hb hts in_Mo hown hK.1 hP 0 rfl rfl 9 (by decide) (hts _ m_426) (fun _ h9 => h9) rfl d_Mo_look_135 ?_
      obtain ⟨g_2, h⟩ := grd h
      refine va_iald hx hb hK.1 hP 2 1 rfl rfl (inB_in g_2) d_Mo_look_138 ?_
      obtain ⟨z3, hc_3, h⟩ := bs h
      refine go_i (wr := [(h_this, .inr (5, [.int v_thrownCode, .ref h_this_put, .int v_puts, .ref h_this_text, .int v_bytes, .int v_nameFrom, .int v_names, .ref h_this_value, .int v_values, .int v_behind, .ref h_this_part, .int v_parts])), (h_this_put, .inl (cI, 300, .inl v_put)), (h_this_text, .inl (cI, 300, .inl v_text)), (h_this_value, .inl (cI, 300, .inl v_value)), (h_this_part, .inl (cI, 300, .inl v_part))]) (w1 := []) (ws2 := [(h_this, .inr (5, [.int v_thrownCode, .ref h_this_put, .int v_puts, .ref h_this_text, .int v_bytes, .int v_nameFrom, .int v_names, .ref h_this_value, .int v_values, .int v_behind, .ref h_this_part, .int v_parts])), (h_this_put, .inl (cI, 300, .inl v_put)), (h_this_text, .inl (cI, 300, .inl v_text)), (h_this_value, .inl (cI, 300, .inl v_value)), (h_this_part, .inl (cI, 300, .inl v_part))]) hP hD hS hA [] [0, 1, 2, 3, 4] [0, 1, 2, 3, 4] rfl (by decide) rfl (by decide) (by decide) rfl (by decide) (fun hPc hDc hFc => rn_S (As := [.int (v_text v_behind.toNatClampNeg)]) (rest := []) C hK (c_Mo_blank N (v_text v_behind.toNatClampNeg) z3 hc_3 _) ⟨rfl, rfl⟩ m_478 ok_Mo_blank ⟨by decide, by decide⟩ hl.1 rfl (Nat.le_of_ble_eq_true rfl) d_Mo_look_139 ⟨by decide, by decide⟩ hS hPc hDc hFc) (fun H locs hP hD hS => ?_)
      refine lv_if_eq (tgt := 156) hx hb d_Mo_look_142 (by decide) (fun c_4 => ?_) (fun c_4 => ?_)
      · replace h := itT h c_4
        refine lv_iinc (v := x2 + 1) (lv' := [(2, .int (x2 + 1)), (0, .ref h_this), (1, .int x1)]) hx hb d_Mo_look_156 hl (k := 2) rfl rfl (by decide) rfl (fun ls hl => ?_)
        refine lv_goto (tgt := 7) hx hb d_Mo_look_159 (by decide) ?_
        exact hr7 (x2 + 1) v_nameFrom v_names v_values v_behind v_value h _ _ hP hD hS _ (lv_sub hl [1, 2, 0] rfl)
      · replace h := itF h c_4
        refine lv_aload_n hx hb d_Mo_look_145 rfl (lv_at hl 0 rfl) ?_
        refine lv_aload_n hx hb d_Mo_look_146 rfl (lv_at hl 0 rfl) ?_
        refine va_get (D := (dC, dI)) (ci := 5) (v := .int v_behind) (C := R_Mo) (T := F_Mo) (N := 12) hx hb hts in_Mo hown hK.1 hP 0 rfl rfl 9 (by decide) (hts _ m_426) (fun _ h9 => h9) rfl d_Mo_look_147 ?_
        obtain ⟨z5, hc_5, h⟩ := bs h
        refine go_v (wr := []) (w1 := [(h_this, .inr (5, [.int v_thrownCode, .ref h_this_put, .int v_puts, .ref h_this_text, .int v_bytes, .int v_nameFrom, .int v_names, .ref h_this_value, .int z5.1, .int z5.2.1, .ref h_this_part, .int v_parts])), (h_this_put, .inl (cI, 300, .inl v_put)), (h_this_text, .inl (cI, 300, .inl v_text)), (h_this_value, .inl (cI, 300, .inl z5.2.2)), (h_this_part, .inl (cI, 300, .inl v_part))]) (ws2 := [(h_this, .inr (5, [.int v_thrownCode, .ref h_this_put, .int v_puts, .ref h_this_text, .int v_bytes, .int v_nameFrom, .int v_names, .ref h_this_value, .int z5.1, .int z5.2.1, .ref h_this_part, .int v_parts])), (h_this_put, .inl (cI, 300, .inl v_put)), (h_this_text, .inl (cI, 300, .inl v_text)), (h_this_value, .inl (cI, 300, .inl z5.2.2)), (h_this_part, .inl (cI, 300, .inl v_part))]) hP hD hS hA [0, 1, 2, 3, 4] [] [0, 1, 2, 3, 4] rfl (by decide) rfl (by decide) (by decide) rfl (by decide) (fun hPc hDc hFc => rn_V (As := [.int v_behind]) (rest := []) C hK (c_Mo_takeLine N h_this h_this_put h_this_text h_this_value h_this_part v_thrownCode v_puts v_bytes v_nameFrom v_names v_values v_behind v_parts v_put v_text v_value v_part v_behind z5 hc_5 _) ⟨rfl, rfl⟩ m_481 ok_Mo_takeLine ⟨by decide, by decide⟩ rfl rfl rfl hl.1 rfl (Nat.le_of_ble_eq_true rfl) d_Mo_look_150 ⟨by decide, by decide⟩ hS hPc hDc hFc) (fun H locs hP hD hS => ?_)
        refine lv_goto (tgt := 119) hx hb d_Mo_look_153 (by decide) ?_
        exact ih x2 v_nameFrom v_names z5.1 z5.2.1 z5.2.2 h _ _ hP hD hS _ (lv_sub hl [0, 1, 2] rfl)
set_option maxHeartbeats 4000000 in
set_option maxRecDepth 100000 in
theorem k_Mo_look_55 {p : Program} {l : Launch} {e : Env} {s : State} {m : MethodId} {args : Array Value} {below : List Frame} {meth : Method} {c : Code} {dC : Nat → ClassId} {dI : Nat → Nat → Nat} {cB cI : ClassId} {aK aV : Nat → Nat} {A : Nat → Prop} (C : cx p s m args meth c R_Mo prog_7_method_5_code 4 (some .boolean)) (hK : kx (dC, dI) cB cI aK aV A s) (hA : ∀ q : Nat, s.heap.size ≤ q → A q) (N : Nat) (h_this h_this_put h_this_text h_this_value h_this_part : Nat) (v_thrownCode : Int32) (v_puts : Int32) (v_parts : Int32) (v_put : Nat → Int32) (v_part : Nat → Int32) (x1 : Int32) (v_bytes : Int32) (v_text : Nat → Int32) (z : Int32 × Int32 × Int32 × Int32 × Int32 × (Nat → Int32)) (r7 : Int32 → Int32 → Int32 → Int32 → Int32 → (Nat → Int32) → Option (Int32 × Int32 × Int32 × Int32 × Int32 × (Nat → Int32))) (hr7 : ∀ (x2 : Int32) (v_nameFrom : Int32) (v_names : Int32) (v_values : Int32) (v_behind : Int32) (v_value : Nat → Int32), r7 x2 v_nameFrom v_names v_values v_behind v_value = some z → ∀ (H : Heap) (locs : List Loc), va_P (dC, dI) classes [(h_this, .inr (5, [.int v_thrownCode, .ref h_this_put, .int v_puts, .ref h_this_text, .int v_bytes, .int v_nameFrom, .int v_names, .ref h_this_value, .int v_values, .int v_behind, .ref h_this_part, .int v_parts])), (h_this_put, .inl (cI, 300, .inl v_put)), (h_this_text, .inl (cI, 300, .inl v_text)), (h_this_value, .inl (cI, 300, .inl v_value)), (h_this_part, .inl (cI, 300, .inl v_part))] H → va_D A [(h_this, .inr (5, [.int v_thrownCode, .ref h_this_put, .int v_puts, .ref h_this_text, .int v_bytes, .int v_nameFrom, .int v_names, .ref h_this_value, .int v_values, .int v_behind, .ref h_this_part, .int v_parts])), (h_this_put, .inl (cI, 300, .inl v_put)), (h_this_text, .inl (cI, 300, .inl v_text)), (h_this_value, .inl (cI, 300, .inl v_value)), (h_this_part, .inl (cI, 300, .inl v_part))] → va_S A s.heap H locs → ∀ ls : Array Slot, lv_has ls 4 [(0, .ref h_this), (1, .int x1), (2, .int x2)] → W p l e ({ frames := 2, cells := 0, slots := 0, locals := 46 }) s m args below meth c H locs 0 0 (MQ below (Qi (dC, dI) [(h_this, .inr (5, [.int v_thrownCode, .ref h_this_put, .int v_puts, .ref h_this_text, .int v_bytes, .int z.2.1, .int z.2.2.1, .ref h_this_value, .int z.2.2.2.1, .int z.2.2.2.2.1, .ref h_this_part, .int v_parts])), (h_this_put, .inl (cI, 300, .inl v_put)), (h_this_text, .inl (cI, 300, .inl v_text)), (h_this_value, .inl (cI, 300, .inl z.2.2.2.2.2)), (h_this_part, .inl (cI, 300, .inl v_part))] A z.1) args s 0 0 A) (F0 m 7 ls [])) :
    ∀ (n : Nat), ∀ (x2 : Int32) (x3 : Int32) (v_nameFrom : Int32) (v_names : Int32) (v_values : Int32) (v_behind : Int32) (v_value : Nat → Int32), f_Mo_look_55 N r7 x1 v_bytes v_text n x2 x3 v_nameFrom v_names v_values v_behind v_value = some z → ∀ (H : Heap) (locs : List Loc), va_P (dC, dI) classes [(h_this, .inr (5, [.int v_thrownCode, .ref h_this_put, .int v_puts, .ref h_this_text, .int v_bytes, .int v_nameFrom, .int v_names, .ref h_this_value, .int v_values, .int v_behind, .ref h_this_part, .int v_parts])), (h_this_put, .inl (cI, 300, .inl v_put)), (h_this_text, .inl (cI, 300, .inl v_text)), (h_this_value, .inl (cI, 300, .inl v_value)), (h_this_part, .inl (cI, 300, .inl v_part))] H → va_D A [(h_this, .inr (5, [.int v_thrownCode, .ref h_this_put, .int v_puts, .ref h_this_text, .int v_bytes, .int v_nameFrom, .int v_names, .ref h_this_value, .int v_values, .int v_behind, .ref h_this_part, .int v_parts])), (h_this_put, .inl (cI, 300, .inl v_put)), (h_this_text, .inl (cI, 300, .inl v_text)), (h_this_value, .inl (cI, 300, .inl v_value)), (h_this_part, .inl (cI, 300, .inl v_part))] → va_S A s.heap H locs → ∀ ls : Array Slot, lv_has ls 4 [(0, .ref h_this), (1, .int x1), (2, .int x2), (3, .int x3)] → W p l e ({ frames := 2, cells := 0, slots := 0, locals := 46 }) s m args below meth c H locs 0 0 (MQ below (Qi (dC, dI) [(h_this, .inr (5, [.int v_thrownCode, .ref h_this_put, .int v_puts, .ref h_this_text, .int v_bytes, .int z.2.1, .int z.2.2.1, .ref h_this_value, .int z.2.2.2.1, .int z.2.2.2.2.1, .ref h_this_part, .int v_parts])), (h_this_put, .inl (cI, 300, .inl v_put)), (h_this_text, .inl (cI, 300, .inl v_text)), (h_this_value, .inl (cI, 300, .inl z.2.2.2.2.2)), (h_this_part, .inl (cI, 300, .inl v_part))] A z.1) args s 0 0 A) (F0 m 55 ls []) := by
  obtain ⟨hx, hb, hr, hml, hown, hts, hlk⟩ := id C
  intro n
  induction n with
  | zero =>
    intro x2 x3 v_nameFrom v_names v_values v_behind v_value h
    rw [f_Mo_look_55] at h
    cases h
  | succ n ih =>
    intro x2 x3 v_nameFrom v_names v_values v_behind v_value h H locs hP hD hS ls hl
    rw [f_Mo_look_55] at h
    refine lv_aload_n hx hb d_Mo_look_55 rfl (lv_at hl 0 rfl) ?_
    refine va_get (D := (dC, dI)) (ci := 5) (v := .ref h_this_text) (C := R_Mo) (T := F_Mo) (N := 12) hx hb hts in_Mo hown hK.1 hP 0 rfl rfl 3 (by decide) (hts _ m_420) (fun _ h9 => h9) rfl d_Mo_look_56 ?_
    refine lv_aload_n hx hb d_Mo_look_59 rfl (lv_at hl 0 rfl) ?_
    refine va_get (D := (dC, dI)) (ci := 5) (v := .int v_behind) (C := R_Mo) (T := F_Mo) (N := 12) hx hb hts in_Mo hown hK.1 hP 0 rfl rfl 9 (by decide) (hts _ m_426) (fun _ h9 => h9) rfl d_Mo_look_60 ?_
    refine lv_aload_n hx hb d_Mo_look_63 rfl (lv_at hl 0 rfl) ?_
    refine va_get (D := (dC, dI)) (ci := 5) (v := .int v_names) (C := R_Mo) (T := F_Mo) (N := 12) hx hb hts in_Mo hown hK.1 hP 0 rfl rfl 6 (by decide) (hts _ m_423) (fun _ h9 => h9) rfl d_Mo_look_64 ?_
    refine lv_iadd hx hb d_Mo_look_67 ?_
    obtain ⟨g_12, h⟩ := grd h
    refine va_iald hx hb hK.1 hP 2 1 rfl rfl (inB_in g_12) d_Mo_look_68 ?_
    refine lv_bipush (v := 58) hx hb d_Mo_look_69 (by decide) ?_
    refine lv_icmp_eq (tgt := 107) hx hb d_Mo_look_71 (by decide) (fun c_13 => ?_) (fun c_13 => ?_)
    · replace h := itT h c_13
      refine lv_aload_n hx hb d_Mo_look_107 rfl (lv_at hl 0 rfl) ?_
      refine lv_iconst (v := 0) hx hb d_Mo_look_108 (by decide) ?_
      refine va_put (D := (dC, dI)) (ci := 5) (v := .int 0) (ty := .int) (C := R_Mo) (T := F_Mo) (N := 12) hx hb hts in_Mo t_Mo t_Mo_ok n_Mo hown hK.1 hP hD hS 0 rfl rfl 8 (by decide) (hts _ m_425) (fun _ h9 => h9) rfl (by decide +kernel) rfl rfl (Nat.le_of_ble_eq_true rfl) d_Mo_look_109 (fun H locs hP hD hS => ?_)
      have hP : va_P (dC, dI) classes [(h_this, .inr (5, [.int v_thrownCode, .ref h_this_put, .int v_puts, .ref h_this_text, .int v_bytes, .int v_nameFrom, .int v_names, .ref h_this_value, .int 0, .int v_behind, .ref h_this_part, .int v_parts])), (h_this_put, .inl (cI, 300, .inl v_put)), (h_this_text, .inl (cI, 300, .inl v_text)), (h_this_value, .inl (cI, 300, .inl v_value)), (h_this_part, .inl (cI, 300, .inl v_part))] H := hP
      have hD : va_D A [(h_this, .inr (5, [.int v_thrownCode, .ref h_this_put, .int v_puts, .ref h_this_text, .int v_bytes, .int v_nameFrom, .int v_names, .ref h_this_value, .int 0, .int v_behind, .ref h_this_part, .int v_parts])), (h_this_put, .inl (cI, 300, .inl v_put)), (h_this_text, .inl (cI, 300, .inl v_text)), (h_this_value, .inl (cI, 300, .inl v_value)), (h_this_part, .inl (cI, 300, .inl v_part))] := hD
      refine lv_aload_n hx hb d_Mo_look_112 rfl (lv_at hl 0 rfl) ?_
      refine lv_iload_n hx hb d_Mo_look_113 rfl (lv_at hl 3 rfl) ?_
      refine lv_iconst (v := 1) hx hb d_Mo_look_114 (by decide) ?_
      refine lv_iadd hx hb d_Mo_look_115 ?_
      obtain ⟨z14, hc_14, h⟩ := bs h
      refine go_v (wr := []) (w1 := [(h_this, .inr (5, [.int v_thrownCode, .ref h_this_put, .int v_puts, .ref h_this_text, .int v_bytes, .int v_nameFrom, .int v_names, .ref h_this_value, .int z14.1, .int z14.2.1, .ref h_this_part, .int v_parts])), (h_this_put, .inl (cI, 300, .inl v_put)), (h_this_text, .inl (cI, 300, .inl v_text)), (h_this_value, .inl (cI, 300, .inl z14.2.2)), (h_this_part, .inl (cI, 300, .inl v_part))]) (ws2 := [(h_this, .inr (5, [.int v_thrownCode, .ref h_this_put, .int v_puts, .ref h_this_text, .int v_bytes, .int v_nameFrom, .int v_names, .ref h_this_value, .int z14.1, .int z14.2.1, .ref h_this_part, .int v_parts])), (h_this_put, .inl (cI, 300, .inl v_put)), (h_this_text, .inl (cI, 300, .inl v_text)), (h_this_value, .inl (cI, 300, .inl z14.2.2)), (h_this_part, .inl (cI, 300, .inl v_part))]) hP hD hS hA [0, 1, 2, 3, 4] [] [0, 1, 2, 3, 4] rfl (by decide) rfl (by decide) (by decide) rfl (by decide) (fun hPc hDc hFc => rn_V (As := [.int (x3 + 1)]) (rest := []) C hK (c_Mo_takeLine N h_this h_this_put h_this_text h_this_value h_this_part v_thrownCode v_puts v_bytes v_nameFrom v_names 0 v_behind v_parts v_put v_text v_value v_part (x3 + 1) z14 hc_14 _) ⟨rfl, rfl⟩ m_481 ok_Mo_takeLine ⟨by decide, by decide⟩ rfl rfl rfl hl.1 rfl (Nat.le_of_ble_eq_true rfl) d_Mo_look_116 ⟨by decide, by decide⟩ hS hPc hDc hFc) (fun H locs hP hD hS => ?_)
      exact k_Mo_look_119 C hK hA N h_this h_this_put h_this_text h_this_value h_this_part v_thrownCode v_puts v_parts v_put v_part x1 v_bytes v_text z r7 hr7 N x2 v_nameFrom v_names z14.1 z14.2.1 z14.2.2 h _ _ hP hD hS _ (lv_sub hl [0, 1, 2] rfl)
    · replace h := itF h c_13
      refine lv_aload_n hx hb d_Mo_look_74 rfl (lv_at hl 0 rfl) ?_
      refine va_get (D := (dC, dI)) (ci := 5) (v := .ref h_this_text) (C := R_Mo) (T := F_Mo) (N := 12) hx hb hts in_Mo hown hK.1 hP 0 rfl rfl 3 (by decide) (hts _ m_420) (fun _ h9 => h9) rfl d_Mo_look_75 ?_
      refine lv_aload_n hx hb d_Mo_look_78 rfl (lv_at hl 0 rfl) ?_
      refine va_get (D := (dC, dI)) (ci := 5) (v := .int v_behind) (C := R_Mo) (T := F_Mo) (N := 12) hx hb hts in_Mo hown hK.1 hP 0 rfl rfl 9 (by decide) (hts _ m_426) (fun _ h9 => h9) rfl d_Mo_look_79 ?_
      refine lv_aload_n hx hb d_Mo_look_82 rfl (lv_at hl 0 rfl) ?_
      refine va_get (D := (dC, dI)) (ci := 5) (v := .int v_names) (C := R_Mo) (T := F_Mo) (N := 12) hx hb hts in_Mo hown hK.1 hP 0 rfl rfl 6 (by decide) (hts _ m_423) (fun _ h9 => h9) rfl d_Mo_look_83 ?_
      refine lv_iadd hx hb d_Mo_look_86 ?_
      obtain ⟨g_15, h⟩ := grd h
      refine va_iald hx hb hK.1 hP 2 1 rfl rfl (inB_in g_15) d_Mo_look_87 ?_
      obtain ⟨z16, hc_16, h⟩ := bs h
      refine go_i (wr := [(h_this, .inr (5, [.int v_thrownCode, .ref h_this_put, .int v_puts, .ref h_this_text, .int v_bytes, .int v_nameFrom, .int v_names, .ref h_this_value, .int v_values, .int v_behind, .ref h_this_part, .int v_parts])), (h_this_put, .inl (cI, 300, .inl v_put)), (h_this_text, .inl (cI, 300, .inl v_text)), (h_this_value, .inl (cI, 300, .inl v_value)), (h_this_part, .inl (cI, 300, .inl v_part))]) (w1 := []) (ws2 := [(h_this, .inr (5, [.int v_thrownCode, .ref h_this_put, .int v_puts, .ref h_this_text, .int v_bytes, .int v_nameFrom, .int v_names, .ref h_this_value, .int v_values, .int v_behind, .ref h_this_part, .int v_parts])), (h_this_put, .inl (cI, 300, .inl v_put)), (h_this_text, .inl (cI, 300, .inl v_text)), (h_this_value, .inl (cI, 300, .inl v_value)), (h_this_part, .inl (cI, 300, .inl v_part))]) hP hD hS hA [] [0, 1, 2, 3, 4] [0, 1, 2, 3, 4] rfl (by decide) rfl (by decide) (by decide) rfl (by decide) (fun hPc hDc hFc => rn_S (As := [.int (v_text (v_behind + v_names).toNatClampNeg)]) (rest := []) C hK (c_Mo_blank N (v_text (v_behind + v_names).toNatClampNeg) z16 hc_16 _) ⟨rfl, rfl⟩ m_478 ok_Mo_blank ⟨by decide, by decide⟩ hl.1 rfl (Nat.le_of_ble_eq_true rfl) d_Mo_look_88 ⟨by decide, by decide⟩ hS hPc hDc hFc) (fun H locs hP hD hS => ?_)
      refine lv_if_ne (tgt := 107) hx hb d_Mo_look_91 (by decide) (fun c_17 => ?_) (fun c_17 => ?_)
      · replace h := itF h c_17
        refine lv_aload_n hx hb d_Mo_look_107 rfl (lv_at hl 0 rfl) ?_
        refine lv_iconst (v := 0) hx hb d_Mo_look_108 (by decide) ?_
        refine va_put (D := (dC, dI)) (ci := 5) (v := .int 0) (ty := .int) (C := R_Mo) (T := F_Mo) (N := 12) hx hb hts in_Mo t_Mo t_Mo_ok n_Mo hown hK.1 hP hD hS 0 rfl rfl 8 (by decide) (hts _ m_425) (fun _ h9 => h9) rfl (by decide +kernel) rfl rfl (Nat.le_of_ble_eq_true rfl) d_Mo_look_109 (fun H locs hP hD hS => ?_)
        have hP : va_P (dC, dI) classes [(h_this, .inr (5, [.int v_thrownCode, .ref h_this_put, .int v_puts, .ref h_this_text, .int v_bytes, .int v_nameFrom, .int v_names, .ref h_this_value, .int 0, .int v_behind, .ref h_this_part, .int v_parts])), (h_this_put, .inl (cI, 300, .inl v_put)), (h_this_text, .inl (cI, 300, .inl v_text)), (h_this_value, .inl (cI, 300, .inl v_value)), (h_this_part, .inl (cI, 300, .inl v_part))] H := hP
        have hD : va_D A [(h_this, .inr (5, [.int v_thrownCode, .ref h_this_put, .int v_puts, .ref h_this_text, .int v_bytes, .int v_nameFrom, .int v_names, .ref h_this_value, .int 0, .int v_behind, .ref h_this_part, .int v_parts])), (h_this_put, .inl (cI, 300, .inl v_put)), (h_this_text, .inl (cI, 300, .inl v_text)), (h_this_value, .inl (cI, 300, .inl v_value)), (h_this_part, .inl (cI, 300, .inl v_part))] := hD
        refine lv_aload_n hx hb d_Mo_look_112 rfl (lv_at hl 0 rfl) ?_
        refine lv_iload_n hx hb d_Mo_look_113 rfl (lv_at hl 3 rfl) ?_
        refine lv_iconst (v := 1) hx hb d_Mo_look_114 (by decide) ?_
        refine lv_iadd hx hb d_Mo_look_115 ?_
        obtain ⟨z18, hc_18, h⟩ := bs h
        refine go_v (wr := []) (w1 := [(h_this, .inr (5, [.int v_thrownCode, .ref h_this_put, .int v_puts, .ref h_this_text, .int v_bytes, .int v_nameFrom, .int v_names, .ref h_this_value, .int z18.1, .int z18.2.1, .ref h_this_part, .int v_parts])), (h_this_put, .inl (cI, 300, .inl v_put)), (h_this_text, .inl (cI, 300, .inl v_text)), (h_this_value, .inl (cI, 300, .inl z18.2.2)), (h_this_part, .inl (cI, 300, .inl v_part))]) (ws2 := [(h_this, .inr (5, [.int v_thrownCode, .ref h_this_put, .int v_puts, .ref h_this_text, .int v_bytes, .int v_nameFrom, .int v_names, .ref h_this_value, .int z18.1, .int z18.2.1, .ref h_this_part, .int v_parts])), (h_this_put, .inl (cI, 300, .inl v_put)), (h_this_text, .inl (cI, 300, .inl v_text)), (h_this_value, .inl (cI, 300, .inl z18.2.2)), (h_this_part, .inl (cI, 300, .inl v_part))]) hP hD hS hA [0, 1, 2, 3, 4] [] [0, 1, 2, 3, 4] rfl (by decide) rfl (by decide) (by decide) rfl (by decide) (fun hPc hDc hFc => rn_V (As := [.int (x3 + 1)]) (rest := []) C hK (c_Mo_takeLine N h_this h_this_put h_this_text h_this_value h_this_part v_thrownCode v_puts v_bytes v_nameFrom v_names 0 v_behind v_parts v_put v_text v_value v_part (x3 + 1) z18 hc_18 _) ⟨rfl, rfl⟩ m_481 ok_Mo_takeLine ⟨by decide, by decide⟩ rfl rfl rfl hl.1 rfl (Nat.le_of_ble_eq_true rfl) d_Mo_look_116 ⟨by decide, by decide⟩ hS hPc hDc hFc) (fun H locs hP hD hS => ?_)
        exact k_Mo_look_119 C hK hA N h_this h_this_put h_this_text h_this_value h_this_part v_thrownCode v_puts v_parts v_put v_part x1 v_bytes v_text z r7 hr7 N x2 v_nameFrom v_names z18.1 z18.2.1 z18.2.2 h _ _ hP hD hS _ (lv_sub hl [0, 1, 2] rfl)
      · replace h := itT h c_17
        refine lv_aload_n hx hb d_Mo_look_94 rfl (lv_at hl 0 rfl) ?_
        refine lv_dup hx hb d_Mo_look_95 rfl ?_
        refine va_get (D := (dC, dI)) (ci := 5) (v := .int v_names) (C := R_Mo) (T := F_Mo) (N := 12) hx hb hts in_Mo hown hK.1 hP 0 rfl rfl 6 (by decide) (hts _ m_423) (fun _ h9 => h9) rfl d_Mo_look_96 ?_
        refine lv_iconst (v := 1) hx hb d_Mo_look_99 (by decide) ?_
        refine lv_iadd hx hb d_Mo_look_100 ?_
        refine va_put (D := (dC, dI)) (ci := 5) (v := .int (v_names + 1)) (ty := .int) (C := R_Mo) (T := F_Mo) (N := 12) hx hb hts in_Mo t_Mo t_Mo_ok n_Mo hown hK.1 hP hD hS 0 rfl rfl 6 (by decide) (hts _ m_423) (fun _ h9 => h9) rfl (by decide +kernel) rfl rfl (Nat.le_of_ble_eq_true rfl) d_Mo_look_101 (fun H locs hP hD hS => ?_)
        have hP : va_P (dC, dI) classes [(h_this, .inr (5, [.int v_thrownCode, .ref h_this_put, .int v_puts, .ref h_this_text, .int v_bytes, .int v_nameFrom, .int (v_names + 1), .ref h_this_value, .int v_values, .int v_behind, .ref h_this_part, .int v_parts])), (h_this_put, .inl (cI, 300, .inl v_put)), (h_this_text, .inl (cI, 300, .inl v_text)), (h_this_value, .inl (cI, 300, .inl v_value)), (h_this_part, .inl (cI, 300, .inl v_part))] H := hP
        have hD : va_D A [(h_this, .inr (5, [.int v_thrownCode, .ref h_this_put, .int v_puts, .ref h_this_text, .int v_bytes, .int v_nameFrom, .int (v_names + 1), .ref h_this_value, .int v_values, .int v_behind, .ref h_this_part, .int v_parts])), (h_this_put, .inl (cI, 300, .inl v_put)), (h_this_text, .inl (cI, 300, .inl v_text)), (h_this_value, .inl (cI, 300, .inl v_value)), (h_this_part, .inl (cI, 300, .inl v_part))] := hD
        refine lv_goto (tgt := 55) hx hb d_Mo_look_104 (by decide) ?_
        exact ih x2 x3 v_nameFrom (v_names + 1) v_values v_behind v_value h _ _ hP hD hS _ (lv_sub hl [0, 1, 2, 3] rfl)
set_option maxHeartbeats 4000000 in
set_option maxRecDepth 100000 in
theorem k_Mo_look_7 {p : Program} {l : Launch} {e : Env} {s : State} {m : MethodId} {args : Array Value} {below : List Frame} {meth : Method} {c : Code} {dC : Nat → ClassId} {dI : Nat → Nat → Nat} {cB cI : ClassId} {aK aV : Nat → Nat} {A : Nat → Prop} (C : cx p s m args meth c R_Mo prog_7_method_5_code 4 (some .boolean)) (hK : kx (dC, dI) cB cI aK aV A s) (hA : ∀ q : Nat, s.heap.size ≤ q → A q) (N : Nat) (h_this h_this_put h_this_text h_this_value h_this_part : Nat) (v_thrownCode : Int32) (v_puts : Int32) (v_parts : Int32) (v_put : Nat → Int32) (v_part : Nat → Int32) (x1 : Int32) (v_bytes : Int32) (v_text : Nat → Int32) (z : Int32 × Int32 × Int32 × Int32 × Int32 × (Nat → Int32)) :
    ∀ (n : Nat), ∀ (x2 : Int32) (v_nameFrom : Int32) (v_names : Int32) (v_values : Int32) (v_behind : Int32) (v_value : Nat → Int32), f_Mo_look_7 N x1 v_bytes v_text n x2 v_nameFrom v_names v_values v_behind v_value = some z → ∀ (H : Heap) (locs : List Loc), va_P (dC, dI) classes [(h_this, .inr (5, [.int v_thrownCode, .ref h_this_put, .int v_puts, .ref h_this_text, .int v_bytes, .int v_nameFrom, .int v_names, .ref h_this_value, .int v_values, .int v_behind, .ref h_this_part, .int v_parts])), (h_this_put, .inl (cI, 300, .inl v_put)), (h_this_text, .inl (cI, 300, .inl v_text)), (h_this_value, .inl (cI, 300, .inl v_value)), (h_this_part, .inl (cI, 300, .inl v_part))] H → va_D A [(h_this, .inr (5, [.int v_thrownCode, .ref h_this_put, .int v_puts, .ref h_this_text, .int v_bytes, .int v_nameFrom, .int v_names, .ref h_this_value, .int v_values, .int v_behind, .ref h_this_part, .int v_parts])), (h_this_put, .inl (cI, 300, .inl v_put)), (h_this_text, .inl (cI, 300, .inl v_text)), (h_this_value, .inl (cI, 300, .inl v_value)), (h_this_part, .inl (cI, 300, .inl v_part))] → va_S A s.heap H locs → ∀ ls : Array Slot, lv_has ls 4 [(0, .ref h_this), (1, .int x1), (2, .int x2)] → W p l e ({ frames := 2, cells := 0, slots := 0, locals := 46 }) s m args below meth c H locs 0 0 (MQ below (Qi (dC, dI) [(h_this, .inr (5, [.int v_thrownCode, .ref h_this_put, .int v_puts, .ref h_this_text, .int v_bytes, .int z.2.1, .int z.2.2.1, .ref h_this_value, .int z.2.2.2.1, .int z.2.2.2.2.1, .ref h_this_part, .int v_parts])), (h_this_put, .inl (cI, 300, .inl v_put)), (h_this_text, .inl (cI, 300, .inl v_text)), (h_this_value, .inl (cI, 300, .inl z.2.2.2.2.2)), (h_this_part, .inl (cI, 300, .inl v_part))] A z.1) args s 0 0 A) (F0 m 7 ls []) := by
  obtain ⟨hx, hb, hr, hml, hown, hts, hlk⟩ := id C
  intro n
  induction n with
  | zero =>
    intro x2 v_nameFrom v_names v_values v_behind v_value h
    rw [f_Mo_look_7] at h
    cases h
  | succ n ih =>
    intro x2 v_nameFrom v_names v_values v_behind v_value h H locs hP hD hS ls hl
    rw [f_Mo_look_7] at h
    refine lv_iload_n hx hb d_Mo_look_7 rfl (lv_at hl 2 rfl) ?_
    refine lv_iload_n hx hb d_Mo_look_8 rfl (lv_at hl 1 rfl) ?_
    refine lv_icmp_gt (tgt := 162) hx hb d_Mo_look_9 (by decide) (fun c_6 => ?_) (fun c_6 => ?_)
    · replace h := itT h c_6
      refine lv_aload_n hx hb d_Mo_look_162 rfl (lv_at hl 0 rfl) ?_
      obtain ⟨z7, hc_7, h⟩ := bs h
      refine go_v (wr := []) (w1 := [(h_this, .inr (5, [.int v_thrownCode, .ref h_this_put, .int v_puts, .ref h_this_text, .int v_bytes, .int v_nameFrom, .int v_names, .ref h_this_value, .int z7.1, .int v_behind, .ref h_this_part, .int v_parts])), (h_this_put, .inl (cI, 300, .inl v_put)), (h_this_text, .inl (cI, 300, .inl v_text)), (h_this_value, .inl (cI, 300, .inl z7.2)), (h_this_part, .inl (cI, 300, .inl v_part))]) (ws2 := [(h_this, .inr (5, [.int v_thrownCode, .ref h_this_put, .int v_puts, .ref h_this_text, .int v_bytes, .int v_nameFrom, .int v_names, .ref h_this_value, .int z7.1, .int v_behind, .ref h_this_part, .int v_parts])), (h_this_put, .inl (cI, 300, .inl v_put)), (h_this_text, .inl (cI, 300, .inl v_text)), (h_this_value, .inl (cI, 300, .inl z7.2)), (h_this_part, .inl (cI, 300, .inl v_part))]) hP hD hS hA [0, 1, 2, 3, 4] [] [0, 1, 2, 3, 4] rfl (by decide) rfl (by decide) (by decide) rfl (by decide) (fun hPc hDc hFc => rn_V (As := []) (rest := []) C hK (c_Mo_trim N h_this h_this_put h_this_text h_this_value h_this_part v_thrownCode v_puts v_bytes v_nameFrom v_names v_values v_behind v_parts v_put v_text v_value v_part z7 hc_7 _) ⟨rfl, rfl⟩ m_485 ok_Mo_trim ⟨by decide, by decide⟩ rfl rfl rfl hl.1 rfl (Nat.le_of_ble_eq_true rfl) d_Mo_look_163 ⟨by decide, by decide⟩ hS hPc hDc hFc) (fun H locs hP hD hS => ?_)
      refine lv_iconst (v := 1) hx hb d_Mo_look_166 (by decide) ?_
      obtain rfl := Option.some.inj h
      exact W.zret (v := 1) hx hb hr rfl (fun t ht hW => ⟨⟨1, (), rfl, rfl, by rw [ht]; exact hP, hD⟩, hS.F ht⟩) hS.2.2 d_Mo_look_167 hlk
    · replace h := itF h c_6
      refine lv_aload_n hx hb d_Mo_look_12 rfl (lv_at hl 0 rfl) ?_
      refine va_get (D := (dC, dI)) (ci := 5) (v := .int v_behind) (C := R_Mo) (T := F_Mo) (N := 12) hx hb hts in_Mo hown hK.1 hP 0 rfl rfl 9 (by decide) (hts _ m_426) (fun _ h9 => h9) rfl d_Mo_look_13 ?_
      refine lv_aload_n hx hb d_Mo_look_16 rfl (lv_at hl 0 rfl) ?_
      refine va_get (D := (dC, dI)) (ci := 5) (v := .int v_bytes) (C := R_Mo) (T := F_Mo) (N := 12) hx hb hts in_Mo hown hK.1 hP 0 rfl rfl 4 (by decide) (hts _ m_421) (fun _ h9 => h9) rfl d_Mo_look_17 ?_
      refine lv_icmp_ge (tgt := 34) hx hb d_Mo_look_20 (by decide) (fun c_8 => ?_) (fun c_8 => ?_)
      · replace h := itT h c_8
        refine lv_iconst (v := (-1)) hx hb d_Mo_look_34 (by decide) ?_
        refine lv_istore_n (lv' := [(3, .int (-1)), (0, .ref h_this), (1, .int x1), (2, .int x2)]) hx hb d_Mo_look_35 rfl hl (by decide) rfl (fun ls hl => ?_)
        refine lv_iload_n hx hb d_Mo_look_36 rfl (lv_at hl 0 rfl) ?_
        refine lv_if_ge (tgt := 42) hx hb d_Mo_look_37 (by decide) (fun c_9 => ?_) (fun c_9 => ?_)
        · replace h := itT h c_9
          refine lv_aload_n hx hb d_Mo_look_42 rfl (lv_at hl 1 rfl) ?_
          refine lv_aload_n hx hb d_Mo_look_43 rfl (lv_at hl 1 rfl) ?_
          refine va_get (D := (dC, dI)) (ci := 5) (v := .int v_behind) (C := R_Mo) (T := F_Mo) (N := 12) hx hb hts in_Mo hown hK.1 hP 0 rfl rfl 9 (by decide) (hts _ m_426) (fun _ h9 => h9) rfl d_Mo_look_44 ?_
          refine va_put (D := (dC, dI)) (ci := 5) (v := .int v_behind) (ty := .int) (C := R_Mo) (T := F_Mo) (N := 12) hx hb hts in_Mo t_Mo t_Mo_ok n_Mo hown hK.1 hP hD hS 0 rfl rfl 5 (by decide) (hts _ m_422) (fun _ h9 => h9) rfl (by decide +kernel) rfl rfl (Nat.le_of_ble_eq_true rfl) d_Mo_look_47 (fun H locs hP hD hS => ?_)
          have hP : va_P (dC, dI) classes [(h_this, .inr (5, [.int v_thrownCode, .ref h_this_put, .int v_puts, .ref h_this_text, .int v_bytes, .int v_behind, .int v_names, .ref h_this_value, .int v_values, .int v_behind, .ref h_this_part, .int v_parts])), (h_this_put, .inl (cI, 300, .inl v_put)), (h_this_text, .inl (cI, 300, .inl v_text)), (h_this_value, .inl (cI, 300, .inl v_value)), (h_this_part, .inl (cI, 300, .inl v_part))] H := hP
          have hD : va_D A [(h_this, .inr (5, [.int v_thrownCode, .ref h_this_put, .int v_puts, .ref h_this_text, .int v_bytes, .int v_behind, .int v_names, .ref h_this_value, .int v_values, .int v_behind, .ref h_this_part, .int v_parts])), (h_this_put, .inl (cI, 300, .inl v_put)), (h_this_text, .inl (cI, 300, .inl v_text)), (h_this_value, .inl (cI, 300, .inl v_value)), (h_this_part, .inl (cI, 300, .inl v_part))] := hD
          refine lv_aload_n hx hb d_Mo_look_50 rfl (lv_at hl 1 rfl) ?_
          refine lv_iconst (v := 0) hx hb d_Mo_look_51 (by decide) ?_
          refine va_put (D := (dC, dI)) (ci := 5) (v := .int 0) (ty := .int) (C := R_Mo) (T := F_Mo) (N := 12) hx hb hts in_Mo t_Mo t_Mo_ok n_Mo hown hK.1 hP hD hS 0 rfl rfl 6 (by decide) (hts _ m_423) (fun _ h9 => h9) rfl (by decide +kernel) rfl rfl (Nat.le_of_ble_eq_true rfl) d_Mo_look_52 (fun H locs hP hD hS => ?_)
          have hP : va_P (dC, dI) classes [(h_this, .inr (5, [.int v_thrownCode, .ref h_this_put, .int v_puts, .ref h_this_text, .int v_bytes, .int v_behind, .int 0, .ref h_this_value, .int v_values, .int v_behind, .ref h_this_part, .int v_parts])), (h_this_put, .inl (cI, 300, .inl v_put)), (h_this_text, .inl (cI, 300, .inl v_text)), (h_this_value, .inl (cI, 300, .inl v_value)), (h_this_part, .inl (cI, 300, .inl v_part))] H := hP
          have hD : va_D A [(h_this, .inr (5, [.int v_thrownCode, .ref h_this_put, .int v_puts, .ref h_this_text, .int v_bytes, .int v_behind, .int 0, .ref h_this_value, .int v_values, .int v_behind, .ref h_this_part, .int v_parts])), (h_this_put, .inl (cI, 300, .inl v_put)), (h_this_text, .inl (cI, 300, .inl v_text)), (h_this_value, .inl (cI, 300, .inl v_value)), (h_this_part, .inl (cI, 300, .inl v_part))] := hD
          exact k_Mo_look_55 C hK hA N h_this h_this_put h_this_text h_this_value h_this_part v_thrownCode v_puts v_parts v_put v_part x1 v_bytes v_text z (f_Mo_look_7 N x1 v_bytes v_text n) ih N x2 (-1) v_behind 0 v_values v_behind v_value h _ _ hP hD hS _ (lv_sub hl [1, 2, 3, 0] rfl)
        · replace h := itF h c_9
          refine lv_iconst (v := 0) hx hb d_Mo_look_40 (by decide) ?_
          obtain rfl := Option.some.inj h
          exact W.zret (v := 0) hx hb hr rfl (fun t ht hW => ⟨⟨0, (), rfl, rfl, by rw [ht]; exact hP, hD⟩, hS.F ht⟩) hS.2.2 d_Mo_look_41 hlk
      · replace h := itF h c_8
        refine lv_aload_n hx hb d_Mo_look_23 rfl (lv_at hl 0 rfl) ?_
        refine lv_aload_n hx hb d_Mo_look_24 rfl (lv_at hl 0 rfl) ?_
        refine va_get (D := (dC, dI)) (ci := 5) (v := .int v_behind) (C := R_Mo) (T := F_Mo) (N := 12) hx hb hts in_Mo hown hK.1 hP 0 rfl rfl 9 (by decide) (hts _ m_426) (fun _ h9 => h9) rfl d_Mo_look_25 ?_
        obtain ⟨z10, hc_10, h⟩ := bs h
        refine go_i (wr := []) (w1 := [(h_this, .inr (5, [.int v_thrownCode, .ref h_this_put, .int v_puts, .ref h_this_text, .int v_bytes, .int v_nameFrom, .int v_names, .ref h_this_value, .int v_values, .int v_behind, .ref h_this_part, .int v_parts])), (h_this_put, .inl (cI, 300, .inl v_put)), (h_this_text, .inl (cI, 300, .inl v_text)), (h_this_value, .inl (cI, 300, .inl v_value)), (h_this_part, .inl (cI, 300, .inl v_part))]) (ws2 := [(h_this, .inr (5, [.int v_thrownCode, .ref h_this_put, .int v_puts, .ref h_this_text, .int v_bytes, .int v_nameFrom, .int v_names, .ref h_this_value, .int v_values, .int v_behind, .ref h_this_part, .int v_parts])), (h_this_put, .inl (cI, 300, .inl v_put)), (h_this_text, .inl (cI, 300, .inl v_text)), (h_this_value, .inl (cI, 300, .inl v_value)), (h_this_part, .inl (cI, 300, .inl v_part))]) hP hD hS hA [0, 1, 2, 3, 4] [] [0, 1, 2, 3, 4] rfl (by decide) rfl (by decide) (by decide) rfl (by decide) (fun hPc hDc hFc => rn_V (As := [.int v_behind]) (rest := []) C hK (c_Mo_colon N h_this h_this_put h_this_text h_this_value h_this_part v_thrownCode v_puts v_bytes v_nameFrom v_names v_values v_behind v_parts v_put v_text v_value v_part v_behind z10 hc_10 _) ⟨rfl, rfl⟩ m_470 ok_Mo_colon ⟨by decide, by decide⟩ rfl rfl rfl hl.1 rfl (Nat.le_of_ble_eq_true rfl) d_Mo_look_28 ⟨by decide, by decide⟩ hS hPc hDc hFc) (fun H locs hP hD hS => ?_)
        refine lv_goto (tgt := 35) hx hb d_Mo_look_31 (by decide) ?_
        refine lv_istore_n (lv' := [(3, .int z10), (0, .ref h_this), (1, .int x1), (2, .int x2)]) hx hb d_Mo_look_35 rfl hl (by decide) rfl (fun ls hl => ?_)
        refine lv_iload_n hx hb d_Mo_look_36 rfl (lv_at hl 0 rfl) ?_
        refine lv_if_ge (tgt := 42) hx hb d_Mo_look_37 (by decide) (fun c_11 => ?_) (fun c_11 => ?_)
        · replace h := itT h c_11
          refine lv_aload_n hx hb d_Mo_look_42 rfl (lv_at hl 1 rfl) ?_
          refine lv_aload_n hx hb d_Mo_look_43 rfl (lv_at hl 1 rfl) ?_
          refine va_get (D := (dC, dI)) (ci := 5) (v := .int v_behind) (C := R_Mo) (T := F_Mo) (N := 12) hx hb hts in_Mo hown hK.1 hP 0 rfl rfl 9 (by decide) (hts _ m_426) (fun _ h9 => h9) rfl d_Mo_look_44 ?_
          refine va_put (D := (dC, dI)) (ci := 5) (v := .int v_behind) (ty := .int) (C := R_Mo) (T := F_Mo) (N := 12) hx hb hts in_Mo t_Mo t_Mo_ok n_Mo hown hK.1 hP hD hS 0 rfl rfl 5 (by decide) (hts _ m_422) (fun _ h9 => h9) rfl (by decide +kernel) rfl rfl (Nat.le_of_ble_eq_true rfl) d_Mo_look_47 (fun H locs hP hD hS => ?_)
          have hP : va_P (dC, dI) classes [(h_this, .inr (5, [.int v_thrownCode, .ref h_this_put, .int v_puts, .ref h_this_text, .int v_bytes, .int v_behind, .int v_names, .ref h_this_value, .int v_values, .int v_behind, .ref h_this_part, .int v_parts])), (h_this_put, .inl (cI, 300, .inl v_put)), (h_this_text, .inl (cI, 300, .inl v_text)), (h_this_value, .inl (cI, 300, .inl v_value)), (h_this_part, .inl (cI, 300, .inl v_part))] H := hP
          have hD : va_D A [(h_this, .inr (5, [.int v_thrownCode, .ref h_this_put, .int v_puts, .ref h_this_text, .int v_bytes, .int v_behind, .int v_names, .ref h_this_value, .int v_values, .int v_behind, .ref h_this_part, .int v_parts])), (h_this_put, .inl (cI, 300, .inl v_put)), (h_this_text, .inl (cI, 300, .inl v_text)), (h_this_value, .inl (cI, 300, .inl v_value)), (h_this_part, .inl (cI, 300, .inl v_part))] := hD
          refine lv_aload_n hx hb d_Mo_look_50 rfl (lv_at hl 1 rfl) ?_
          refine lv_iconst (v := 0) hx hb d_Mo_look_51 (by decide) ?_
          refine va_put (D := (dC, dI)) (ci := 5) (v := .int 0) (ty := .int) (C := R_Mo) (T := F_Mo) (N := 12) hx hb hts in_Mo t_Mo t_Mo_ok n_Mo hown hK.1 hP hD hS 0 rfl rfl 6 (by decide) (hts _ m_423) (fun _ h9 => h9) rfl (by decide +kernel) rfl rfl (Nat.le_of_ble_eq_true rfl) d_Mo_look_52 (fun H locs hP hD hS => ?_)
          have hP : va_P (dC, dI) classes [(h_this, .inr (5, [.int v_thrownCode, .ref h_this_put, .int v_puts, .ref h_this_text, .int v_bytes, .int v_behind, .int 0, .ref h_this_value, .int v_values, .int v_behind, .ref h_this_part, .int v_parts])), (h_this_put, .inl (cI, 300, .inl v_put)), (h_this_text, .inl (cI, 300, .inl v_text)), (h_this_value, .inl (cI, 300, .inl v_value)), (h_this_part, .inl (cI, 300, .inl v_part))] H := hP
          have hD : va_D A [(h_this, .inr (5, [.int v_thrownCode, .ref h_this_put, .int v_puts, .ref h_this_text, .int v_bytes, .int v_behind, .int 0, .ref h_this_value, .int v_values, .int v_behind, .ref h_this_part, .int v_parts])), (h_this_put, .inl (cI, 300, .inl v_put)), (h_this_text, .inl (cI, 300, .inl v_text)), (h_this_value, .inl (cI, 300, .inl v_value)), (h_this_part, .inl (cI, 300, .inl v_part))] := hD
          exact k_Mo_look_55 C hK hA N h_this h_this_put h_this_text h_this_value h_this_part v_thrownCode v_puts v_parts v_put v_part x1 v_bytes v_text z (f_Mo_look_7 N x1 v_bytes v_text n) ih N x2 z10 v_behind 0 v_values v_behind v_value h _ _ hP hD hS _ (lv_sub hl [1, 2, 3, 0] rfl)
        · replace h := itF h c_11
          refine lv_iconst (v := 0) hx hb d_Mo_look_40 (by decide) ?_
          obtain rfl := Option.some.inj h
          exact W.zret (v := 0) hx hb hr rfl (fun t ht hW => ⟨⟨0, (), rfl, rfl, by rw [ht]; exact hP, hD⟩, hS.F ht⟩) hS.2.2 d_Mo_look_41 hlk
set_option maxHeartbeats 4000000 in
set_option maxRecDepth 100000 in
theorem c_Mo_look {l : Launch} {dC : Nat → ClassId} {dI : Nat → Nat → Nat} {cB cI : ClassId} {aK aV : Nat → Nat} (N : Nat) (h_this h_this_put h_this_text h_this_value h_this_part : Nat) (v_thrownCode : Int32) (v_puts : Int32) (v_bytes : Int32) (v_nameFrom : Int32) (v_names : Int32) (v_values : Int32) (v_behind : Int32) (v_parts : Int32) (v_put : Nat → Int32) (v_text : Nat → Int32) (v_value : Nat → Int32) (v_part : Nat → Int32) (x1 : Int32) (z : Int32 × Int32 × Int32 × Int32 × Int32 × (Nat → Int32)) (h : f_Mo_look N x1 v_bytes v_nameFrom v_names v_values v_behind v_text v_value = some z) : Ci l y_Mo_look prog_7_method_5_code 4 (some .boolean) ({ frames := 2, cells := 0, slots := 0, locals := 46 }) (dC, dI) cB cI aK aV [.ref h_this, .int x1] [(h_this, .inr (5, [.int v_thrownCode, .ref h_this_put, .int v_puts, .ref h_this_text, .int v_bytes, .int v_nameFrom, .int v_names, .ref h_this_value, .int v_values, .int v_behind, .ref h_this_part, .int v_parts])), (h_this_put, .inl (cI, 300, .inl v_put)), (h_this_text, .inl (cI, 300, .inl v_text)), (h_this_value, .inl (cI, 300, .inl v_value)), (h_this_part, .inl (cI, 300, .inl v_part))] (fun A => (Qi (dC, dI) [(h_this, .inr (5, [.int v_thrownCode, .ref h_this_put, .int v_puts, .ref h_this_text, .int v_bytes, .int z.2.1, .int z.2.2.1, .ref h_this_value, .int z.2.2.2.1, .int z.2.2.2.2.1, .ref h_this_part, .int v_parts])), (h_this_put, .inl (cI, 300, .inl v_put)), (h_this_text, .inl (cI, 300, .inl v_text)), (h_this_value, .inl (cI, 300, .inl z.2.2.2.2.2)), (h_this_part, .inl (cI, 300, .inl v_part))] A z.1)) := by
  refine Ci_of (by decide) (Nat.le_of_ble_eq_true rfl) (fun p e s m below meth c A C hK hnm hA hP hD ls hl => ?_)
  obtain ⟨hx, hb, hr, hml, hown, hts, hlk⟩ := id C
  have hS : va_S A s.heap s.heap [] := va_S.rf
  have hl : lv_has ls 4 [(0, .ref h_this), (1, .int x1)] := hl
  rw [f_Mo_look] at h
  refine lv_aload_n hx hb d_Mo_look_0 rfl (lv_at hl 0 rfl) ?_
  refine lv_iconst (v := 0) hx hb d_Mo_look_1 (by decide) ?_
  refine va_put (D := (dC, dI)) (ci := 5) (v := .int 0) (ty := .int) (C := R_Mo) (T := F_Mo) (N := 12) hx hb hts in_Mo t_Mo t_Mo_ok n_Mo hown hK.1 hP hD hS 0 rfl rfl 9 (by decide) (hts _ m_426) (fun _ h9 => h9) rfl (by decide +kernel) rfl rfl (Nat.le_of_ble_eq_true rfl) d_Mo_look_2 (fun H locs hP hD hS => ?_)
  have hP : va_P (dC, dI) classes [(h_this, .inr (5, [.int v_thrownCode, .ref h_this_put, .int v_puts, .ref h_this_text, .int v_bytes, .int v_nameFrom, .int v_names, .ref h_this_value, .int v_values, .int 0, .ref h_this_part, .int v_parts])), (h_this_put, .inl (cI, 300, .inl v_put)), (h_this_text, .inl (cI, 300, .inl v_text)), (h_this_value, .inl (cI, 300, .inl v_value)), (h_this_part, .inl (cI, 300, .inl v_part))] H := hP
  have hD : va_D A [(h_this, .inr (5, [.int v_thrownCode, .ref h_this_put, .int v_puts, .ref h_this_text, .int v_bytes, .int v_nameFrom, .int v_names, .ref h_this_value, .int v_values, .int 0, .ref h_this_part, .int v_parts])), (h_this_put, .inl (cI, 300, .inl v_put)), (h_this_text, .inl (cI, 300, .inl v_text)), (h_this_value, .inl (cI, 300, .inl v_value)), (h_this_part, .inl (cI, 300, .inl v_part))] := hD
  refine lv_iconst (v := 0) hx hb d_Mo_look_5 (by decide) ?_
  refine lv_istore_n (lv' := [(2, .int 0), (0, .ref h_this), (1, .int x1)]) hx hb d_Mo_look_6 rfl hl (by decide) rfl (fun ls hl => ?_)
  exact k_Mo_look_7 C hK hA N h_this h_this_put h_this_text h_this_value h_this_part v_thrownCode v_puts v_parts v_put v_part x1 v_bytes v_text z N 0 v_nameFrom v_names v_values 0 v_value h _ _ hP hD hS _ (lv_sub hl [1, 2, 0] rfl)
set_option maxHeartbeats 4000000 in
set_option maxRecDepth 100000 in
theorem k_Mo_letter_12 {p : Program} {l : Launch} {e : Env} {s : State} {m : MethodId} {args : Array Value} {below : List Frame} {meth : Method} {c : Code} {dC : Nat → ClassId} {dI : Nat → Nat → Nat} {cB cI : ClassId} {aK aV : Nat → Nat} {A : Nat → Prop} (C : cx p s m args meth c R_Mo prog_7_method_8_code 1 (some .boolean)) (hK : kx (dC, dI) cB cI aK aV A s) (hA : ∀ q : Nat, s.heap.size ≤ q → A q) (N : Nat) (x0 : Int32) (z : Int32) :
    f_Mo_letter_12 N x0 = some z → ∀ (H : Heap) (locs : List Loc), va_P (dC, dI) classes [] H → va_D A [] → va_S A s.heap H locs → ∀ ls : Array Slot, lv_has ls 1 [(0, .int x0)] → W p l e ({ frames := 0, cells := 0, slots := 0, locals := 0 }) s m args below meth c H locs 0 0 (MQ below (Qi (dC, dI) [] A z) args s 0 0 A) (F0 m 12 ls []) := by
  obtain ⟨hx, hb, hr, hml, hown, hts, hlk⟩ := id C
  intro  h H locs hP hD hS ls hl
  rw [f_Mo_letter_12] at h
  refine lv_iload_n hx hb d_Mo_letter_12 rfl (lv_at hl 0 rfl) ?_
  refine lv_bipush (v := 97) hx hb d_Mo_letter_13 (by decide) ?_
  refine lv_icmp_lt (tgt := 24) hx hb d_Mo_letter_15 (by decide) (fun c_1 => ?_) (fun c_1 => ?_)
  · replace h := itT h c_1
    refine lv_iload_n hx hb d_Mo_letter_24 rfl (lv_at hl 0 rfl) ?_
    refine lv_bipush (v := 48) hx hb d_Mo_letter_25 (by decide) ?_
    refine lv_icmp_lt (tgt := 40) hx hb d_Mo_letter_27 (by decide) (fun c_2 => ?_) (fun c_2 => ?_)
    · replace h := itT h c_2
      refine lv_iconst (v := 0) hx hb d_Mo_letter_40 (by decide) ?_
      obtain rfl := Option.some.inj h
      exact W.zret (v := 0) hx hb hr rfl (fun t ht hW => ⟨⟨0, (), rfl, rfl, by rw [ht]; exact hP, hD⟩, hS.F ht⟩) hS.2.2 d_Mo_letter_41 hlk
    · replace h := itF h c_2
      refine lv_iload_n hx hb d_Mo_letter_30 rfl (lv_at hl 0 rfl) ?_
      refine lv_bipush (v := 57) hx hb d_Mo_letter_31 (by decide) ?_
      refine lv_icmp_gt (tgt := 40) hx hb d_Mo_letter_33 (by decide) (fun c_3 => ?_) (fun c_3 => ?_)
      · replace h := itT h c_3
        refine lv_iconst (v := 0) hx hb d_Mo_letter_40 (by decide) ?_
        obtain rfl := Option.some.inj h
        exact W.zret (v := 0) hx hb hr rfl (fun t ht hW => ⟨⟨0, (), rfl, rfl, by rw [ht]; exact hP, hD⟩, hS.F ht⟩) hS.2.2 d_Mo_letter_41 hlk
      · replace h := itF h c_3
        refine lv_iconst (v := 1) hx hb d_Mo_letter_36 (by decide) ?_
        refine lv_goto (tgt := 41) hx hb d_Mo_letter_37 (by decide) ?_
        obtain rfl := Option.some.inj h
        exact W.zret (v := 1) hx hb hr rfl (fun t ht hW => ⟨⟨1, (), rfl, rfl, by rw [ht]; exact hP, hD⟩, hS.F ht⟩) hS.2.2 d_Mo_letter_41 hlk
  · replace h := itF h c_1
    refine lv_iload_n hx hb d_Mo_letter_18 rfl (lv_at hl 0 rfl) ?_
    refine lv_bipush (v := 122) hx hb d_Mo_letter_19 (by decide) ?_
    refine lv_icmp_le (tgt := 36) hx hb d_Mo_letter_21 (by decide) (fun c_4 => ?_) (fun c_4 => ?_)
    · replace h := itT h c_4
      refine lv_iconst (v := 1) hx hb d_Mo_letter_36 (by decide) ?_
      refine lv_goto (tgt := 41) hx hb d_Mo_letter_37 (by decide) ?_
      obtain rfl := Option.some.inj h
      exact W.zret (v := 1) hx hb hr rfl (fun t ht hW => ⟨⟨1, (), rfl, rfl, by rw [ht]; exact hP, hD⟩, hS.F ht⟩) hS.2.2 d_Mo_letter_41 hlk
    · replace h := itF h c_4
      refine lv_iload_n hx hb d_Mo_letter_24 rfl (lv_at hl 0 rfl) ?_
      refine lv_bipush (v := 48) hx hb d_Mo_letter_25 (by decide) ?_
      refine lv_icmp_lt (tgt := 40) hx hb d_Mo_letter_27 (by decide) (fun c_5 => ?_) (fun c_5 => ?_)
      · replace h := itT h c_5
        refine lv_iconst (v := 0) hx hb d_Mo_letter_40 (by decide) ?_
        obtain rfl := Option.some.inj h
        exact W.zret (v := 0) hx hb hr rfl (fun t ht hW => ⟨⟨0, (), rfl, rfl, by rw [ht]; exact hP, hD⟩, hS.F ht⟩) hS.2.2 d_Mo_letter_41 hlk
      · replace h := itF h c_5
        refine lv_iload_n hx hb d_Mo_letter_30 rfl (lv_at hl 0 rfl) ?_
        refine lv_bipush (v := 57) hx hb d_Mo_letter_31 (by decide) ?_
        refine lv_icmp_gt (tgt := 40) hx hb d_Mo_letter_33 (by decide) (fun c_6 => ?_) (fun c_6 => ?_)
        · replace h := itT h c_6
          refine lv_iconst (v := 0) hx hb d_Mo_letter_40 (by decide) ?_
          obtain rfl := Option.some.inj h
          exact W.zret (v := 0) hx hb hr rfl (fun t ht hW => ⟨⟨0, (), rfl, rfl, by rw [ht]; exact hP, hD⟩, hS.F ht⟩) hS.2.2 d_Mo_letter_41 hlk
        · replace h := itF h c_6
          refine lv_iconst (v := 1) hx hb d_Mo_letter_36 (by decide) ?_
          refine lv_goto (tgt := 41) hx hb d_Mo_letter_37 (by decide) ?_
          obtain rfl := Option.some.inj h
          exact W.zret (v := 1) hx hb hr rfl (fun t ht hW => ⟨⟨1, (), rfl, rfl, by rw [ht]; exact hP, hD⟩, hS.F ht⟩) hS.2.2 d_Mo_letter_41 hlk
set_option maxHeartbeats 4000000 in
set_option maxRecDepth 100000 in
theorem c_Mo_letter {l : Launch} {dC : Nat → ClassId} {dI : Nat → Nat → Nat} {cB cI : ClassId} {aK aV : Nat → Nat} (N : Nat) (x0 : Int32) (z : Int32) (h : f_Mo_letter N x0 = some z) : Ci l y_Mo_letter prog_7_method_8_code 1 (some .boolean) ({ frames := 0, cells := 0, slots := 0, locals := 0 }) (dC, dI) cB cI aK aV [.int x0] [] (fun A => (Qi (dC, dI) [] A z)) := by
  refine Ci_of (by decide) (Nat.le_of_ble_eq_true rfl) (fun p e s m below meth c A C hK hnm hA hP hD ls hl => ?_)
  obtain ⟨hx, hb, hr, hml, hown, hts, hlk⟩ := id C
  have hS : va_S A s.heap s.heap [] := va_S.rf
  have hl : lv_has ls 1 [(0, .int x0)] := hl
  rw [f_Mo_letter] at h
  refine lv_iload_n hx hb d_Mo_letter_0 rfl (lv_at hl 0 rfl) ?_
  refine lv_bipush (v := 65) hx hb d_Mo_letter_1 (by decide) ?_
  refine lv_icmp_lt (tgt := 12) hx hb d_Mo_letter_3 (by decide) (fun c_7 => ?_) (fun c_7 => ?_)
  · replace h := itT h c_7
    exact k_Mo_letter_12 C hK hA N x0 z h _ _ hP hD hS _ (lv_sub hl [0] rfl)
  · replace h := itF h c_7
    refine lv_iload_n hx hb d_Mo_letter_6 rfl (lv_at hl 0 rfl) ?_
    refine lv_bipush (v := 90) hx hb d_Mo_letter_7 (by decide) ?_
    refine lv_icmp_le (tgt := 36) hx hb d_Mo_letter_9 (by decide) (fun c_8 => ?_) (fun c_8 => ?_)
    · replace h := itT h c_8
      refine lv_iconst (v := 1) hx hb d_Mo_letter_36 (by decide) ?_
      refine lv_goto (tgt := 41) hx hb d_Mo_letter_37 (by decide) ?_
      obtain rfl := Option.some.inj h
      exact W.zret (v := 1) hx hb hr rfl (fun t ht hW => ⟨⟨1, (), rfl, rfl, by rw [ht]; exact hP, hD⟩, hS.F ht⟩) hS.2.2 d_Mo_letter_41 hlk
    · replace h := itF h c_8
      exact k_Mo_letter_12 C hK hA N x0 z h _ _ hP hD hS _ (lv_sub hl [0] rfl)
set_option maxHeartbeats 4000000 in
set_option maxRecDepth 100000 in
theorem c_Mo_local {l : Launch} {dC : Nat → ClassId} {dI : Nat → Nat → Nat} {cB cI : ClassId} {aK aV : Nat → Nat} (N : Nat) (x0 : Int32) (z : Int32) (h : f_Mo_local N x0 = some z) : Ci l y_Mo_local prog_7_method_9_code 1 (some .boolean) ({ frames := 1, cells := 0, slots := 0, locals := 20 }) (dC, dI) cB cI aK aV [.int x0] [] (fun A => (Qi (dC, dI) [] A z)) := by
  refine Ci_of (by decide) (Nat.le_of_ble_eq_true rfl) (fun p e s m below meth c A C hK hnm hA hP hD ls hl => ?_)
  obtain ⟨hx, hb, hr, hml, hown, hts, hlk⟩ := id C
  have hS : va_S A s.heap s.heap [] := va_S.rf
  have hl : lv_has ls 1 [(0, .int x0)] := hl
  rw [f_Mo_local] at h
  refine lv_iload_n hx hb d_Mo_local_0 rfl (lv_at hl 0 rfl) ?_
  obtain ⟨z1, hc_1, h⟩ := bs h
  refine go_i (wr := []) (w1 := []) (ws2 := []) hP hD hS hA [] [] [] rfl (by decide) rfl (by decide) (by decide) rfl (by decide) (fun hPc hDc hFc => rn_S (As := [.int x0]) (rest := []) C hK (c_Mo_letter N x0 z1 hc_1 _) ⟨rfl, rfl⟩ m_508 ok_Mo_letter ⟨by decide, by decide⟩ hl.1 rfl (Nat.le_of_ble_eq_true rfl) d_Mo_local_1 ⟨by decide, by decide⟩ hS hPc hDc hFc) (fun H locs hP hD hS => ?_)
  refine lv_if_ne (tgt := 13) hx hb d_Mo_local_4 (by decide) (fun c_2 => ?_) (fun c_2 => ?_)
  · replace h := itF h c_2
    refine lv_iconst (v := 1) hx hb d_Mo_local_13 (by decide) ?_
    obtain rfl := Option.some.inj h
    exact W.zret (v := 1) hx hb hr rfl (fun t ht hW => ⟨⟨1, (), rfl, rfl, by rw [ht]; exact hP, hD⟩, hS.F ht⟩) hS.2.2 d_Mo_local_14 hlk
  · replace h := itT h c_2
    refine lv_iload_n hx hb d_Mo_local_7 rfl (lv_at hl 0 rfl) ?_
    refine lv_bipush (v := 46) hx hb d_Mo_local_8 (by decide) ?_
    refine lv_icmp_ne (tgt := 15) hx hb d_Mo_local_10 (by decide) (fun c_3 => ?_) (fun c_3 => ?_)
    · replace h := itF h c_3
      refine lv_iload_n hx hb d_Mo_local_15 rfl (lv_at hl 0 rfl) ?_
      rcases Decidable.em (x0 = 33) with c_4 | c_4
      · refine lv_lookup (off := 164) (tgt := 180) hx hb d_Mo_local_16 (by decide) (by first | (rw [c_4]; done) | (rw [c_4]; rfl)) (by decide) ?_
        replace h := itT h c_4
        refine lv_iconst (v := 1) hx hb d_Mo_local_180 (by decide) ?_
        obtain rfl := Option.some.inj h
        exact W.zret (v := 1) hx hb hr rfl (fun t ht hW => ⟨⟨1, (), rfl, rfl, by rw [ht]; exact hP, hD⟩, hS.F ht⟩) hS.2.2 d_Mo_local_181 hlk
      · replace h := itF h c_4
        rcases Decidable.em (x0 = 35) with c_5 | c_5
        · refine lv_lookup (off := 164) (tgt := 180) hx hb d_Mo_local_16 (by decide) (by first | (rw [c_5]; done) | (rw [c_5]; rfl)) (by decide) ?_
          replace h := itT h c_5
          refine lv_iconst (v := 1) hx hb d_Mo_local_180 (by decide) ?_
          obtain rfl := Option.some.inj h
          exact W.zret (v := 1) hx hb hr rfl (fun t ht hW => ⟨⟨1, (), rfl, rfl, by rw [ht]; exact hP, hD⟩, hS.F ht⟩) hS.2.2 d_Mo_local_181 hlk
        · replace h := itF h c_5
          rcases Decidable.em (x0 = 36) with c_6 | c_6
          · refine lv_lookup (off := 164) (tgt := 180) hx hb d_Mo_local_16 (by decide) (by first | (rw [c_6]; done) | (rw [c_6]; rfl)) (by decide) ?_
            replace h := itT h c_6
            refine lv_iconst (v := 1) hx hb d_Mo_local_180 (by decide) ?_
            obtain rfl := Option.some.inj h
            exact W.zret (v := 1) hx hb hr rfl (fun t ht hW => ⟨⟨1, (), rfl, rfl, by rw [ht]; exact hP, hD⟩, hS.F ht⟩) hS.2.2 d_Mo_local_181 hlk
          · replace h := itF h c_6
            rcases Decidable.em (x0 = 37) with c_7 | c_7
            · refine lv_lookup (off := 164) (tgt := 180) hx hb d_Mo_local_16 (by decide) (by first | (rw [c_7]; done) | (rw [c_7]; rfl)) (by decide) ?_
              replace h := itT h c_7
              refine lv_iconst (v := 1) hx hb d_Mo_local_180 (by decide) ?_
              obtain rfl := Option.some.inj h
              exact W.zret (v := 1) hx hb hr rfl (fun t ht hW => ⟨⟨1, (), rfl, rfl, by rw [ht]; exact hP, hD⟩, hS.F ht⟩) hS.2.2 d_Mo_local_181 hlk
            · replace h := itF h c_7
              rcases Decidable.em (x0 = 38) with c_8 | c_8
              · refine lv_lookup (off := 164) (tgt := 180) hx hb d_Mo_local_16 (by decide) (by first | (rw [c_8]; done) | (rw [c_8]; rfl)) (by decide) ?_
                replace h := itT h c_8
                refine lv_iconst (v := 1) hx hb d_Mo_local_180 (by decide) ?_
                obtain rfl := Option.some.inj h
                exact W.zret (v := 1) hx hb hr rfl (fun t ht hW => ⟨⟨1, (), rfl, rfl, by rw [ht]; exact hP, hD⟩, hS.F ht⟩) hS.2.2 d_Mo_local_181 hlk
              · replace h := itF h c_8
                rcases Decidable.em (x0 = 39) with c_9 | c_9
                · refine lv_lookup (off := 164) (tgt := 180) hx hb d_Mo_local_16 (by decide) (by first | (rw [c_9]; done) | (rw [c_9]; rfl)) (by decide) ?_
                  replace h := itT h c_9
                  refine lv_iconst (v := 1) hx hb d_Mo_local_180 (by decide) ?_
                  obtain rfl := Option.some.inj h
                  exact W.zret (v := 1) hx hb hr rfl (fun t ht hW => ⟨⟨1, (), rfl, rfl, by rw [ht]; exact hP, hD⟩, hS.F ht⟩) hS.2.2 d_Mo_local_181 hlk
                · replace h := itF h c_9
                  rcases Decidable.em (x0 = 42) with c_10 | c_10
                  · refine lv_lookup (off := 164) (tgt := 180) hx hb d_Mo_local_16 (by decide) (by first | (rw [c_10]; done) | (rw [c_10]; rfl)) (by decide) ?_
                    replace h := itT h c_10
                    refine lv_iconst (v := 1) hx hb d_Mo_local_180 (by decide) ?_
                    obtain rfl := Option.some.inj h
                    exact W.zret (v := 1) hx hb hr rfl (fun t ht hW => ⟨⟨1, (), rfl, rfl, by rw [ht]; exact hP, hD⟩, hS.F ht⟩) hS.2.2 d_Mo_local_181 hlk
                  · replace h := itF h c_10
                    rcases Decidable.em (x0 = 43) with c_11 | c_11
                    · refine lv_lookup (off := 164) (tgt := 180) hx hb d_Mo_local_16 (by decide) (by first | (rw [c_11]; done) | (rw [c_11]; rfl)) (by decide) ?_
                      replace h := itT h c_11
                      refine lv_iconst (v := 1) hx hb d_Mo_local_180 (by decide) ?_
                      obtain rfl := Option.some.inj h
                      exact W.zret (v := 1) hx hb hr rfl (fun t ht hW => ⟨⟨1, (), rfl, rfl, by rw [ht]; exact hP, hD⟩, hS.F ht⟩) hS.2.2 d_Mo_local_181 hlk
                    · replace h := itF h c_11
                      rcases Decidable.em (x0 = 45) with c_12 | c_12
                      · refine lv_lookup (off := 164) (tgt := 180) hx hb d_Mo_local_16 (by decide) (by first | (rw [c_12]; done) | (rw [c_12]; rfl)) (by decide) ?_
                        replace h := itT h c_12
                        refine lv_iconst (v := 1) hx hb d_Mo_local_180 (by decide) ?_
                        obtain rfl := Option.some.inj h
                        exact W.zret (v := 1) hx hb hr rfl (fun t ht hW => ⟨⟨1, (), rfl, rfl, by rw [ht]; exact hP, hD⟩, hS.F ht⟩) hS.2.2 d_Mo_local_181 hlk
                      · replace h := itF h c_12
                        rcases Decidable.em (x0 = 47) with c_13 | c_13
                        · refine lv_lookup (off := 164) (tgt := 180) hx hb d_Mo_local_16 (by decide) (by first | (rw [c_13]; done) | (rw [c_13]; rfl)) (by decide) ?_
                          replace h := itT h c_13
                          refine lv_iconst (v := 1) hx hb d_Mo_local_180 (by decide) ?_
                          obtain rfl := Option.some.inj h
                          exact W.zret (v := 1) hx hb hr rfl (fun t ht hW => ⟨⟨1, (), rfl, rfl, by rw [ht]; exact hP, hD⟩, hS.F ht⟩) hS.2.2 d_Mo_local_181 hlk
                        · replace h := itF h c_13
                          rcases Decidable.em (x0 = 61) with c_14 | c_14
                          · refine lv_lookup (off := 164) (tgt := 180) hx hb d_Mo_local_16 (by decide) (by first | (rw [c_14]; done) | (rw [c_14]; rfl)) (by decide) ?_
                            replace h := itT h c_14
                            refine lv_iconst (v := 1) hx hb d_Mo_local_180 (by decide) ?_
                            obtain rfl := Option.some.inj h
                            exact W.zret (v := 1) hx hb hr rfl (fun t ht hW => ⟨⟨1, (), rfl, rfl, by rw [ht]; exact hP, hD⟩, hS.F ht⟩) hS.2.2 d_Mo_local_181 hlk
                          · replace h := itF h c_14
                            rcases Decidable.em (x0 = 63) with c_15 | c_15
                            · refine lv_lookup (off := 164) (tgt := 180) hx hb d_Mo_local_16 (by decide) (by first | (rw [c_15]; done) | (rw [c_15]; rfl)) (by decide) ?_
                              replace h := itT h c_15
                              refine lv_iconst (v := 1) hx hb d_Mo_local_180 (by decide) ?_
                              obtain rfl := Option.some.inj h
                              exact W.zret (v := 1) hx hb hr rfl (fun t ht hW => ⟨⟨1, (), rfl, rfl, by rw [ht]; exact hP, hD⟩, hS.F ht⟩) hS.2.2 d_Mo_local_181 hlk
                            · replace h := itF h c_15
                              rcases Decidable.em (x0 = 94) with c_16 | c_16
                              · refine lv_lookup (off := 164) (tgt := 180) hx hb d_Mo_local_16 (by decide) (by first | (rw [c_16]; done) | (rw [c_16]; rfl)) (by decide) ?_
                                replace h := itT h c_16
                                refine lv_iconst (v := 1) hx hb d_Mo_local_180 (by decide) ?_
                                obtain rfl := Option.some.inj h
                                exact W.zret (v := 1) hx hb hr rfl (fun t ht hW => ⟨⟨1, (), rfl, rfl, by rw [ht]; exact hP, hD⟩, hS.F ht⟩) hS.2.2 d_Mo_local_181 hlk
                              · replace h := itF h c_16
                                rcases Decidable.em (x0 = 95) with c_17 | c_17
                                · refine lv_lookup (off := 164) (tgt := 180) hx hb d_Mo_local_16 (by decide) (by first | (rw [c_17]; done) | (rw [c_17]; rfl)) (by decide) ?_
                                  replace h := itT h c_17
                                  refine lv_iconst (v := 1) hx hb d_Mo_local_180 (by decide) ?_
                                  obtain rfl := Option.some.inj h
                                  exact W.zret (v := 1) hx hb hr rfl (fun t ht hW => ⟨⟨1, (), rfl, rfl, by rw [ht]; exact hP, hD⟩, hS.F ht⟩) hS.2.2 d_Mo_local_181 hlk
                                · replace h := itF h c_17
                                  rcases Decidable.em (x0 = 96) with c_18 | c_18
                                  · refine lv_lookup (off := 164) (tgt := 180) hx hb d_Mo_local_16 (by decide) (by first | (rw [c_18]; done) | (rw [c_18]; rfl)) (by decide) ?_
                                    replace h := itT h c_18
                                    refine lv_iconst (v := 1) hx hb d_Mo_local_180 (by decide) ?_
                                    obtain rfl := Option.some.inj h
                                    exact W.zret (v := 1) hx hb hr rfl (fun t ht hW => ⟨⟨1, (), rfl, rfl, by rw [ht]; exact hP, hD⟩, hS.F ht⟩) hS.2.2 d_Mo_local_181 hlk
                                  · replace h := itF h c_18
                                    rcases Decidable.em (x0 = 123) with c_19 | c_19
                                    · refine lv_lookup (off := 164) (tgt := 180) hx hb d_Mo_local_16 (by decide) (by first | (rw [c_19]; done) | (rw [c_19]; rfl)) (by decide) ?_
                                      replace h := itT h c_19
                                      refine lv_iconst (v := 1) hx hb d_Mo_local_180 (by decide) ?_
                                      obtain rfl := Option.some.inj h
                                      exact W.zret (v := 1) hx hb hr rfl (fun t ht hW => ⟨⟨1, (), rfl, rfl, by rw [ht]; exact hP, hD⟩, hS.F ht⟩) hS.2.2 d_Mo_local_181 hlk
                                    · replace h := itF h c_19
                                      rcases Decidable.em (x0 = 124) with c_20 | c_20
                                      · refine lv_lookup (off := 164) (tgt := 180) hx hb d_Mo_local_16 (by decide) (by first | (rw [c_20]; done) | (rw [c_20]; rfl)) (by decide) ?_
                                        replace h := itT h c_20
                                        refine lv_iconst (v := 1) hx hb d_Mo_local_180 (by decide) ?_
                                        obtain rfl := Option.some.inj h
                                        exact W.zret (v := 1) hx hb hr rfl (fun t ht hW => ⟨⟨1, (), rfl, rfl, by rw [ht]; exact hP, hD⟩, hS.F ht⟩) hS.2.2 d_Mo_local_181 hlk
                                      · replace h := itF h c_20
                                        rcases Decidable.em (x0 = 125) with c_21 | c_21
                                        · refine lv_lookup (off := 164) (tgt := 180) hx hb d_Mo_local_16 (by decide) (by first | (rw [c_21]; done) | (rw [c_21]; rfl)) (by decide) ?_
                                          replace h := itT h c_21
                                          refine lv_iconst (v := 1) hx hb d_Mo_local_180 (by decide) ?_
                                          obtain rfl := Option.some.inj h
                                          exact W.zret (v := 1) hx hb hr rfl (fun t ht hW => ⟨⟨1, (), rfl, rfl, by rw [ht]; exact hP, hD⟩, hS.F ht⟩) hS.2.2 d_Mo_local_181 hlk
                                        · replace h := itF h c_21
                                          rcases Decidable.em (x0 = 126) with c_22 | c_22
                                          · refine lv_lookup (off := 164) (tgt := 180) hx hb d_Mo_local_16 (by decide) (by first | (rw [c_22]; done) | (rw [c_22]; rfl)) (by decide) ?_
                                            replace h := itT h c_22
                                            refine lv_iconst (v := 1) hx hb d_Mo_local_180 (by decide) ?_
                                            obtain rfl := Option.some.inj h
                                            exact W.zret (v := 1) hx hb hr rfl (fun t ht hW => ⟨⟨1, (), rfl, rfl, by rw [ht]; exact hP, hD⟩, hS.F ht⟩) hS.2.2 d_Mo_local_181 hlk
                                          · replace h := itF h c_22
                                            refine lv_lookup (off := 166) (tgt := 182) hx hb d_Mo_local_16 (by decide) ((lv_osw c_4 rfl).trans ((lv_osw c_5 rfl).trans ((lv_osw c_6 rfl).trans ((lv_osw c_7 rfl).trans ((lv_osw c_8 rfl).trans ((lv_osw c_9 rfl).trans ((lv_osw c_10 rfl).trans ((lv_osw c_11 rfl).trans ((lv_osw c_12 rfl).trans ((lv_osw c_13 rfl).trans ((lv_osw c_14 rfl).trans ((lv_osw c_15 rfl).trans ((lv_osw c_16 rfl).trans ((lv_osw c_17 rfl).trans ((lv_osw c_18 rfl).trans ((lv_osw c_19 rfl).trans ((lv_osw c_20 rfl).trans ((lv_osw c_21 rfl).trans ((lv_osw c_22 rfl).trans (rfl)))))))))))))))))))) (by decide) ?_
                                            refine lv_iconst (v := 0) hx hb d_Mo_local_182 (by decide) ?_
                                            obtain rfl := Option.some.inj h
                                            exact W.zret (v := 0) hx hb hr rfl (fun t ht hW => ⟨⟨0, (), rfl, rfl, by rw [ht]; exact hP, hD⟩, hS.F ht⟩) hS.2.2 d_Mo_local_183 hlk
    · replace h := itT h c_3
      refine lv_iconst (v := 1) hx hb d_Mo_local_13 (by decide) ?_
      obtain rfl := Option.some.inj h
      exact W.zret (v := 1) hx hb hr rfl (fun t ht hW => ⟨⟨1, (), rfl, rfl, by rw [ht]; exact hP, hD⟩, hS.F ht⟩) hS.2.2 d_Mo_local_14 hlk
set_option maxHeartbeats 4000000 in
set_option maxRecDepth 100000 in
theorem k_Mo_at_151 {p : Program} {l : Launch} {e : Env} {s : State} {m : MethodId} {args : Array Value} {below : List Frame} {meth : Method} {c : Code} {dC : Nat → ClassId} {dI : Nat → Nat → Nat} {cB cI : ClassId} {aK aV : Nat → Nat} {A : Nat → Prop} (C : cx p s m args meth c R_Mo prog_7_method_10_code 6 (some .int)) (hK : kx (dC, dI) cB cI aK aV A s) (hA : ∀ q : Nat, s.heap.size ≤ q → A q) (N : Nat) (h_this h_this_put h_this_text h_this_value h_this_part : Nat) (v_thrownCode : Int32) (v_puts : Int32) (v_bytes : Int32) (v_nameFrom : Int32) (v_names : Int32) (v_values : Int32) (v_behind : Int32) (v_put : Nat → Int32) (v_text : Nat → Int32) (v_value : Nat → Int32) (v_parts : Int32) (v_part : Nat → Int32) (z : Int32) (r67 : Int32 → Int32 → Option (Int32)) (hr67 : ∀ (x1 : Int32) (x2 : Int32), r67 x1 x2 = some z → ∀ (H : Heap) (locs : List Loc), va_P (dC, dI) classes [(h_this, .inr (5, [.int v_thrownCode, .ref h_this_put, .int v_puts, .ref h_this_text, .int v_bytes, .int v_nameFrom, .int v_names, .ref h_this_value, .int v_values, .int v_behind, .ref h_this_part, .int v_parts])), (h_this_put, .inl (cI, 300, .inl v_put)), (h_this_text, .inl (cI, 300, .inl v_text)), (h_this_value, .inl (cI, 300, .inl v_value)), (h_this_part, .inl (cI, 300, .inl v_part))] H → va_D A [(h_this, .inr (5, [.int v_thrownCode, .ref h_this_put, .int v_puts, .ref h_this_text, .int v_bytes, .int v_nameFrom, .int v_names, .ref h_this_value, .int v_values, .int v_behind, .ref h_this_part, .int v_parts])), (h_this_put, .inl (cI, 300, .inl v_put)), (h_this_text, .inl (cI, 300, .inl v_text)), (h_this_value, .inl (cI, 300, .inl v_value)), (h_this_part, .inl (cI, 300, .inl v_part))] → va_S A s.heap H locs → ∀ ls : Array Slot, lv_has ls 6 [(0, .ref h_this), (1, .int x1), (2, .int x2)] → W p l e ({ frames := 2, cells := 0, slots := 0, locals := 40 }) s m args below meth c H locs 0 0 (MQ below (Qi (dC, dI) [(h_this, .inr (5, [.int v_thrownCode, .ref h_this_put, .int v_puts, .ref h_this_text, .int v_bytes, .int v_nameFrom, .int v_names, .ref h_this_value, .int v_values, .int v_behind, .ref h_this_part, .int v_parts])), (h_this_put, .inl (cI, 300, .inl v_put)), (h_this_text, .inl (cI, 300, .inl v_text)), (h_this_value, .inl (cI, 300, .inl v_value)), (h_this_part, .inl (cI, 300, .inl v_part))] A z) args s 0 0 A) (F0 m 67 ls [])) :
    ∀ (x1 : Int32) (x2 : Int32) (x3 : Int32), f_Mo_at_151 N r67 v_parts v_part x1 x2 x3 = some z → ∀ (H : Heap) (locs : List Loc), va_P (dC, dI) classes [(h_this, .inr (5, [.int v_thrownCode, .ref h_this_put, .int v_puts, .ref h_this_text, .int v_bytes, .int v_nameFrom, .int v_names, .ref h_this_value, .int v_values, .int v_behind, .ref h_this_part, .int v_parts])), (h_this_put, .inl (cI, 300, .inl v_put)), (h_this_text, .inl (cI, 300, .inl v_text)), (h_this_value, .inl (cI, 300, .inl v_value)), (h_this_part, .inl (cI, 300, .inl v_part))] H → va_D A [(h_this, .inr (5, [.int v_thrownCode, .ref h_this_put, .int v_puts, .ref h_this_text, .int v_bytes, .int v_nameFrom, .int v_names, .ref h_this_value, .int v_values, .int v_behind, .ref h_this_part, .int v_parts])), (h_this_put, .inl (cI, 300, .inl v_put)), (h_this_text, .inl (cI, 300, .inl v_text)), (h_this_value, .inl (cI, 300, .inl v_value)), (h_this_part, .inl (cI, 300, .inl v_part))] → va_S A s.heap H locs → ∀ ls : Array Slot, lv_has ls 6 [(0, .ref h_this), (1, .int x1), (2, .int x2), (3, .int x3)] → W p l e ({ frames := 2, cells := 0, slots := 0, locals := 40 }) s m args below meth c H locs 0 0 (MQ below (Qi (dC, dI) [(h_this, .inr (5, [.int v_thrownCode, .ref h_this_put, .int v_puts, .ref h_this_text, .int v_bytes, .int v_nameFrom, .int v_names, .ref h_this_value, .int v_values, .int v_behind, .ref h_this_part, .int v_parts])), (h_this_put, .inl (cI, 300, .inl v_put)), (h_this_text, .inl (cI, 300, .inl v_text)), (h_this_value, .inl (cI, 300, .inl v_value)), (h_this_part, .inl (cI, 300, .inl v_part))] A z) args s 0 0 A) (F0 m 151 ls []) := by
  obtain ⟨hx, hb, hr, hml, hown, hts, hlk⟩ := id C
  intro x1 x2 x3 h H locs hP hD hS ls hl
  rw [f_Mo_at_151] at h
  refine lv_iload_n hx hb d_Mo_at_151 rfl (lv_at hl 2 rfl) ?_
  refine lv_iload_n hx hb d_Mo_at_152 rfl (lv_at hl 1 rfl) ?_
  refine lv_icmp_ge (tgt := 168) hx hb d_Mo_at_153 (by decide) (fun c_7 => ?_) (fun c_7 => ?_)
  · replace h := itT h c_7
    refine lv_iload_n hx hb d_Mo_at_168 rfl (lv_at hl 2 rfl) ?_
    refine lv_iload_n hx hb d_Mo_at_169 rfl (lv_at hl 1 rfl) ?_
    refine lv_icmp_eq (tgt := 200) hx hb d_Mo_at_170 (by decide) (fun c_8 => ?_) (fun c_8 => ?_)
    · replace h := itT h c_8
      refine lv_iconst (v := 1) hx hb d_Mo_at_200 (by decide) ?_
      refine lv_goto (tgt := 205) hx hb d_Mo_at_201 (by decide) ?_
      refine lv_istore (lv' := [(5, .int 1), (0, .ref h_this), (1, .int x1), (2, .int x2), (3, .int x3)]) hx hb d_Mo_at_205 hl (by decide) rfl (fun ls hl => ?_)
      refine lv_iload hx hb d_Mo_at_207 (lv_at hl 0 rfl) ?_
      refine lv_if_ne (tgt := 214) hx hb d_Mo_at_209 (by decide) (fun c_9 => ?_) (fun c_9 => ?_)
      · replace h := itF h c_9
        refine lv_iinc (v := x2 + 1) (lv' := [(2, .int (x2 + 1)), (5, .int 1), (0, .ref h_this), (1, .int x1), (3, .int x3)]) hx hb d_Mo_at_214 hl (k := 3) rfl rfl (by decide) rfl (fun ls hl => ?_)
        refine lv_goto (tgt := 67) hx hb d_Mo_at_217 (by decide) ?_
        exact hr67 x1 (x2 + 1) h _ _ hP hD hS _ (lv_sub hl [2, 3, 0] rfl)
      · replace h := itT h c_9
        refine lv_iconst (v := (-1)) hx hb d_Mo_at_212 (by decide) ?_
        obtain rfl := Option.some.inj h
        exact W.iret (v := (-1)) hx hb hr (fun t ht hW => ⟨⟨(-1), (), rfl, rfl, by rw [ht]; exact hP, hD⟩, hS.F ht⟩) hS.2.2 d_Mo_at_213 hlk
    · replace h := itF h c_8
      refine lv_aload_n hx hb d_Mo_at_173 rfl (lv_at hl 0 rfl) ?_
      refine va_get (D := (dC, dI)) (ci := 5) (v := .ref h_this_part) (C := R_Mo) (T := F_Mo) (N := 12) hx hb hts in_Mo hown hK.1 hP 0 rfl rfl 10 (by decide) (hts _ m_427) (fun _ h9 => h9) rfl d_Mo_at_174 ?_
      refine lv_iload_n hx hb d_Mo_at_177 rfl (lv_at hl 2 rfl) ?_
      obtain ⟨g_10, h⟩ := grd h
      refine va_iald hx hb hK.1 hP 4 1 rfl rfl (inB_in g_10) d_Mo_at_178 ?_
      obtain ⟨z11, hc_11, h⟩ := bs h
      refine go_i (wr := [(h_this, .inr (5, [.int v_thrownCode, .ref h_this_put, .int v_puts, .ref h_this_text, .int v_bytes, .int v_nameFrom, .int v_names, .ref h_this_value, .int v_values, .int v_behind, .ref h_this_part, .int v_parts])), (h_this_put, .inl (cI, 300, .inl v_put)), (h_this_text, .inl (cI, 300, .inl v_text)), (h_this_value, .inl (cI, 300, .inl v_value)), (h_this_part, .inl (cI, 300, .inl v_part))]) (w1 := []) (ws2 := [(h_this, .inr (5, [.int v_thrownCode, .ref h_this_put, .int v_puts, .ref h_this_text, .int v_bytes, .int v_nameFrom, .int v_names, .ref h_this_value, .int v_values, .int v_behind, .ref h_this_part, .int v_parts])), (h_this_put, .inl (cI, 300, .inl v_put)), (h_this_text, .inl (cI, 300, .inl v_text)), (h_this_value, .inl (cI, 300, .inl v_value)), (h_this_part, .inl (cI, 300, .inl v_part))]) hP hD hS hA [] [0, 1, 2, 3, 4] [0, 1, 2, 3, 4] rfl (by decide) rfl (by decide) (by decide) rfl (by decide) (fun hPc hDc hFc => rn_S (As := [.int (v_part x2.toNatClampNeg)]) (rest := []) C hK (c_Mo_letter N (v_part x2.toNatClampNeg) z11 hc_11 _) ⟨rfl, rfl⟩ m_508 ok_Mo_letter ⟨by decide, by decide⟩ hl.1 rfl (Nat.le_of_ble_eq_true rfl) d_Mo_at_179 ⟨by decide, by decide⟩ hS hPc hDc hFc) (fun H locs hP hD hS => ?_)
      refine lv_if_ne (tgt := 200) hx hb d_Mo_at_182 (by decide) (fun c_12 => ?_) (fun c_12 => ?_)
      · replace h := itF h c_12
        refine lv_iconst (v := 1) hx hb d_Mo_at_200 (by decide) ?_
        refine lv_goto (tgt := 205) hx hb d_Mo_at_201 (by decide) ?_
        refine lv_istore (lv' := [(5, .int 1), (0, .ref h_this), (1, .int x1), (2, .int x2), (3, .int x3)]) hx hb d_Mo_at_205 hl (by decide) rfl (fun ls hl => ?_)
        refine lv_iload hx hb d_Mo_at_207 (lv_at hl 0 rfl) ?_
        refine lv_if_ne (tgt := 214) hx hb d_Mo_at_209 (by decide) (fun c_13 => ?_) (fun c_13 => ?_)
        · replace h := itF h c_13
          refine lv_iinc (v := x2 + 1) (lv' := [(2, .int (x2 + 1)), (5, .int 1), (0, .ref h_this), (1, .int x1), (3, .int x3)]) hx hb d_Mo_at_214 hl (k := 3) rfl rfl (by decide) rfl (fun ls hl => ?_)
          refine lv_goto (tgt := 67) hx hb d_Mo_at_217 (by decide) ?_
          exact hr67 x1 (x2 + 1) h _ _ hP hD hS _ (lv_sub hl [2, 3, 0] rfl)
        · replace h := itT h c_13
          refine lv_iconst (v := (-1)) hx hb d_Mo_at_212 (by decide) ?_
          obtain rfl := Option.some.inj h
          exact W.iret (v := (-1)) hx hb hr (fun t ht hW => ⟨⟨(-1), (), rfl, rfl, by rw [ht]; exact hP, hD⟩, hS.F ht⟩) hS.2.2 d_Mo_at_213 hlk
      · replace h := itT h c_12
        refine lv_aload_n hx hb d_Mo_at_185 rfl (lv_at hl 0 rfl) ?_
        refine va_get (D := (dC, dI)) (ci := 5) (v := .ref h_this_part) (C := R_Mo) (T := F_Mo) (N := 12) hx hb hts in_Mo hown hK.1 hP 0 rfl rfl 10 (by decide) (hts _ m_427) (fun _ h9 => h9) rfl d_Mo_at_186 ?_
        refine lv_iload_n hx hb d_Mo_at_189 rfl (lv_at hl 2 rfl) ?_
        obtain ⟨g_14, h⟩ := grd h
        refine va_iald hx hb hK.1 hP 4 1 rfl rfl (inB_in g_14) d_Mo_at_190 ?_
        refine lv_bipush (v := 45) hx hb d_Mo_at_191 (by decide) ?_
        refine lv_icmp_eq (tgt := 200) hx hb d_Mo_at_193 (by decide) (fun c_15 => ?_) (fun c_15 => ?_)
        · replace h := itT h c_15
          refine lv_iconst (v := 1) hx hb d_Mo_at_200 (by decide) ?_
          refine lv_goto (tgt := 205) hx hb d_Mo_at_201 (by decide) ?_
          refine lv_istore (lv' := [(5, .int 1), (0, .ref h_this), (1, .int x1), (2, .int x2), (3, .int x3)]) hx hb d_Mo_at_205 hl (by decide) rfl (fun ls hl => ?_)
          refine lv_iload hx hb d_Mo_at_207 (lv_at hl 0 rfl) ?_
          refine lv_if_ne (tgt := 214) hx hb d_Mo_at_209 (by decide) (fun c_16 => ?_) (fun c_16 => ?_)
          · replace h := itF h c_16
            refine lv_iinc (v := x2 + 1) (lv' := [(2, .int (x2 + 1)), (5, .int 1), (0, .ref h_this), (1, .int x1), (3, .int x3)]) hx hb d_Mo_at_214 hl (k := 3) rfl rfl (by decide) rfl (fun ls hl => ?_)
            refine lv_goto (tgt := 67) hx hb d_Mo_at_217 (by decide) ?_
            exact hr67 x1 (x2 + 1) h _ _ hP hD hS _ (lv_sub hl [2, 3, 0] rfl)
          · replace h := itT h c_16
            refine lv_iconst (v := (-1)) hx hb d_Mo_at_212 (by decide) ?_
            obtain rfl := Option.some.inj h
            exact W.iret (v := (-1)) hx hb hr (fun t ht hW => ⟨⟨(-1), (), rfl, rfl, by rw [ht]; exact hP, hD⟩, hS.F ht⟩) hS.2.2 d_Mo_at_213 hlk
        · replace h := itF h c_15
          refine lv_iload_n hx hb d_Mo_at_196 rfl (lv_at hl 3 rfl) ?_
          refine lv_if_eq (tgt := 204) hx hb d_Mo_at_197 (by decide) (fun c_17 => ?_) (fun c_17 => ?_)
          · replace h := itT h c_17
            refine lv_iconst (v := 0) hx hb d_Mo_at_204 (by decide) ?_
            refine lv_istore (lv' := [(5, .int 0), (0, .ref h_this), (1, .int x1), (2, .int x2), (3, .int x3)]) hx hb d_Mo_at_205 hl (by decide) rfl (fun ls hl => ?_)
            refine lv_iload hx hb d_Mo_at_207 (lv_at hl 0 rfl) ?_
            refine lv_if_ne (tgt := 214) hx hb d_Mo_at_209 (by decide) (fun c_18 => ?_) (fun c_18 => ?_)
            · replace h := itF h c_18
              refine lv_iinc (v := x2 + 1) (lv' := [(2, .int (x2 + 1)), (5, .int 0), (0, .ref h_this), (1, .int x1), (3, .int x3)]) hx hb d_Mo_at_214 hl (k := 3) rfl rfl (by decide) rfl (fun ls hl => ?_)
              refine lv_goto (tgt := 67) hx hb d_Mo_at_217 (by decide) ?_
              exact hr67 x1 (x2 + 1) h _ _ hP hD hS _ (lv_sub hl [2, 3, 0] rfl)
            · replace h := itT h c_18
              refine lv_iconst (v := (-1)) hx hb d_Mo_at_212 (by decide) ?_
              obtain rfl := Option.some.inj h
              exact W.iret (v := (-1)) hx hb hr (fun t ht hW => ⟨⟨(-1), (), rfl, rfl, by rw [ht]; exact hP, hD⟩, hS.F ht⟩) hS.2.2 d_Mo_at_213 hlk
          · replace h := itF h c_17
            refine lv_iconst (v := 1) hx hb d_Mo_at_200 (by decide) ?_
            refine lv_goto (tgt := 205) hx hb d_Mo_at_201 (by decide) ?_
            refine lv_istore (lv' := [(5, .int 1), (0, .ref h_this), (1, .int x1), (2, .int x2), (3, .int x3)]) hx hb d_Mo_at_205 hl (by decide) rfl (fun ls hl => ?_)
            refine lv_iload hx hb d_Mo_at_207 (lv_at hl 0 rfl) ?_
            refine lv_if_ne (tgt := 214) hx hb d_Mo_at_209 (by decide) (fun c_19 => ?_) (fun c_19 => ?_)
            · replace h := itF h c_19
              refine lv_iinc (v := x2 + 1) (lv' := [(2, .int (x2 + 1)), (5, .int 1), (0, .ref h_this), (1, .int x1), (3, .int x3)]) hx hb d_Mo_at_214 hl (k := 3) rfl rfl (by decide) rfl (fun ls hl => ?_)
              refine lv_goto (tgt := 67) hx hb d_Mo_at_217 (by decide) ?_
              exact hr67 x1 (x2 + 1) h _ _ hP hD hS _ (lv_sub hl [2, 3, 0] rfl)
            · replace h := itT h c_19
              refine lv_iconst (v := (-1)) hx hb d_Mo_at_212 (by decide) ?_
              obtain rfl := Option.some.inj h
              exact W.iret (v := (-1)) hx hb hr (fun t ht hW => ⟨⟨(-1), (), rfl, rfl, by rw [ht]; exact hP, hD⟩, hS.F ht⟩) hS.2.2 d_Mo_at_213 hlk
  · replace h := itF h c_7
    refine lv_aload_n hx hb d_Mo_at_156 rfl (lv_at hl 0 rfl) ?_
    refine va_get (D := (dC, dI)) (ci := 5) (v := .ref h_this_part) (C := R_Mo) (T := F_Mo) (N := 12) hx hb hts in_Mo hown hK.1 hP 0 rfl rfl 10 (by decide) (hts _ m_427) (fun _ h9 => h9) rfl d_Mo_at_157 ?_
    refine lv_iload_n hx hb d_Mo_at_160 rfl (lv_at hl 2 rfl) ?_
    obtain ⟨g_20, h⟩ := grd h
    refine va_iald hx hb hK.1 hP 4 1 rfl rfl (inB_in g_20) d_Mo_at_161 ?_
    obtain ⟨z21, hc_21, h⟩ := bs h
    refine go_i (wr := [(h_this, .inr (5, [.int v_thrownCode, .ref h_this_put, .int v_puts, .ref h_this_text, .int v_bytes, .int v_nameFrom, .int v_names, .ref h_this_value, .int v_values, .int v_behind, .ref h_this_part, .int v_parts])), (h_this_put, .inl (cI, 300, .inl v_put)), (h_this_text, .inl (cI, 300, .inl v_text)), (h_this_value, .inl (cI, 300, .inl v_value)), (h_this_part, .inl (cI, 300, .inl v_part))]) (w1 := []) (ws2 := [(h_this, .inr (5, [.int v_thrownCode, .ref h_this_put, .int v_puts, .ref h_this_text, .int v_bytes, .int v_nameFrom, .int v_names, .ref h_this_value, .int v_values, .int v_behind, .ref h_this_part, .int v_parts])), (h_this_put, .inl (cI, 300, .inl v_put)), (h_this_text, .inl (cI, 300, .inl v_text)), (h_this_value, .inl (cI, 300, .inl v_value)), (h_this_part, .inl (cI, 300, .inl v_part))]) hP hD hS hA [] [0, 1, 2, 3, 4] [0, 1, 2, 3, 4] rfl (by decide) rfl (by decide) (by decide) rfl (by decide) (fun hPc hDc hFc => rn_S (As := [.int (v_part x2.toNatClampNeg)]) (rest := []) C hK (c_Mo_local N (v_part x2.toNatClampNeg) z21 hc_21 _) ⟨rfl, rfl⟩ m_505 ok_Mo_local ⟨by decide, by decide⟩ hl.1 rfl (Nat.le_of_ble_eq_true rfl) d_Mo_at_162 ⟨by decide, by decide⟩ hS hPc hDc hFc) (fun H locs hP hD hS => ?_)
    refine lv_goto (tgt := 205) hx hb d_Mo_at_165 (by decide) ?_
    refine lv_istore (lv' := [(5, .int z21), (0, .ref h_this), (1, .int x1), (2, .int x2), (3, .int x3)]) hx hb d_Mo_at_205 hl (by decide) rfl (fun ls hl => ?_)
    refine lv_iload hx hb d_Mo_at_207 (lv_at hl 0 rfl) ?_
    refine lv_if_ne (tgt := 214) hx hb d_Mo_at_209 (by decide) (fun c_22 => ?_) (fun c_22 => ?_)
    · replace h := itF h c_22
      refine lv_iinc (v := x2 + 1) (lv' := [(2, .int (x2 + 1)), (5, .int z21), (0, .ref h_this), (1, .int x1), (3, .int x3)]) hx hb d_Mo_at_214 hl (k := 3) rfl rfl (by decide) rfl (fun ls hl => ?_)
      refine lv_goto (tgt := 67) hx hb d_Mo_at_217 (by decide) ?_
      exact hr67 x1 (x2 + 1) h _ _ hP hD hS _ (lv_sub hl [2, 3, 0] rfl)
    · replace h := itT h c_22
      refine lv_iconst (v := (-1)) hx hb d_Mo_at_212 (by decide) ?_
      obtain rfl := Option.some.inj h
      exact W.iret (v := (-1)) hx hb hr (fun t ht hW => ⟨⟨(-1), (), rfl, rfl, by rw [ht]; exact hP, hD⟩, hS.F ht⟩) hS.2.2 d_Mo_at_213 hlk
set_option maxHeartbeats 4000000 in
set_option maxRecDepth 100000 in
theorem k_Mo_at_125 {p : Program} {l : Launch} {e : Env} {s : State} {m : MethodId} {args : Array Value} {below : List Frame} {meth : Method} {c : Code} {dC : Nat → ClassId} {dI : Nat → Nat → Nat} {cB cI : ClassId} {aK aV : Nat → Nat} {A : Nat → Prop} (C : cx p s m args meth c R_Mo prog_7_method_10_code 6 (some .int)) (hK : kx (dC, dI) cB cI aK aV A s) (hA : ∀ q : Nat, s.heap.size ≤ q → A q) (N : Nat) (h_this h_this_put h_this_text h_this_value h_this_part : Nat) (v_thrownCode : Int32) (v_puts : Int32) (v_bytes : Int32) (v_nameFrom : Int32) (v_names : Int32) (v_values : Int32) (v_behind : Int32) (v_put : Nat → Int32) (v_text : Nat → Int32) (v_value : Nat → Int32) (v_parts : Int32) (v_part : Nat → Int32) (z : Int32) (r67 : Int32 → Int32 → Option (Int32)) (hr67 : ∀ (x1 : Int32) (x2 : Int32), r67 x1 x2 = some z → ∀ (H : Heap) (locs : List Loc), va_P (dC, dI) classes [(h_this, .inr (5, [.int v_thrownCode, .ref h_this_put, .int v_puts, .ref h_this_text, .int v_bytes, .int v_nameFrom, .int v_names, .ref h_this_value, .int v_values, .int v_behind, .ref h_this_part, .int v_parts])), (h_this_put, .inl (cI, 300, .inl v_put)), (h_this_text, .inl (cI, 300, .inl v_text)), (h_this_value, .inl (cI, 300, .inl v_value)), (h_this_part, .inl (cI, 300, .inl v_part))] H → va_D A [(h_this, .inr (5, [.int v_thrownCode, .ref h_this_put, .int v_puts, .ref h_this_text, .int v_bytes, .int v_nameFrom, .int v_names, .ref h_this_value, .int v_values, .int v_behind, .ref h_this_part, .int v_parts])), (h_this_put, .inl (cI, 300, .inl v_put)), (h_this_text, .inl (cI, 300, .inl v_text)), (h_this_value, .inl (cI, 300, .inl v_value)), (h_this_part, .inl (cI, 300, .inl v_part))] → va_S A s.heap H locs → ∀ ls : Array Slot, lv_has ls 6 [(0, .ref h_this), (1, .int x1), (2, .int x2)] → W p l e ({ frames := 2, cells := 0, slots := 0, locals := 40 }) s m args below meth c H locs 0 0 (MQ below (Qi (dC, dI) [(h_this, .inr (5, [.int v_thrownCode, .ref h_this_put, .int v_puts, .ref h_this_text, .int v_bytes, .int v_nameFrom, .int v_names, .ref h_this_value, .int v_values, .int v_behind, .ref h_this_part, .int v_parts])), (h_this_put, .inl (cI, 300, .inl v_put)), (h_this_text, .inl (cI, 300, .inl v_text)), (h_this_value, .inl (cI, 300, .inl v_value)), (h_this_part, .inl (cI, 300, .inl v_part))] A z) args s 0 0 A) (F0 m 67 ls [])) :
    ∀ (k0 : Int32) (x1 : Int32) (x2 : Int32) (x3 : Int32), f_Mo_at_125 N r67 v_parts v_part k0 x1 x2 x3 = some z → ∀ (H : Heap) (locs : List Loc), va_P (dC, dI) classes [(h_this, .inr (5, [.int v_thrownCode, .ref h_this_put, .int v_puts, .ref h_this_text, .int v_bytes, .int v_nameFrom, .int v_names, .ref h_this_value, .int v_values, .int v_behind, .ref h_this_part, .int v_parts])), (h_this_put, .inl (cI, 300, .inl v_put)), (h_this_text, .inl (cI, 300, .inl v_text)), (h_this_value, .inl (cI, 300, .inl v_value)), (h_this_part, .inl (cI, 300, .inl v_part))] H → va_D A [(h_this, .inr (5, [.int v_thrownCode, .ref h_this_put, .int v_puts, .ref h_this_text, .int v_bytes, .int v_nameFrom, .int v_names, .ref h_this_value, .int v_values, .int v_behind, .ref h_this_part, .int v_parts])), (h_this_put, .inl (cI, 300, .inl v_put)), (h_this_text, .inl (cI, 300, .inl v_text)), (h_this_value, .inl (cI, 300, .inl v_value)), (h_this_part, .inl (cI, 300, .inl v_part))] → va_S A s.heap H locs → ∀ ls : Array Slot, lv_has ls 6 [(0, .ref h_this), (1, .int x1), (2, .int x2), (3, .int x3)] → W p l e ({ frames := 2, cells := 0, slots := 0, locals := 40 }) s m args below meth c H locs 0 0 (MQ below (Qi (dC, dI) [(h_this, .inr (5, [.int v_thrownCode, .ref h_this_put, .int v_puts, .ref h_this_text, .int v_bytes, .int v_nameFrom, .int v_names, .ref h_this_value, .int v_values, .int v_behind, .ref h_this_part, .int v_parts])), (h_this_put, .inl (cI, 300, .inl v_put)), (h_this_text, .inl (cI, 300, .inl v_text)), (h_this_value, .inl (cI, 300, .inl v_value)), (h_this_part, .inl (cI, 300, .inl v_part))] A z) args s 0 0 A) (F0 m 125 ls [.int k0]) := by
  obtain ⟨hx, hb, hr, hml, hown, hts, hlk⟩ := id C
  intro k0 x1 x2 x3 h H locs hP hD hS ls hl
  rw [f_Mo_at_125] at h
  refine lv_istore (lv' := [(4, .int k0), (0, .ref h_this), (1, .int x1), (2, .int x2), (3, .int x3)]) hx hb d_Mo_at_125 hl (by decide) rfl (fun ls hl => ?_)
  refine lv_iload_n hx hb d_Mo_at_127 rfl (lv_at hl 4 rfl) ?_
  refine lv_if_eq (tgt := 151) hx hb d_Mo_at_128 (by decide) (fun c_31 => ?_) (fun c_31 => ?_)
  · replace h := itT h c_31
    exact k_Mo_at_151 C hK hA N h_this h_this_put h_this_text h_this_value h_this_part v_thrownCode v_puts v_bytes v_nameFrom v_names v_values v_behind v_put v_text v_value v_parts v_part z r67 hr67 x1 x2 x3 h _ _ hP hD hS _ (lv_sub hl [1, 2, 3, 4] rfl)
  · replace h := itF h c_31
    refine lv_iload hx hb d_Mo_at_131 (lv_at hl 0 rfl) ?_
    refine lv_if_ne (tgt := 149) hx hb d_Mo_at_133 (by decide) (fun c_32 => ?_) (fun c_32 => ?_)
    · replace h := itF h c_32
      refine lv_iconst (v := (-1)) hx hb d_Mo_at_149 (by decide) ?_
      obtain rfl := Option.some.inj h
      exact W.iret (v := (-1)) hx hb hr (fun t ht hW => ⟨⟨(-1), (), rfl, rfl, by rw [ht]; exact hP, hD⟩, hS.F ht⟩) hS.2.2 d_Mo_at_150 hlk
    · replace h := itT h c_32
      refine lv_aload_n hx hb d_Mo_at_136 rfl (lv_at hl 1 rfl) ?_
      refine va_get (D := (dC, dI)) (ci := 5) (v := .ref h_this_part) (C := R_Mo) (T := F_Mo) (N := 12) hx hb hts in_Mo hown hK.1 hP 0 rfl rfl 10 (by decide) (hts _ m_427) (fun _ h9 => h9) rfl d_Mo_at_137 ?_
      refine lv_iload_n hx hb d_Mo_at_140 rfl (lv_at hl 3 rfl) ?_
      refine lv_iconst (v := 1) hx hb d_Mo_at_141 (by decide) ?_
      refine lv_isub hx hb d_Mo_at_142 ?_
      obtain ⟨g_33, h⟩ := grd h
      refine va_iald hx hb hK.1 hP 4 1 rfl rfl (inB_in g_33) d_Mo_at_143 ?_
      refine lv_bipush (v := 46) hx hb d_Mo_at_144 (by decide) ?_
      refine lv_icmp_ne (tgt := 151) hx hb d_Mo_at_146 (by decide) (fun c_34 => ?_) (fun c_34 => ?_)
      · replace h := itF h c_34
        exact k_Mo_at_151 C hK hA N h_this h_this_put h_this_text h_this_value h_this_part v_thrownCode v_puts v_bytes v_nameFrom v_names v_values v_behind v_put v_text v_value v_parts v_part z r67 hr67 x1 x2 x3 h _ _ hP hD hS _ (lv_sub hl [1, 2, 3, 4] rfl)
      · replace h := itT h c_34
        refine lv_iconst (v := (-1)) hx hb d_Mo_at_149 (by decide) ?_
        obtain rfl := Option.some.inj h
        exact W.iret (v := (-1)) hx hb hr (fun t ht hW => ⟨⟨(-1), (), rfl, rfl, by rw [ht]; exact hP, hD⟩, hS.F ht⟩) hS.2.2 d_Mo_at_150 hlk
set_option maxHeartbeats 4000000 in
set_option maxRecDepth 100000 in
theorem k_Mo_at_120 {p : Program} {l : Launch} {e : Env} {s : State} {m : MethodId} {args : Array Value} {below : List Frame} {meth : Method} {c : Code} {dC : Nat → ClassId} {dI : Nat → Nat → Nat} {cB cI : ClassId} {aK aV : Nat → Nat} {A : Nat → Prop} (C : cx p s m args meth c R_Mo prog_7_method_10_code 6 (some .int)) (hK : kx (dC, dI) cB cI aK aV A s) (hA : ∀ q : Nat, s.heap.size ≤ q → A q) (N : Nat) (h_this h_this_put h_this_text h_this_value h_this_part : Nat) (v_thrownCode : Int32) (v_puts : Int32) (v_bytes : Int32) (v_nameFrom : Int32) (v_names : Int32) (v_values : Int32) (v_behind : Int32) (v_put : Nat → Int32) (v_text : Nat → Int32) (v_value : Nat → Int32) (v_parts : Int32) (v_part : Nat → Int32) (z : Int32) (r67 : Int32 → Int32 → Option (Int32)) (hr67 : ∀ (x1 : Int32) (x2 : Int32), r67 x1 x2 = some z → ∀ (H : Heap) (locs : List Loc), va_P (dC, dI) classes [(h_this, .inr (5, [.int v_thrownCode, .ref h_this_put, .int v_puts, .ref h_this_text, .int v_bytes, .int v_nameFrom, .int v_names, .ref h_this_value, .int v_values, .int v_behind, .ref h_this_part, .int v_parts])), (h_this_put, .inl (cI, 300, .inl v_put)), (h_this_text, .inl (cI, 300, .inl v_text)), (h_this_value, .inl (cI, 300, .inl v_value)), (h_this_part, .inl (cI, 300, .inl v_part))] H → va_D A [(h_this, .inr (5, [.int v_thrownCode, .ref h_this_put, .int v_puts, .ref h_this_text, .int v_bytes, .int v_nameFrom, .int v_names, .ref h_this_value, .int v_values, .int v_behind, .ref h_this_part, .int v_parts])), (h_this_put, .inl (cI, 300, .inl v_put)), (h_this_text, .inl (cI, 300, .inl v_text)), (h_this_value, .inl (cI, 300, .inl v_value)), (h_this_part, .inl (cI, 300, .inl v_part))] → va_S A s.heap H locs → ∀ ls : Array Slot, lv_has ls 6 [(0, .ref h_this), (1, .int x1), (2, .int x2)] → W p l e ({ frames := 2, cells := 0, slots := 0, locals := 40 }) s m args below meth c H locs 0 0 (MQ below (Qi (dC, dI) [(h_this, .inr (5, [.int v_thrownCode, .ref h_this_put, .int v_puts, .ref h_this_text, .int v_bytes, .int v_nameFrom, .int v_names, .ref h_this_value, .int v_values, .int v_behind, .ref h_this_part, .int v_parts])), (h_this_put, .inl (cI, 300, .inl v_put)), (h_this_text, .inl (cI, 300, .inl v_text)), (h_this_value, .inl (cI, 300, .inl v_value)), (h_this_part, .inl (cI, 300, .inl v_part))] A z) args s 0 0 A) (F0 m 67 ls [])) :
    ∀ (x1 : Int32) (x2 : Int32) (x3 : Int32), f_Mo_at_120 N r67 v_parts v_part x1 x2 x3 = some z → ∀ (H : Heap) (locs : List Loc), va_P (dC, dI) classes [(h_this, .inr (5, [.int v_thrownCode, .ref h_this_put, .int v_puts, .ref h_this_text, .int v_bytes, .int v_nameFrom, .int v_names, .ref h_this_value, .int v_values, .int v_behind, .ref h_this_part, .int v_parts])), (h_this_put, .inl (cI, 300, .inl v_put)), (h_this_text, .inl (cI, 300, .inl v_text)), (h_this_value, .inl (cI, 300, .inl v_value)), (h_this_part, .inl (cI, 300, .inl v_part))] H → va_D A [(h_this, .inr (5, [.int v_thrownCode, .ref h_this_put, .int v_puts, .ref h_this_text, .int v_bytes, .int v_nameFrom, .int v_names, .ref h_this_value, .int v_values, .int v_behind, .ref h_this_part, .int v_parts])), (h_this_put, .inl (cI, 300, .inl v_put)), (h_this_text, .inl (cI, 300, .inl v_text)), (h_this_value, .inl (cI, 300, .inl v_value)), (h_this_part, .inl (cI, 300, .inl v_part))] → va_S A s.heap H locs → ∀ ls : Array Slot, lv_has ls 6 [(0, .ref h_this), (1, .int x1), (2, .int x2), (3, .int x3)] → W p l e ({ frames := 2, cells := 0, slots := 0, locals := 40 }) s m args below meth c H locs 0 0 (MQ below (Qi (dC, dI) [(h_this, .inr (5, [.int v_thrownCode, .ref h_this_put, .int v_puts, .ref h_this_text, .int v_bytes, .int v_nameFrom, .int v_names, .ref h_this_value, .int v_values, .int v_behind, .ref h_this_part, .int v_parts])), (h_this_put, .inl (cI, 300, .inl v_put)), (h_this_text, .inl (cI, 300, .inl v_text)), (h_this_value, .inl (cI, 300, .inl v_value)), (h_this_part, .inl (cI, 300, .inl v_part))] A z) args s 0 0 A) (F0 m 120 ls []) := by
  obtain ⟨hx, hb, hr, hml, hown, hts, hlk⟩ := id C
  intro x1 x2 x3 h H locs hP hD hS ls hl
  rw [f_Mo_at_120] at h
  refine lv_iconst (v := 1) hx hb d_Mo_at_120 (by decide) ?_
  refine lv_goto (tgt := 125) hx hb d_Mo_at_121 (by decide) ?_
  exact k_Mo_at_125 C hK hA N h_this h_this_put h_this_text h_this_value h_this_part v_thrownCode v_puts v_bytes v_nameFrom v_names v_values v_behind v_put v_text v_value v_parts v_part z r67 hr67 1 x1 x2 x3 h _ _ hP hD hS _ (lv_sub hl [0, 1, 2, 3] rfl)
set_option maxHeartbeats 4000000 in
set_option maxRecDepth 100000 in
theorem k_Mo_at_91 {p : Program} {l : Launch} {e : Env} {s : State} {m : MethodId} {args : Array Value} {below : List Frame} {meth : Method} {c : Code} {dC : Nat → ClassId} {dI : Nat → Nat → Nat} {cB cI : ClassId} {aK aV : Nat → Nat} {A : Nat → Prop} (C : cx p s m args meth c R_Mo prog_7_method_10_code 6 (some .int)) (hK : kx (dC, dI) cB cI aK aV A s) (hA : ∀ q : Nat, s.heap.size ≤ q → A q) (N : Nat) (h_this h_this_put h_this_text h_this_value h_this_part : Nat) (v_thrownCode : Int32) (v_puts : Int32) (v_bytes : Int32) (v_nameFrom : Int32) (v_names : Int32) (v_values : Int32) (v_behind : Int32) (v_put : Nat → Int32) (v_text : Nat → Int32) (v_value : Nat → Int32) (v_parts : Int32) (v_part : Nat → Int32) (z : Int32) (r67 : Int32 → Int32 → Option (Int32)) (hr67 : ∀ (x1 : Int32) (x2 : Int32), r67 x1 x2 = some z → ∀ (H : Heap) (locs : List Loc), va_P (dC, dI) classes [(h_this, .inr (5, [.int v_thrownCode, .ref h_this_put, .int v_puts, .ref h_this_text, .int v_bytes, .int v_nameFrom, .int v_names, .ref h_this_value, .int v_values, .int v_behind, .ref h_this_part, .int v_parts])), (h_this_put, .inl (cI, 300, .inl v_put)), (h_this_text, .inl (cI, 300, .inl v_text)), (h_this_value, .inl (cI, 300, .inl v_value)), (h_this_part, .inl (cI, 300, .inl v_part))] H → va_D A [(h_this, .inr (5, [.int v_thrownCode, .ref h_this_put, .int v_puts, .ref h_this_text, .int v_bytes, .int v_nameFrom, .int v_names, .ref h_this_value, .int v_values, .int v_behind, .ref h_this_part, .int v_parts])), (h_this_put, .inl (cI, 300, .inl v_put)), (h_this_text, .inl (cI, 300, .inl v_text)), (h_this_value, .inl (cI, 300, .inl v_value)), (h_this_part, .inl (cI, 300, .inl v_part))] → va_S A s.heap H locs → ∀ ls : Array Slot, lv_has ls 6 [(0, .ref h_this), (1, .int x1), (2, .int x2)] → W p l e ({ frames := 2, cells := 0, slots := 0, locals := 40 }) s m args below meth c H locs 0 0 (MQ below (Qi (dC, dI) [(h_this, .inr (5, [.int v_thrownCode, .ref h_this_put, .int v_puts, .ref h_this_text, .int v_bytes, .int v_nameFrom, .int v_names, .ref h_this_value, .int v_values, .int v_behind, .ref h_this_part, .int v_parts])), (h_this_put, .inl (cI, 300, .inl v_put)), (h_this_text, .inl (cI, 300, .inl v_text)), (h_this_value, .inl (cI, 300, .inl v_value)), (h_this_part, .inl (cI, 300, .inl v_part))] A z) args s 0 0 A) (F0 m 67 ls [])) :
    ∀ (k0 : Int32) (x1 : Int32) (x2 : Int32), f_Mo_at_91 N r67 v_parts v_part k0 x1 x2 = some z → ∀ (H : Heap) (locs : List Loc), va_P (dC, dI) classes [(h_this, .inr (5, [.int v_thrownCode, .ref h_this_put, .int v_puts, .ref h_this_text, .int v_bytes, .int v_nameFrom, .int v_names, .ref h_this_value, .int v_values, .int v_behind, .ref h_this_part, .int v_parts])), (h_this_put, .inl (cI, 300, .inl v_put)), (h_this_text, .inl (cI, 300, .inl v_text)), (h_this_value, .inl (cI, 300, .inl v_value)), (h_this_part, .inl (cI, 300, .inl v_part))] H → va_D A [(h_this, .inr (5, [.int v_thrownCode, .ref h_this_put, .int v_puts, .ref h_this_text, .int v_bytes, .int v_nameFrom, .int v_names, .ref h_this_value, .int v_values, .int v_behind, .ref h_this_part, .int v_parts])), (h_this_put, .inl (cI, 300, .inl v_put)), (h_this_text, .inl (cI, 300, .inl v_text)), (h_this_value, .inl (cI, 300, .inl v_value)), (h_this_part, .inl (cI, 300, .inl v_part))] → va_S A s.heap H locs → ∀ ls : Array Slot, lv_has ls 6 [(0, .ref h_this), (1, .int x1), (2, .int x2)] → W p l e ({ frames := 2, cells := 0, slots := 0, locals := 40 }) s m args below meth c H locs 0 0 (MQ below (Qi (dC, dI) [(h_this, .inr (5, [.int v_thrownCode, .ref h_this_put, .int v_puts, .ref h_this_text, .int v_bytes, .int v_nameFrom, .int v_names, .ref h_this_value, .int v_values, .int v_behind, .ref h_this_part, .int v_parts])), (h_this_put, .inl (cI, 300, .inl v_put)), (h_this_text, .inl (cI, 300, .inl v_text)), (h_this_value, .inl (cI, 300, .inl v_value)), (h_this_part, .inl (cI, 300, .inl v_part))] A z) args s 0 0 A) (F0 m 91 ls [.int k0]) := by
  obtain ⟨hx, hb, hr, hml, hown, hts, hlk⟩ := id C
  intro k0 x1 x2 h H locs hP hD hS ls hl
  rw [f_Mo_at_91] at h
  refine lv_istore_n (lv' := [(3, .int k0), (0, .ref h_this), (1, .int x1), (2, .int x2)]) hx hb d_Mo_at_91 rfl hl (by decide) rfl (fun ls hl => ?_)
  refine lv_iload_n hx hb d_Mo_at_92 rfl (lv_at hl 3 rfl) ?_
  refine lv_if_eq (tgt := 120) hx hb d_Mo_at_93 (by decide) (fun c_27 => ?_) (fun c_27 => ?_)
  · replace h := itT h c_27
    exact k_Mo_at_120 C hK hA N h_this h_this_put h_this_text h_this_value h_this_part v_thrownCode v_puts v_bytes v_nameFrom v_names v_values v_behind v_put v_text v_value v_parts v_part z r67 hr67 x1 x2 k0 h _ _ hP hD hS _ (lv_sub hl [1, 2, 3, 0] rfl)
  · replace h := itF h c_27
    refine lv_iload_n hx hb d_Mo_at_96 rfl (lv_at hl 3 rfl) ?_
    refine lv_iload_n hx hb d_Mo_at_97 rfl (lv_at hl 2 rfl) ?_
    refine lv_iconst (v := 1) hx hb d_Mo_at_98 (by decide) ?_
    refine lv_isub hx hb d_Mo_at_99 ?_
    refine lv_icmp_eq (tgt := 120) hx hb d_Mo_at_100 (by decide) (fun c_28 => ?_) (fun c_28 => ?_)
    · replace h := itT h c_28
      exact k_Mo_at_120 C hK hA N h_this h_this_put h_this_text h_this_value h_this_part v_thrownCode v_puts v_bytes v_nameFrom v_names v_values v_behind v_put v_text v_value v_parts v_part z r67 hr67 x1 x2 k0 h _ _ hP hD hS _ (lv_sub hl [1, 2, 3, 0] rfl)
    · replace h := itF h c_28
      refine lv_iload_n hx hb d_Mo_at_103 rfl (lv_at hl 3 rfl) ?_
      refine lv_iload_n hx hb d_Mo_at_104 rfl (lv_at hl 2 rfl) ?_
      refine lv_iconst (v := 1) hx hb d_Mo_at_105 (by decide) ?_
      refine lv_iadd hx hb d_Mo_at_106 ?_
      refine lv_icmp_eq (tgt := 120) hx hb d_Mo_at_107 (by decide) (fun c_29 => ?_) (fun c_29 => ?_)
      · replace h := itT h c_29
        exact k_Mo_at_120 C hK hA N h_this h_this_put h_this_text h_this_value h_this_part v_thrownCode v_puts v_bytes v_nameFrom v_names v_values v_behind v_put v_text v_value v_parts v_part z r67 hr67 x1 x2 k0 h _ _ hP hD hS _ (lv_sub hl [1, 2, 3, 0] rfl)
      · replace h := itF h c_29
        refine lv_iload_n hx hb d_Mo_at_110 rfl (lv_at hl 3 rfl) ?_
        refine lv_aload_n hx hb d_Mo_at_111 rfl (lv_at hl 1 rfl) ?_
        refine va_get (D := (dC, dI)) (ci := 5) (v := .int v_parts) (C := R_Mo) (T := F_Mo) (N := 12) hx hb hts in_Mo hown hK.1 hP 0 rfl rfl 11 (by decide) (hts _ m_428) (fun _ h9 => h9) rfl d_Mo_at_112 ?_
        refine lv_iconst (v := 1) hx hb d_Mo_at_115 (by decide) ?_
        refine lv_isub hx hb d_Mo_at_116 ?_
        refine lv_icmp_ne (tgt := 124) hx hb d_Mo_at_117 (by decide) (fun c_30 => ?_) (fun c_30 => ?_)
        · replace h := itF h c_30
          refine lv_iconst (v := 0) hx hb d_Mo_at_124 (by decide) ?_
          exact k_Mo_at_125 C hK hA N h_this h_this_put h_this_text h_this_value h_this_part v_thrownCode v_puts v_bytes v_nameFrom v_names v_values v_behind v_put v_text v_value v_parts v_part z r67 hr67 0 x1 x2 k0 h _ _ hP hD hS _ (lv_sub hl [1, 2, 3, 0] rfl)
        · replace h := itT h c_30
          exact k_Mo_at_120 C hK hA N h_this h_this_put h_this_text h_this_value h_this_part v_thrownCode v_puts v_bytes v_nameFrom v_names v_values v_behind v_put v_text v_value v_parts v_part z r67 hr67 x1 x2 k0 h _ _ hP hD hS _ (lv_sub hl [1, 2, 3, 0] rfl)
set_option maxHeartbeats 4000000 in
set_option maxRecDepth 100000 in
theorem k_Mo_at_67 {p : Program} {l : Launch} {e : Env} {s : State} {m : MethodId} {args : Array Value} {below : List Frame} {meth : Method} {c : Code} {dC : Nat → ClassId} {dI : Nat → Nat → Nat} {cB cI : ClassId} {aK aV : Nat → Nat} {A : Nat → Prop} (C : cx p s m args meth c R_Mo prog_7_method_10_code 6 (some .int)) (hK : kx (dC, dI) cB cI aK aV A s) (hA : ∀ q : Nat, s.heap.size ≤ q → A q) (N : Nat) (h_this h_this_put h_this_text h_this_value h_this_part : Nat) (v_thrownCode : Int32) (v_puts : Int32) (v_bytes : Int32) (v_nameFrom : Int32) (v_names : Int32) (v_values : Int32) (v_behind : Int32) (v_put : Nat → Int32) (v_text : Nat → Int32) (v_value : Nat → Int32) (v_parts : Int32) (v_part : Nat → Int32) (z : Int32) :
    ∀ (n : Nat), ∀ (x1 : Int32) (x2 : Int32), f_Mo_at_67 N v_parts v_part n x1 x2 = some z → ∀ (H : Heap) (locs : List Loc), va_P (dC, dI) classes [(h_this, .inr (5, [.int v_thrownCode, .ref h_this_put, .int v_puts, .ref h_this_text, .int v_bytes, .int v_nameFrom, .int v_names, .ref h_this_value, .int v_values, .int v_behind, .ref h_this_part, .int v_parts])), (h_this_put, .inl (cI, 300, .inl v_put)), (h_this_text, .inl (cI, 300, .inl v_text)), (h_this_value, .inl (cI, 300, .inl v_value)), (h_this_part, .inl (cI, 300, .inl v_part))] H → va_D A [(h_this, .inr (5, [.int v_thrownCode, .ref h_this_put, .int v_puts, .ref h_this_text, .int v_bytes, .int v_nameFrom, .int v_names, .ref h_this_value, .int v_values, .int v_behind, .ref h_this_part, .int v_parts])), (h_this_put, .inl (cI, 300, .inl v_put)), (h_this_text, .inl (cI, 300, .inl v_text)), (h_this_value, .inl (cI, 300, .inl v_value)), (h_this_part, .inl (cI, 300, .inl v_part))] → va_S A s.heap H locs → ∀ ls : Array Slot, lv_has ls 6 [(0, .ref h_this), (1, .int x1), (2, .int x2)] → W p l e ({ frames := 2, cells := 0, slots := 0, locals := 40 }) s m args below meth c H locs 0 0 (MQ below (Qi (dC, dI) [(h_this, .inr (5, [.int v_thrownCode, .ref h_this_put, .int v_puts, .ref h_this_text, .int v_bytes, .int v_nameFrom, .int v_names, .ref h_this_value, .int v_values, .int v_behind, .ref h_this_part, .int v_parts])), (h_this_put, .inl (cI, 300, .inl v_put)), (h_this_text, .inl (cI, 300, .inl v_text)), (h_this_value, .inl (cI, 300, .inl v_value)), (h_this_part, .inl (cI, 300, .inl v_part))] A z) args s 0 0 A) (F0 m 67 ls []) := by
  obtain ⟨hx, hb, hr, hml, hown, hts, hlk⟩ := id C
  intro n
  induction n with
  | zero =>
    intro x1 x2 h
    rw [f_Mo_at_67] at h
    cases h
  | succ n ih =>
    intro x1 x2 h H locs hP hD hS ls hl
    rw [f_Mo_at_67] at h
    refine lv_iload_n hx hb d_Mo_at_67 rfl (lv_at hl 2 rfl) ?_
    refine lv_aload_n hx hb d_Mo_at_68 rfl (lv_at hl 0 rfl) ?_
    refine va_get (D := (dC, dI)) (ci := 5) (v := .int v_parts) (C := R_Mo) (T := F_Mo) (N := 12) hx hb hts in_Mo hown hK.1 hP 0 rfl rfl 11 (by decide) (hts _ m_428) (fun _ h9 => h9) rfl d_Mo_at_69 ?_
    refine lv_icmp_ge (tgt := 220) hx hb d_Mo_at_72 (by decide) (fun c_4 => ?_) (fun c_4 => ?_)
    · replace h := itT h c_4
      refine lv_iload_n hx hb d_Mo_at_220 rfl (lv_at hl 1 rfl) ?_
      obtain rfl := Option.some.inj h
      exact W.iret (v := x1) hx hb hr (fun t ht hW => ⟨⟨x1, (), rfl, rfl, by rw [ht]; exact hP, hD⟩, hS.F ht⟩) hS.2.2 d_Mo_at_221 hlk
    · replace h := itF h c_4
      refine lv_aload_n hx hb d_Mo_at_75 rfl (lv_at hl 0 rfl) ?_
      refine va_get (D := (dC, dI)) (ci := 5) (v := .ref h_this_part) (C := R_Mo) (T := F_Mo) (N := 12) hx hb hts in_Mo hown hK.1 hP 0 rfl rfl 10 (by decide) (hts _ m_427) (fun _ h9 => h9) rfl d_Mo_at_76 ?_
      refine lv_iload_n hx hb d_Mo_at_79 rfl (lv_at hl 2 rfl) ?_
      obtain ⟨g_5, h⟩ := grd h
      refine va_iald hx hb hK.1 hP 4 1 rfl rfl (inB_in g_5) d_Mo_at_80 ?_
      refine lv_bipush (v := 46) hx hb d_Mo_at_81 (by decide) ?_
      refine lv_icmp_ne (tgt := 90) hx hb d_Mo_at_83 (by decide) (fun c_6 => ?_) (fun c_6 => ?_)
      · replace h := itF h c_6
        refine lv_iconst (v := 0) hx hb d_Mo_at_90 (by decide) ?_
        exact k_Mo_at_91 C hK hA N h_this h_this_put h_this_text h_this_value h_this_part v_thrownCode v_puts v_bytes v_nameFrom v_names v_values v_behind v_put v_text v_value v_parts v_part z (f_Mo_at_67 N v_parts v_part n) ih 0 x1 x2 h _ _ hP hD hS _ (lv_sub hl [0, 1, 2] rfl)
      · replace h := itT h c_6
        refine lv_iconst (v := 1) hx hb d_Mo_at_86 (by decide) ?_
        refine lv_goto (tgt := 91) hx hb d_Mo_at_87 (by decide) ?_
        exact k_Mo_at_91 C hK hA N h_this h_this_put h_this_text h_this_value h_this_part v_thrownCode v_puts v_bytes v_nameFrom v_names v_values v_behind v_put v_text v_value v_parts v_part z (f_Mo_at_67 N v_parts v_part n) ih 1 x1 x2 h _ _ hP hD hS _ (lv_sub hl [0, 1, 2] rfl)
set_option maxHeartbeats 4000000 in
set_option maxRecDepth 100000 in
theorem k_Mo_at_27 {p : Program} {l : Launch} {e : Env} {s : State} {m : MethodId} {args : Array Value} {below : List Frame} {meth : Method} {c : Code} {dC : Nat → ClassId} {dI : Nat → Nat → Nat} {cB cI : ClassId} {aK aV : Nat → Nat} {A : Nat → Prop} (C : cx p s m args meth c R_Mo prog_7_method_10_code 6 (some .int)) (hK : kx (dC, dI) cB cI aK aV A s) (hA : ∀ q : Nat, s.heap.size ≤ q → A q) (N : Nat) (h_this h_this_put h_this_text h_this_value h_this_part : Nat) (v_thrownCode : Int32) (v_puts : Int32) (v_bytes : Int32) (v_nameFrom : Int32) (v_names : Int32) (v_values : Int32) (v_behind : Int32) (v_put : Nat → Int32) (v_text : Nat → Int32) (v_value : Nat → Int32) (v_parts : Int32) (v_part : Nat → Int32) (z : Int32) :
    ∀ (x1 : Int32), f_Mo_at_27 N v_parts v_part x1 = some z → ∀ (H : Heap) (locs : List Loc), va_P (dC, dI) classes [(h_this, .inr (5, [.int v_thrownCode, .ref h_this_put, .int v_puts, .ref h_this_text, .int v_bytes, .int v_nameFrom, .int v_names, .ref h_this_value, .int v_values, .int v_behind, .ref h_this_part, .int v_parts])), (h_this_put, .inl (cI, 300, .inl v_put)), (h_this_text, .inl (cI, 300, .inl v_text)), (h_this_value, .inl (cI, 300, .inl v_value)), (h_this_part, .inl (cI, 300, .inl v_part))] H → va_D A [(h_this, .inr (5, [.int v_thrownCode, .ref h_this_put, .int v_puts, .ref h_this_text, .int v_bytes, .int v_nameFrom, .int v_names, .ref h_this_value, .int v_values, .int v_behind, .ref h_this_part, .int v_parts])), (h_this_put, .inl (cI, 300, .inl v_put)), (h_this_text, .inl (cI, 300, .inl v_text)), (h_this_value, .inl (cI, 300, .inl v_value)), (h_this_part, .inl (cI, 300, .inl v_part))] → va_S A s.heap H locs → ∀ ls : Array Slot, lv_has ls 6 [(0, .ref h_this), (1, .int x1)] → W p l e ({ frames := 2, cells := 0, slots := 0, locals := 40 }) s m args below meth c H locs 0 0 (MQ below (Qi (dC, dI) [(h_this, .inr (5, [.int v_thrownCode, .ref h_this_put, .int v_puts, .ref h_this_text, .int v_bytes, .int v_nameFrom, .int v_names, .ref h_this_value, .int v_values, .int v_behind, .ref h_this_part, .int v_parts])), (h_this_put, .inl (cI, 300, .inl v_put)), (h_this_text, .inl (cI, 300, .inl v_text)), (h_this_value, .inl (cI, 300, .inl v_value)), (h_this_part, .inl (cI, 300, .inl v_part))] A z) args s 0 0 A) (F0 m 27 ls []) := by
  obtain ⟨hx, hb, hr, hml, hown, hts, hlk⟩ := id C
  intro x1 h H locs hP hD hS ls hl
  rw [f_Mo_at_27] at h
  refine lv_iload_n hx hb d_Mo_at_27 rfl (lv_at hl 1 rfl) ?_
  refine lv_iconst (v := 1) hx hb d_Mo_at_28 (by decide) ?_
  refine lv_icmp_lt (tgt := 63) hx hb d_Mo_at_29 (by decide) (fun c_23 => ?_) (fun c_23 => ?_)
  · replace h := itT h c_23
    refine lv_iconst (v := (-1)) hx hb d_Mo_at_63 (by decide) ?_
    obtain rfl := Option.some.inj h
    exact W.iret (v := (-1)) hx hb hr (fun t ht hW => ⟨⟨(-1), (), rfl, rfl, by rw [ht]; exact hP, hD⟩, hS.F ht⟩) hS.2.2 d_Mo_at_64 hlk
  · replace h := itF h c_23
    refine lv_iload_n hx hb d_Mo_at_32 rfl (lv_at hl 1 rfl) ?_
    refine lv_bipush (v := 40) hx hb d_Mo_at_33 (by decide) ?_
    refine lv_icmp_gt (tgt := 63) hx hb d_Mo_at_35 (by decide) (fun c_24 => ?_) (fun c_24 => ?_)
    · replace h := itT h c_24
      refine lv_iconst (v := (-1)) hx hb d_Mo_at_63 (by decide) ?_
      obtain rfl := Option.some.inj h
      exact W.iret (v := (-1)) hx hb hr (fun t ht hW => ⟨⟨(-1), (), rfl, rfl, by rw [ht]; exact hP, hD⟩, hS.F ht⟩) hS.2.2 d_Mo_at_64 hlk
    · replace h := itF h c_24
      refine lv_aload_n hx hb d_Mo_at_38 rfl (lv_at hl 0 rfl) ?_
      refine va_get (D := (dC, dI)) (ci := 5) (v := .int v_parts) (C := R_Mo) (T := F_Mo) (N := 12) hx hb hts in_Mo hown hK.1 hP 0 rfl rfl 11 (by decide) (hts _ m_428) (fun _ h9 => h9) rfl d_Mo_at_39 ?_
      refine lv_iload_n hx hb d_Mo_at_42 rfl (lv_at hl 1 rfl) ?_
      refine lv_isub hx hb d_Mo_at_43 ?_
      refine lv_iconst (v := 1) hx hb d_Mo_at_44 (by decide) ?_
      refine lv_isub hx hb d_Mo_at_45 ?_
      refine lv_iconst (v := 1) hx hb d_Mo_at_46 (by decide) ?_
      refine lv_icmp_lt (tgt := 63) hx hb d_Mo_at_47 (by decide) (fun c_25 => ?_) (fun c_25 => ?_)
      · replace h := itT h c_25
        refine lv_iconst (v := (-1)) hx hb d_Mo_at_63 (by decide) ?_
        obtain rfl := Option.some.inj h
        exact W.iret (v := (-1)) hx hb hr (fun t ht hW => ⟨⟨(-1), (), rfl, rfl, by rw [ht]; exact hP, hD⟩, hS.F ht⟩) hS.2.2 d_Mo_at_64 hlk
      · replace h := itF h c_25
        refine lv_aload_n hx hb d_Mo_at_50 rfl (lv_at hl 0 rfl) ?_
        refine va_get (D := (dC, dI)) (ci := 5) (v := .int v_parts) (C := R_Mo) (T := F_Mo) (N := 12) hx hb hts in_Mo hown hK.1 hP 0 rfl rfl 11 (by decide) (hts _ m_428) (fun _ h9 => h9) rfl d_Mo_at_51 ?_
        refine lv_iload_n hx hb d_Mo_at_54 rfl (lv_at hl 1 rfl) ?_
        refine lv_isub hx hb d_Mo_at_55 ?_
        refine lv_iconst (v := 1) hx hb d_Mo_at_56 (by decide) ?_
        refine lv_isub hx hb d_Mo_at_57 ?_
        refine lv_bipush (v := 60) hx hb d_Mo_at_58 (by decide) ?_
        refine lv_icmp_le (tgt := 65) hx hb d_Mo_at_60 (by decide) (fun c_26 => ?_) (fun c_26 => ?_)
        · replace h := itT h c_26
          refine lv_iconst (v := 0) hx hb d_Mo_at_65 (by decide) ?_
          refine lv_istore_n (lv' := [(2, .int 0), (0, .ref h_this), (1, .int x1)]) hx hb d_Mo_at_66 rfl hl (by decide) rfl (fun ls hl => ?_)
          exact k_Mo_at_67 C hK hA N h_this h_this_put h_this_text h_this_value h_this_part v_thrownCode v_puts v_bytes v_nameFrom v_names v_values v_behind v_put v_text v_value v_parts v_part z N x1 0 h _ _ hP hD hS _ (lv_sub hl [1, 2, 0] rfl)
        · replace h := itF h c_26
          refine lv_iconst (v := (-1)) hx hb d_Mo_at_63 (by decide) ?_
          obtain rfl := Option.some.inj h
          exact W.iret (v := (-1)) hx hb hr (fun t ht hW => ⟨⟨(-1), (), rfl, rfl, by rw [ht]; exact hP, hD⟩, hS.F ht⟩) hS.2.2 d_Mo_at_64 hlk
set_option maxHeartbeats 4000000 in
set_option maxRecDepth 100000 in
theorem k_Mo_at_2 {p : Program} {l : Launch} {e : Env} {s : State} {m : MethodId} {args : Array Value} {below : List Frame} {meth : Method} {c : Code} {dC : Nat → ClassId} {dI : Nat → Nat → Nat} {cB cI : ClassId} {aK aV : Nat → Nat} {A : Nat → Prop} (C : cx p s m args meth c R_Mo prog_7_method_10_code 6 (some .int)) (hK : kx (dC, dI) cB cI aK aV A s) (hA : ∀ q : Nat, s.heap.size ≤ q → A q) (N : Nat) (h_this h_this_put h_this_text h_this_value h_this_part : Nat) (v_thrownCode : Int32) (v_puts : Int32) (v_bytes : Int32) (v_nameFrom : Int32) (v_names : Int32) (v_values : Int32) (v_behind : Int32) (v_put : Nat → Int32) (v_text : Nat → Int32) (v_value : Nat → Int32) (v_parts : Int32) (v_part : Nat → Int32) (z : Int32) :
    ∀ (n : Nat), ∀ (x1 : Int32), f_Mo_at_2 N v_parts v_part n x1 = some z → ∀ (H : Heap) (locs : List Loc), va_P (dC, dI) classes [(h_this, .inr (5, [.int v_thrownCode, .ref h_this_put, .int v_puts, .ref h_this_text, .int v_bytes, .int v_nameFrom, .int v_names, .ref h_this_value, .int v_values, .int v_behind, .ref h_this_part, .int v_parts])), (h_this_put, .inl (cI, 300, .inl v_put)), (h_this_text, .inl (cI, 300, .inl v_text)), (h_this_value, .inl (cI, 300, .inl v_value)), (h_this_part, .inl (cI, 300, .inl v_part))] H → va_D A [(h_this, .inr (5, [.int v_thrownCode, .ref h_this_put, .int v_puts, .ref h_this_text, .int v_bytes, .int v_nameFrom, .int v_names, .ref h_this_value, .int v_values, .int v_behind, .ref h_this_part, .int v_parts])), (h_this_put, .inl (cI, 300, .inl v_put)), (h_this_text, .inl (cI, 300, .inl v_text)), (h_this_value, .inl (cI, 300, .inl v_value)), (h_this_part, .inl (cI, 300, .inl v_part))] → va_S A s.heap H locs → ∀ ls : Array Slot, lv_has ls 6 [(0, .ref h_this), (1, .int x1)] → W p l e ({ frames := 2, cells := 0, slots := 0, locals := 40 }) s m args below meth c H locs 0 0 (MQ below (Qi (dC, dI) [(h_this, .inr (5, [.int v_thrownCode, .ref h_this_put, .int v_puts, .ref h_this_text, .int v_bytes, .int v_nameFrom, .int v_names, .ref h_this_value, .int v_values, .int v_behind, .ref h_this_part, .int v_parts])), (h_this_put, .inl (cI, 300, .inl v_put)), (h_this_text, .inl (cI, 300, .inl v_text)), (h_this_value, .inl (cI, 300, .inl v_value)), (h_this_part, .inl (cI, 300, .inl v_part))] A z) args s 0 0 A) (F0 m 2 ls []) := by
  obtain ⟨hx, hb, hr, hml, hown, hts, hlk⟩ := id C
  intro n
  induction n with
  | zero =>
    intro x1 h
    rw [f_Mo_at_2] at h
    cases h
  | succ n ih =>
    intro x1 h H locs hP hD hS ls hl
    rw [f_Mo_at_2] at h
    refine lv_iload_n hx hb d_Mo_at_2 rfl (lv_at hl 1 rfl) ?_
    refine lv_aload_n hx hb d_Mo_at_3 rfl (lv_at hl 0 rfl) ?_
    refine va_get (D := (dC, dI)) (ci := 5) (v := .int v_parts) (C := R_Mo) (T := F_Mo) (N := 12) hx hb hts in_Mo hown hK.1 hP 0 rfl rfl 11 (by decide) (hts _ m_428) (fun _ h9 => h9) rfl d_Mo_at_4 ?_
    refine lv_icmp_ge (tgt := 27) hx hb d_Mo_at_7 (by decide) (fun c_1 => ?_) (fun c_1 => ?_)
    · replace h := itT h c_1
      exact k_Mo_at_27 C hK hA N h_this h_this_put h_this_text h_this_value h_this_part v_thrownCode v_puts v_bytes v_nameFrom v_names v_values v_behind v_put v_text v_value v_parts v_part z x1 h _ _ hP hD hS _ (lv_sub hl [0, 1] rfl)
    · replace h := itF h c_1
      refine lv_aload_n hx hb d_Mo_at_10 rfl (lv_at hl 0 rfl) ?_
      refine va_get (D := (dC, dI)) (ci := 5) (v := .ref h_this_part) (C := R_Mo) (T := F_Mo) (N := 12) hx hb hts in_Mo hown hK.1 hP 0 rfl rfl 10 (by decide) (hts _ m_427) (fun _ h9 => h9) rfl d_Mo_at_11 ?_
      refine lv_iload_n hx hb d_Mo_at_14 rfl (lv_at hl 1 rfl) ?_
      obtain ⟨g_2, h⟩ := grd h
      refine va_iald hx hb hK.1 hP 4 1 rfl rfl (inB_in g_2) d_Mo_at_15 ?_
      refine lv_bipush (v := 64) hx hb d_Mo_at_16 (by decide) ?_
      refine lv_icmp_eq (tgt := 27) hx hb d_Mo_at_18 (by decide) (fun c_3 => ?_) (fun c_3 => ?_)
      · replace h := itT h c_3
        exact k_Mo_at_27 C hK hA N h_this h_this_put h_this_text h_this_value h_this_part v_thrownCode v_puts v_bytes v_nameFrom v_names v_values v_behind v_put v_text v_value v_parts v_part z x1 h _ _ hP hD hS _ (lv_sub hl [0, 1] rfl)
      · replace h := itF h c_3
        refine lv_iinc (v := x1 + 1) (lv' := [(1, .int (x1 + 1)), (0, .ref h_this)]) hx hb d_Mo_at_21 hl (k := 1) rfl rfl (by decide) rfl (fun ls hl => ?_)
        refine lv_goto (tgt := 2) hx hb d_Mo_at_24 (by decide) ?_
        exact ih (x1 + 1) h _ _ hP hD hS _ (lv_sub hl [1, 0] rfl)
set_option maxHeartbeats 4000000 in
set_option maxRecDepth 100000 in
theorem c_Mo_at {l : Launch} {dC : Nat → ClassId} {dI : Nat → Nat → Nat} {cB cI : ClassId} {aK aV : Nat → Nat} (N : Nat) (h_this h_this_put h_this_text h_this_value h_this_part : Nat) (v_thrownCode : Int32) (v_puts : Int32) (v_bytes : Int32) (v_nameFrom : Int32) (v_names : Int32) (v_values : Int32) (v_behind : Int32) (v_parts : Int32) (v_put : Nat → Int32) (v_text : Nat → Int32) (v_value : Nat → Int32) (v_part : Nat → Int32) (z : Int32) (h : f_Mo_at N v_parts v_part = some z) : Ci l y_Mo_at prog_7_method_10_code 6 (some .int) ({ frames := 2, cells := 0, slots := 0, locals := 40 }) (dC, dI) cB cI aK aV [.ref h_this] [(h_this, .inr (5, [.int v_thrownCode, .ref h_this_put, .int v_puts, .ref h_this_text, .int v_bytes, .int v_nameFrom, .int v_names, .ref h_this_value, .int v_values, .int v_behind, .ref h_this_part, .int v_parts])), (h_this_put, .inl (cI, 300, .inl v_put)), (h_this_text, .inl (cI, 300, .inl v_text)), (h_this_value, .inl (cI, 300, .inl v_value)), (h_this_part, .inl (cI, 300, .inl v_part))] (fun A => (Qi (dC, dI) [(h_this, .inr (5, [.int v_thrownCode, .ref h_this_put, .int v_puts, .ref h_this_text, .int v_bytes, .int v_nameFrom, .int v_names, .ref h_this_value, .int v_values, .int v_behind, .ref h_this_part, .int v_parts])), (h_this_put, .inl (cI, 300, .inl v_put)), (h_this_text, .inl (cI, 300, .inl v_text)), (h_this_value, .inl (cI, 300, .inl v_value)), (h_this_part, .inl (cI, 300, .inl v_part))] A z)) := by
  refine Ci_of (by decide) (Nat.le_of_ble_eq_true rfl) (fun p e s m below meth c A C hK hnm hA hP hD ls hl => ?_)
  obtain ⟨hx, hb, hr, hml, hown, hts, hlk⟩ := id C
  have hS : va_S A s.heap s.heap [] := va_S.rf
  have hl : lv_has ls 6 [(0, .ref h_this)] := hl
  rw [f_Mo_at] at h
  refine lv_iconst (v := 0) hx hb d_Mo_at_0 (by decide) ?_
  refine lv_istore_n (lv' := [(1, .int 0), (0, .ref h_this)]) hx hb d_Mo_at_1 rfl hl (by decide) rfl (fun ls hl => ?_)
  exact k_Mo_at_2 C hK hA N h_this h_this_put h_this_text h_this_value h_this_part v_thrownCode v_puts v_bytes v_nameFrom v_names v_values v_behind v_put v_text v_value v_parts v_part z N 0 h _ _ hP hD hS _ (lv_sub hl [1, 0] rfl)
set_option maxHeartbeats 4000000 in
set_option maxRecDepth 100000 in
theorem k_Mo_onePart_304 {p : Program} {l : Launch} {e : Env} {s : State} {m : MethodId} {args : Array Value} {below : List Frame} {meth : Method} {c : Code} {dC : Nat → ClassId} {dI : Nat → Nat → Nat} {cB cI : ClassId} {aK aV : Nat → Nat} {A : Nat → Prop} (C : cx p s m args meth c R_Mo prog_7_method_12_code 10 (some .int)) (hK : kx (dC, dI) cB cI aK aV A s) (hA : ∀ q : Nat, s.heap.size ≤ q → A q) (N : Nat) (h_this h_this_put h_this_text h_this_value h_this_part : Nat) (v_thrownCode : Int32) (v_puts : Int32) (v_bytes : Int32) (v_nameFrom : Int32) (v_names : Int32) (v_behind : Int32) (v_put : Nat → Int32) (v_text : Nat → Int32) (v_values : Int32) (v_value : Nat → Int32) (z : Int32 × Int32 × (Nat → Int32)) (r18 : Int32 → Int32 → Int32 → Int32 → Int32 → Int32 → (Nat → Int32) → Option (Int32 × Int32 × (Nat → Int32))) (hr18 : ∀ (x2 : Int32) (x3 : Int32) (x4 : Int32) (x5 : Int32) (x6 : Int32) (v_parts : Int32) (v_part : Nat → Int32), r18 x2 x3 x4 x5 x6 v_parts v_part = some z → ∀ (H : Heap) (locs : List Loc), va_P (dC, dI) classes [(h_this, .inr (5, [.int v_thrownCode, .ref h_this_put, .int v_puts, .ref h_this_text, .int v_bytes, .int v_nameFrom, .int v_names, .ref h_this_value, .int v_values, .int v_behind, .ref h_this_part, .int v_parts])), (h_this_put, .inl (cI, 300, .inl v_put)), (h_this_text, .inl (cI, 300, .inl v_text)), (h_this_value, .inl (cI, 300, .inl v_value)), (h_this_part, .inl (cI, 300, .inl v_part))] H → va_D A [(h_this, .inr (5, [.int v_thrownCode, .ref h_this_put, .int v_puts, .ref h_this_text, .int v_bytes, .int v_nameFrom, .int v_names, .ref h_this_value, .int v_values, .int v_behind, .ref h_this_part, .int v_parts])), (h_this_put, .inl (cI, 300, .inl v_put)), (h_this_text, .inl (cI, 300, .inl v_text)), (h_this_value, .inl (cI, 300, .inl v_value)), (h_this_part, .inl (cI, 300, .inl v_part))] → va_S A s.heap H locs → ∀ ls : Array Slot, lv_has ls 10 [(0, .ref h_this), (2, .int x2), (3, .int x3), (4, .int x4), (5, .int x5), (6, .int x6)] → W p l e ({ frames := 1, cells := 0, slots := 0, locals := 20 }) s m args below meth c H locs 0 0 (MQ below (Qi (dC, dI) [(h_this, .inr (5, [.int v_thrownCode, .ref h_this_put, .int v_puts, .ref h_this_text, .int v_bytes, .int v_nameFrom, .int v_names, .ref h_this_value, .int v_values, .int v_behind, .ref h_this_part, .int z.2.1])), (h_this_put, .inl (cI, 300, .inl v_put)), (h_this_text, .inl (cI, 300, .inl v_text)), (h_this_value, .inl (cI, 300, .inl v_value)), (h_this_part, .inl (cI, 300, .inl z.2.2))] A z.1) args s 0 0 A) (F0 m 18 ls [])) :
    ∀ (x2 : Int32) (x3 : Int32) (x4 : Int32) (x5 : Int32) (x6 : Int32) (x7 : Int32) (x9 : Int32) (v_parts : Int32) (v_part : Nat → Int32), f_Mo_onePart_304 N r18 v_values v_value x2 x3 x4 x5 x6 x7 x9 v_parts v_part = some z → ∀ (H : Heap) (locs : List Loc), va_P (dC, dI) classes [(h_this, .inr (5, [.int v_thrownCode, .ref h_this_put, .int v_puts, .ref h_this_text, .int v_bytes, .int v_nameFrom, .int v_names, .ref h_this_value, .int v_values, .int v_behind, .ref h_this_part, .int v_parts])), (h_this_put, .inl (cI, 300, .inl v_put)), (h_this_text, .inl (cI, 300, .inl v_text)), (h_this_value, .inl (cI, 300, .inl v_value)), (h_this_part, .inl (cI, 300, .inl v_part))] H → va_D A [(h_this, .inr (5, [.int v_thrownCode, .ref h_this_put, .int v_puts, .ref h_this_text, .int v_bytes, .int v_nameFrom, .int v_names, .ref h_this_value, .int v_values, .int v_behind, .ref h_this_part, .int v_parts])), (h_this_put, .inl (cI, 300, .inl v_put)), (h_this_text, .inl (cI, 300, .inl v_text)), (h_this_value, .inl (cI, 300, .inl v_value)), (h_this_part, .inl (cI, 300, .inl v_part))] → va_S A s.heap H locs → ∀ ls : Array Slot, lv_has ls 10 [(0, .ref h_this), (2, .int x2), (3, .int x3), (4, .int x4), (5, .int x5), (6, .int x6), (7, .int x7), (9, .int x9)] → W p l e ({ frames := 1, cells := 0, slots := 0, locals := 20 }) s m args below meth c H locs 0 0 (MQ below (Qi (dC, dI) [(h_this, .inr (5, [.int v_thrownCode, .ref h_this_put, .int v_puts, .ref h_this_text, .int v_bytes, .int v_nameFrom, .int v_names, .ref h_this_value, .int v_values, .int v_behind, .ref h_this_part, .int z.2.1])), (h_this_put, .inl (cI, 300, .inl v_put)), (h_this_text, .inl (cI, 300, .inl v_text)), (h_this_value, .inl (cI, 300, .inl v_value)), (h_this_part, .inl (cI, 300, .inl z.2.2))] A z.1) args s 0 0 A) (F0 m 304 ls []) := by
  obtain ⟨hx, hb, hr, hml, hown, hts, hlk⟩ := id C
  intro x2 x3 x4 x5 x6 x7 x9 v_parts v_part h H locs hP hD hS ls hl
  rw [f_Mo_onePart_304] at h
  refine lv_iload hx hb d_Mo_onePart_304 (lv_at hl 7 rfl) ?_
  refine lv_if_eq (tgt := 330) hx hb d_Mo_onePart_306 (by decide) (fun c_28 => ?_) (fun c_28 => ?_)
  · replace h := itT h c_28
    refine lv_iinc (v := x6 + 1) (lv' := [(6, .int (x6 + 1)), (0, .ref h_this), (2, .int x2), (3, .int x3), (4, .int x4), (5, .int x5), (7, .int x7), (9, .int x9)]) hx hb d_Mo_onePart_330 hl (k := 5) rfl rfl (by decide) rfl (fun ls hl => ?_)
    refine lv_goto (tgt := 18) hx hb d_Mo_onePart_333 (by decide) ?_
    exact hr18 x2 x3 x4 x5 (x6 + 1) v_parts v_part h _ _ hP hD hS _ (lv_sub hl [1, 2, 3, 4, 5, 0] rfl)
  · replace h := itF h c_28
    refine lv_aload_n hx hb d_Mo_onePart_309 rfl (lv_at hl 0 rfl) ?_
    refine va_get (D := (dC, dI)) (ci := 5) (v := .ref h_this_part) (C := R_Mo) (T := F_Mo) (N := 12) hx hb hts in_Mo hown hK.1 hP 0 rfl rfl 10 (by decide) (hts _ m_427) (fun _ h9 => h9) rfl d_Mo_onePart_310 ?_
    refine lv_aload_n hx hb d_Mo_onePart_313 rfl (lv_at hl 0 rfl) ?_
    refine va_get (D := (dC, dI)) (ci := 5) (v := .int v_parts) (C := R_Mo) (T := F_Mo) (N := 12) hx hb hts in_Mo hown hK.1 hP 0 rfl rfl 11 (by decide) (hts _ m_428) (fun _ h9 => h9) rfl d_Mo_onePart_314 ?_
    refine lv_iload hx hb d_Mo_onePart_317 (lv_at hl 6 rfl) ?_
    obtain ⟨g_29, h⟩ := grd h
    refine va_iast hx hb hK.1 hP hD hS 4 1 rfl rfl (inB_in g_29) d_Mo_onePart_319 (fun H locs hP hD hS => ?_)
    have hP : va_P (dC, dI) classes [(h_this, .inr (5, [.int v_thrownCode, .ref h_this_put, .int v_puts, .ref h_this_text, .int v_bytes, .int v_nameFrom, .int v_names, .ref h_this_value, .int v_values, .int v_behind, .ref h_this_part, .int v_parts])), (h_this_put, .inl (cI, 300, .inl v_put)), (h_this_text, .inl (cI, 300, .inl v_text)), (h_this_value, .inl (cI, 300, .inl v_value)), (h_this_part, .inl (cI, 300, .inl (upd v_part v_parts.toNatClampNeg x7)))] H := hP
    have hD : va_D A [(h_this, .inr (5, [.int v_thrownCode, .ref h_this_put, .int v_puts, .ref h_this_text, .int v_bytes, .int v_nameFrom, .int v_names, .ref h_this_value, .int v_values, .int v_behind, .ref h_this_part, .int v_parts])), (h_this_put, .inl (cI, 300, .inl v_put)), (h_this_text, .inl (cI, 300, .inl v_text)), (h_this_value, .inl (cI, 300, .inl v_value)), (h_this_part, .inl (cI, 300, .inl (upd v_part v_parts.toNatClampNeg x7)))] := hD
    refine lv_aload_n hx hb d_Mo_onePart_320 rfl (lv_at hl 0 rfl) ?_
    refine lv_dup hx hb d_Mo_onePart_321 rfl ?_
    refine va_get (D := (dC, dI)) (ci := 5) (v := .int v_parts) (C := R_Mo) (T := F_Mo) (N := 12) hx hb hts in_Mo hown hK.1 hP 0 rfl rfl 11 (by decide) (hts _ m_428) (fun _ h9 => h9) rfl d_Mo_onePart_322 ?_
    refine lv_iconst (v := 1) hx hb d_Mo_onePart_325 (by decide) ?_
    refine lv_iadd hx hb d_Mo_onePart_326 ?_
    refine va_put (D := (dC, dI)) (ci := 5) (v := .int (v_parts + 1)) (ty := .int) (C := R_Mo) (T := F_Mo) (N := 12) hx hb hts in_Mo t_Mo t_Mo_ok n_Mo hown hK.1 hP hD hS 0 rfl rfl 11 (by decide) (hts _ m_428) (fun _ h9 => h9) rfl (by decide +kernel) rfl rfl (Nat.le_of_ble_eq_true rfl) d_Mo_onePart_327 (fun H locs hP hD hS => ?_)
    have hP : va_P (dC, dI) classes [(h_this, .inr (5, [.int v_thrownCode, .ref h_this_put, .int v_puts, .ref h_this_text, .int v_bytes, .int v_nameFrom, .int v_names, .ref h_this_value, .int v_values, .int v_behind, .ref h_this_part, .int (v_parts + 1)])), (h_this_put, .inl (cI, 300, .inl v_put)), (h_this_text, .inl (cI, 300, .inl v_text)), (h_this_value, .inl (cI, 300, .inl v_value)), (h_this_part, .inl (cI, 300, .inl (upd v_part v_parts.toNatClampNeg x7)))] H := hP
    have hD : va_D A [(h_this, .inr (5, [.int v_thrownCode, .ref h_this_put, .int v_puts, .ref h_this_text, .int v_bytes, .int v_nameFrom, .int v_names, .ref h_this_value, .int v_values, .int v_behind, .ref h_this_part, .int (v_parts + 1)])), (h_this_put, .inl (cI, 300, .inl v_put)), (h_this_text, .inl (cI, 300, .inl v_text)), (h_this_value, .inl (cI, 300, .inl v_value)), (h_this_part, .inl (cI, 300, .inl (upd v_part v_parts.toNatClampNeg x7)))] := hD
    refine lv_iinc (v := x6 + 1) (lv' := [(6, .int (x6 + 1)), (0, .ref h_this), (2, .int x2), (3, .int x3), (4, .int x4), (5, .int x5), (7, .int x7), (9, .int x9)]) hx hb d_Mo_onePart_330 hl (k := 5) rfl rfl (by decide) rfl (fun ls hl => ?_)
    refine lv_goto (tgt := 18) hx hb d_Mo_onePart_333 (by decide) ?_
    exact hr18 x2 x3 x4 x5 (x6 + 1) (v_parts + 1) (upd v_part v_parts.toNatClampNeg x7) h _ _ hP hD hS _ (lv_sub hl [1, 2, 3, 4, 5, 0] rfl)
set_option maxHeartbeats 4000000 in
set_option maxRecDepth 100000 in
theorem k_Mo_onePart_144 {p : Program} {l : Launch} {e : Env} {s : State} {m : MethodId} {args : Array Value} {below : List Frame} {meth : Method} {c : Code} {dC : Nat → ClassId} {dI : Nat → Nat → Nat} {cB cI : ClassId} {aK aV : Nat → Nat} {A : Nat → Prop} (C : cx p s m args meth c R_Mo prog_7_method_12_code 10 (some .int)) (hK : kx (dC, dI) cB cI aK aV A s) (hA : ∀ q : Nat, s.heap.size ≤ q → A q) (N : Nat) (h_this h_this_put h_this_text h_this_value h_this_part : Nat) (v_thrownCode : Int32) (v_puts : Int32) (v_bytes : Int32) (v_nameFrom : Int32) (v_names : Int32) (v_behind : Int32) (v_put : Nat → Int32) (v_text : Nat → Int32) (v_values : Int32) (v_value : Nat → Int32) (z : Int32 × Int32 × (Nat → Int32)) (r18 : Int32 → Int32 → Int32 → Int32 → Int32 → Int32 → (Nat → Int32) → Option (Int32 × Int32 × (Nat → Int32))) (hr18 : ∀ (x2 : Int32) (x3 : Int32) (x4 : Int32) (x5 : Int32) (x6 : Int32) (v_parts : Int32) (v_part : Nat → Int32), r18 x2 x3 x4 x5 x6 v_parts v_part = some z → ∀ (H : Heap) (locs : List Loc), va_P (dC, dI) classes [(h_this, .inr (5, [.int v_thrownCode, .ref h_this_put, .int v_puts, .ref h_this_text, .int v_bytes, .int v_nameFrom, .int v_names, .ref h_this_value, .int v_values, .int v_behind, .ref h_this_part, .int v_parts])), (h_this_put, .inl (cI, 300, .inl v_put)), (h_this_text, .inl (cI, 300, .inl v_text)), (h_this_value, .inl (cI, 300, .inl v_value)), (h_this_part, .inl (cI, 300, .inl v_part))] H → va_D A [(h_this, .inr (5, [.int v_thrownCode, .ref h_this_put, .int v_puts, .ref h_this_text, .int v_bytes, .int v_nameFrom, .int v_names, .ref h_this_value, .int v_values, .int v_behind, .ref h_this_part, .int v_parts])), (h_this_put, .inl (cI, 300, .inl v_put)), (h_this_text, .inl (cI, 300, .inl v_text)), (h_this_value, .inl (cI, 300, .inl v_value)), (h_this_part, .inl (cI, 300, .inl v_part))] → va_S A s.heap H locs → ∀ ls : Array Slot, lv_has ls 10 [(0, .ref h_this), (2, .int x2), (3, .int x3), (4, .int x4), (5, .int x5), (6, .int x6)] → W p l e ({ frames := 1, cells := 0, slots := 0, locals := 20 }) s m args below meth c H locs 0 0 (MQ below (Qi (dC, dI) [(h_this, .inr (5, [.int v_thrownCode, .ref h_this_put, .int v_puts, .ref h_this_text, .int v_bytes, .int v_nameFrom, .int v_names, .ref h_this_value, .int v_values, .int v_behind, .ref h_this_part, .int z.2.1])), (h_this_put, .inl (cI, 300, .inl v_put)), (h_this_text, .inl (cI, 300, .inl v_text)), (h_this_value, .inl (cI, 300, .inl v_value)), (h_this_part, .inl (cI, 300, .inl z.2.2))] A z.1) args s 0 0 A) (F0 m 18 ls [])) :
    ∀ (x2 : Int32) (x3 : Int32) (x4 : Int32) (x5 : Int32) (x6 : Int32) (x9 : Int32) (v_parts : Int32) (v_part : Nat → Int32), f_Mo_onePart_144 N r18 v_values v_value x2 x3 x4 x5 x6 x9 v_parts v_part = some z → ∀ (H : Heap) (locs : List Loc), va_P (dC, dI) classes [(h_this, .inr (5, [.int v_thrownCode, .ref h_this_put, .int v_puts, .ref h_this_text, .int v_bytes, .int v_nameFrom, .int v_names, .ref h_this_value, .int v_values, .int v_behind, .ref h_this_part, .int v_parts])), (h_this_put, .inl (cI, 300, .inl v_put)), (h_this_text, .inl (cI, 300, .inl v_text)), (h_this_value, .inl (cI, 300, .inl v_value)), (h_this_part, .inl (cI, 300, .inl v_part))] H → va_D A [(h_this, .inr (5, [.int v_thrownCode, .ref h_this_put, .int v_puts, .ref h_this_text, .int v_bytes, .int v_nameFrom, .int v_names, .ref h_this_value, .int v_values, .int v_behind, .ref h_this_part, .int v_parts])), (h_this_put, .inl (cI, 300, .inl v_put)), (h_this_text, .inl (cI, 300, .inl v_text)), (h_this_value, .inl (cI, 300, .inl v_value)), (h_this_part, .inl (cI, 300, .inl v_part))] → va_S A s.heap H locs → ∀ ls : Array Slot, lv_has ls 10 [(0, .ref h_this), (2, .int x2), (3, .int x3), (4, .int x4), (5, .int x5), (6, .int x6), (9, .int x9)] → W p l e ({ frames := 1, cells := 0, slots := 0, locals := 20 }) s m args below meth c H locs 0 0 (MQ below (Qi (dC, dI) [(h_this, .inr (5, [.int v_thrownCode, .ref h_this_put, .int v_puts, .ref h_this_text, .int v_bytes, .int v_nameFrom, .int v_names, .ref h_this_value, .int v_values, .int v_behind, .ref h_this_part, .int z.2.1])), (h_this_put, .inl (cI, 300, .inl v_put)), (h_this_text, .inl (cI, 300, .inl v_text)), (h_this_value, .inl (cI, 300, .inl v_value)), (h_this_part, .inl (cI, 300, .inl z.2.2))] A z.1) args s 0 0 A) (F0 m 144 ls []) := by
  obtain ⟨hx, hb, hr, hml, hown, hts, hlk⟩ := id C
  intro x2 x3 x4 x5 x6 x9 v_parts v_part h H locs hP hD hS ls hl
  rw [f_Mo_onePart_144] at h
  refine lv_iinc (v := x6 + 1) (lv' := [(6, .int (x6 + 1)), (0, .ref h_this), (2, .int x2), (3, .int x3), (4, .int x4), (5, .int x5), (9, .int x9)]) hx hb d_Mo_onePart_144 hl (k := 5) rfl rfl (by decide) rfl (fun ls hl => ?_)
  refine lv_aload_n hx hb d_Mo_onePart_147 rfl (lv_at hl 1 rfl) ?_
  refine va_get (D := (dC, dI)) (ci := 5) (v := .ref h_this_value) (C := R_Mo) (T := F_Mo) (N := 12) hx hb hts in_Mo hown hK.1 hP 0 rfl rfl 7 (by decide) (hts _ m_424) (fun _ h9 => h9) rfl d_Mo_onePart_148 ?_
  refine lv_iload hx hb d_Mo_onePart_151 (lv_at hl 0 rfl) ?_
  obtain ⟨g_19, h⟩ := grd h
  refine va_iald hx hb hK.1 hP 3 1 rfl rfl (inB_in g_19) d_Mo_onePart_153 ?_
  refine lv_istore (lv' := [(7, .int (v_value (x6 + 1).toNatClampNeg)), (6, .int (x6 + 1)), (0, .ref h_this), (2, .int x2), (3, .int x3), (4, .int x4), (5, .int x5), (9, .int x9)]) hx hb d_Mo_onePart_154 hl (by decide) rfl (fun ls hl => ?_)
  refine lv_goto (tgt := 304) hx hb d_Mo_onePart_156 (by decide) ?_
  exact k_Mo_onePart_304 C hK hA N h_this h_this_put h_this_text h_this_value h_this_part v_thrownCode v_puts v_bytes v_nameFrom v_names v_behind v_put v_text v_values v_value z r18 hr18 x2 x3 x4 x5 (x6 + 1) (v_value (x6 + 1).toNatClampNeg) x9 v_parts v_part h _ _ hP hD hS _ (lv_sub hl [2, 3, 4, 5, 6, 1, 0, 7] rfl)
set_option maxHeartbeats 4000000 in
set_option maxRecDepth 100000 in
theorem k_Mo_onePart_175 {p : Program} {l : Launch} {e : Env} {s : State} {m : MethodId} {args : Array Value} {below : List Frame} {meth : Method} {c : Code} {dC : Nat → ClassId} {dI : Nat → Nat → Nat} {cB cI : ClassId} {aK aV : Nat → Nat} {A : Nat → Prop} (C : cx p s m args meth c R_Mo prog_7_method_12_code 10 (some .int)) (hK : kx (dC, dI) cB cI aK aV A s) (hA : ∀ q : Nat, s.heap.size ≤ q → A q) (N : Nat) (h_this h_this_put h_this_text h_this_value h_this_part : Nat) (v_thrownCode : Int32) (v_puts : Int32) (v_bytes : Int32) (v_nameFrom : Int32) (v_names : Int32) (v_behind : Int32) (v_put : Nat → Int32) (v_text : Nat → Int32) (v_values : Int32) (v_value : Nat → Int32) (z : Int32 × Int32 × (Nat → Int32)) (r18 : Int32 → Int32 → Int32 → Int32 → Int32 → Int32 → (Nat → Int32) → Option (Int32 × Int32 × (Nat → Int32))) (hr18 : ∀ (x2 : Int32) (x3 : Int32) (x4 : Int32) (x5 : Int32) (x6 : Int32) (v_parts : Int32) (v_part : Nat → Int32), r18 x2 x3 x4 x5 x6 v_parts v_part = some z → ∀ (H : Heap) (locs : List Loc), va_P (dC, dI) classes [(h_this, .inr (5, [.int v_thrownCode, .ref h_this_put, .int v_puts, .ref h_this_text, .int v_bytes, .int v_nameFrom, .int v_names, .ref h_this_value, .int v_values, .int v_behind, .ref h_this_part, .int v_parts])), (h_this_put, .inl (cI, 300, .inl v_put)), (h_this_text, .inl (cI, 300, .inl v_text)), (h_this_value, .inl (cI, 300, .inl v_value)), (h_this_part, .inl (cI, 300, .inl v_part))] H → va_D A [(h_this, .inr (5, [.int v_thrownCode, .ref h_this_put, .int v_puts, .ref h_this_text, .int v_bytes, .int v_nameFrom, .int v_names, .ref h_this_value, .int v_values, .int v_behind, .ref h_this_part, .int v_parts])), (h_this_put, .inl (cI, 300, .inl v_put)), (h_this_text, .inl (cI, 300, .inl v_text)), (h_this_value, .inl (cI, 300, .inl v_value)), (h_this_part, .inl (cI, 300, .inl v_part))] → va_S A s.heap H locs → ∀ ls : Array Slot, lv_has ls 10 [(0, .ref h_this), (2, .int x2), (3, .int x3), (4, .int x4), (5, .int x5), (6, .int x6)] → W p l e ({ frames := 1, cells := 0, slots := 0, locals := 20 }) s m args below meth c H locs 0 0 (MQ below (Qi (dC, dI) [(h_this, .inr (5, [.int v_thrownCode, .ref h_this_put, .int v_puts, .ref h_this_text, .int v_bytes, .int v_nameFrom, .int v_names, .ref h_this_value, .int v_values, .int v_behind, .ref h_this_part, .int z.2.1])), (h_this_put, .inl (cI, 300, .inl v_put)), (h_this_text, .inl (cI, 300, .inl v_text)), (h_this_value, .inl (cI, 300, .inl v_value)), (h_this_part, .inl (cI, 300, .inl z.2.2))] A z.1) args s 0 0 A) (F0 m 18 ls [])) :
    ∀ (k0 : Int32) (x3 : Int32) (x4 : Int32) (x5 : Int32) (x6 : Int32) (x7 : Int32) (x9 : Int32) (v_parts : Int32) (v_part : Nat → Int32), f_Mo_onePart_175 N r18 v_values v_value k0 x3 x4 x5 x6 x7 x9 v_parts v_part = some z → ∀ (H : Heap) (locs : List Loc), va_P (dC, dI) classes [(h_this, .inr (5, [.int v_thrownCode, .ref h_this_put, .int v_puts, .ref h_this_text, .int v_bytes, .int v_nameFrom, .int v_names, .ref h_this_value, .int v_values, .int v_behind, .ref h_this_part, .int v_parts])), (h_this_put, .inl (cI, 300, .inl v_put)), (h_this_text, .inl (cI, 300, .inl v_text)), (h_this_value, .inl (cI, 300, .inl v_value)), (h_this_part, .inl (cI, 300, .inl v_part))] H → va_D A [(h_this, .inr (5, [.int v_thrownCode, .ref h_this_put, .int v_puts, .ref h_this_text, .int v_bytes, .int v_nameFrom, .int v_names, .ref h_this_value, .int v_values, .int v_behind, .ref h_this_part, .int v_parts])), (h_this_put, .inl (cI, 300, .inl v_put)), (h_this_text, .inl (cI, 300, .inl v_text)), (h_this_value, .inl (cI, 300, .inl v_value)), (h_this_part, .inl (cI, 300, .inl v_part))] → va_S A s.heap H locs → ∀ ls : Array Slot, lv_has ls 10 [(0, .ref h_this), (3, .int x3), (4, .int x4), (5, .int x5), (6, .int x6), (7, .int x7), (9, .int x9)] → W p l e ({ frames := 1, cells := 0, slots := 0, locals := 20 }) s m args below meth c H locs 0 0 (MQ below (Qi (dC, dI) [(h_this, .inr (5, [.int v_thrownCode, .ref h_this_put, .int v_puts, .ref h_this_text, .int v_bytes, .int v_nameFrom, .int v_names, .ref h_this_value, .int v_values, .int v_behind, .ref h_this_part, .int z.2.1])), (h_this_put, .inl (cI, 300, .inl v_put)), (h_this_text, .inl (cI, 300, .inl v_text)), (h_this_value, .inl (cI, 300, .inl v_value)), (h_this_part, .inl (cI, 300, .inl z.2.2))] A z.1) args s 0 0 A) (F0 m 175 ls [.int k0]) := by
  obtain ⟨hx, hb, hr, hml, hown, hts, hlk⟩ := id C
  intro k0 x3 x4 x5 x6 x7 x9 v_parts v_part h H locs hP hD hS ls hl
  rw [f_Mo_onePart_175] at h
  refine lv_istore_n (lv' := [(2, .int k0), (0, .ref h_this), (3, .int x3), (4, .int x4), (5, .int x5), (6, .int x6), (7, .int x7), (9, .int x9)]) hx hb d_Mo_onePart_175 rfl hl (by decide) rfl (fun ls hl => ?_)
  refine lv_goto (tgt := 304) hx hb d_Mo_onePart_176 (by decide) ?_
  exact k_Mo_onePart_304 C hK hA N h_this h_this_put h_this_text h_this_value h_this_part v_thrownCode v_puts v_bytes v_nameFrom v_names v_behind v_put v_text v_values v_value z r18 hr18 k0 x3 x4 x5 x6 x7 x9 v_parts v_part h _ _ hP hD hS _ (lv_sub hl [1, 0, 2, 3, 4, 5, 6, 7] rfl)
set_option maxHeartbeats 4000000 in
set_option maxRecDepth 100000 in
theorem k_Mo_onePart_209 {p : Program} {l : Launch} {e : Env} {s : State} {m : MethodId} {args : Array Value} {below : List Frame} {meth : Method} {c : Code} {dC : Nat → ClassId} {dI : Nat → Nat → Nat} {cB cI : ClassId} {aK aV : Nat → Nat} {A : Nat → Prop} (C : cx p s m args meth c R_Mo prog_7_method_12_code 10 (some .int)) (hK : kx (dC, dI) cB cI aK aV A s) (hA : ∀ q : Nat, s.heap.size ≤ q → A q) (N : Nat) (h_this h_this_put h_this_text h_this_value h_this_part : Nat) (v_thrownCode : Int32) (v_puts : Int32) (v_bytes : Int32) (v_nameFrom : Int32) (v_names : Int32) (v_behind : Int32) (v_put : Nat → Int32) (v_text : Nat → Int32) (v_values : Int32) (v_value : Nat → Int32) (z : Int32 × Int32 × (Nat → Int32)) (r18 : Int32 → Int32 → Int32 → Int32 → Int32 → Int32 → (Nat → Int32) → Option (Int32 × Int32 × (Nat → Int32))) (hr18 : ∀ (x2 : Int32) (x3 : Int32) (x4 : Int32) (x5 : Int32) (x6 : Int32) (v_parts : Int32) (v_part : Nat → Int32), r18 x2 x3 x4 x5 x6 v_parts v_part = some z → ∀ (H : Heap) (locs : List Loc), va_P (dC, dI) classes [(h_this, .inr (5, [.int v_thrownCode, .ref h_this_put, .int v_puts, .ref h_this_text, .int v_bytes, .int v_nameFrom, .int v_names, .ref h_this_value, .int v_values, .int v_behind, .ref h_this_part, .int v_parts])), (h_this_put, .inl (cI, 300, .inl v_put)), (h_this_text, .inl (cI, 300, .inl v_text)), (h_this_value, .inl (cI, 300, .inl v_value)), (h_this_part, .inl (cI, 300, .inl v_part))] H → va_D A [(h_this, .inr (5, [.int v_thrownCode, .ref h_this_put, .int v_puts, .ref h_this_text, .int v_bytes, .int v_nameFrom, .int v_names, .ref h_this_value, .int v_values, .int v_behind, .ref h_this_part, .int v_parts])), (h_this_put, .inl (cI, 300, .inl v_put)), (h_this_text, .inl (cI, 300, .inl v_text)), (h_this_value, .inl (cI, 300, .inl v_value)), (h_this_part, .inl (cI, 300, .inl v_part))] → va_S A s.heap H locs → ∀ ls : Array Slot, lv_has ls 10 [(0, .ref h_this), (2, .int x2), (3, .int x3), (4, .int x4), (5, .int x5), (6, .int x6)] → W p l e ({ frames := 1, cells := 0, slots := 0, locals := 20 }) s m args below meth c H locs 0 0 (MQ below (Qi (dC, dI) [(h_this, .inr (5, [.int v_thrownCode, .ref h_this_put, .int v_puts, .ref h_this_text, .int v_bytes, .int v_nameFrom, .int v_names, .ref h_this_value, .int v_values, .int v_behind, .ref h_this_part, .int z.2.1])), (h_this_put, .inl (cI, 300, .inl v_put)), (h_this_text, .inl (cI, 300, .inl v_text)), (h_this_value, .inl (cI, 300, .inl v_value)), (h_this_part, .inl (cI, 300, .inl z.2.2))] A z.1) args s 0 0 A) (F0 m 18 ls [])) :
    ∀ (k0 : Int32) (k1 : Int32) (x2 : Int32) (x3 : Int32) (x5 : Int32) (x6 : Int32) (x7 : Int32) (x9 : Int32) (v_parts : Int32) (v_part : Nat → Int32), f_Mo_onePart_209 N r18 v_values v_value k0 k1 x2 x3 x5 x6 x7 x9 v_parts v_part = some z → ∀ (H : Heap) (locs : List Loc), va_P (dC, dI) classes [(h_this, .inr (5, [.int v_thrownCode, .ref h_this_put, .int v_puts, .ref h_this_text, .int v_bytes, .int v_nameFrom, .int v_names, .ref h_this_value, .int v_values, .int v_behind, .ref h_this_part, .int v_parts])), (h_this_put, .inl (cI, 300, .inl v_put)), (h_this_text, .inl (cI, 300, .inl v_text)), (h_this_value, .inl (cI, 300, .inl v_value)), (h_this_part, .inl (cI, 300, .inl v_part))] H → va_D A [(h_this, .inr (5, [.int v_thrownCode, .ref h_this_put, .int v_puts, .ref h_this_text, .int v_bytes, .int v_nameFrom, .int v_names, .ref h_this_value, .int v_values, .int v_behind, .ref h_this_part, .int v_parts])), (h_this_put, .inl (cI, 300, .inl v_put)), (h_this_text, .inl (cI, 300, .inl v_text)), (h_this_value, .inl (cI, 300, .inl v_value)), (h_this_part, .inl (cI, 300, .inl v_part))] → va_S A s.heap H locs → ∀ ls : Array Slot, lv_has ls 10 [(0, .ref h_this), (2, .int x2), (3, .int x3), (5, .int x5), (6, .int x6), (7, .int x7), (9, .int x9)] → W p l e ({ frames := 1, cells := 0, slots := 0, locals := 20 }) s m args below meth c H locs 0 0 (MQ below (Qi (dC, dI) [(h_this, .inr (5, [.int v_thrownCode, .ref h_this_put, .int v_puts, .ref h_this_text, .int v_bytes, .int v_nameFrom, .int v_names, .ref h_this_value, .int v_values, .int v_behind, .ref h_this_part, .int z.2.1])), (h_this_put, .inl (cI, 300, .inl v_put)), (h_this_text, .inl (cI, 300, .inl v_text)), (h_this_value, .inl (cI, 300, .inl v_value)), (h_this_part, .inl (cI, 300, .inl z.2.2))] A z.1) args s 0 0 A) (F0 m 209 ls [.int k0, .int k1]) := by
  obtain ⟨hx, hb, hr, hml, hown, hts, hlk⟩ := id C
  intro k0 k1 x2 x3 x5 x6 x7 x9 v_parts v_part h H locs hP hD hS ls hl
  rw [f_Mo_onePart_209] at h
  refine lv_iadd hx hb d_Mo_onePart_209 ?_
  refine lv_istore (lv' := [(4, .int (k1 + k0)), (0, .ref h_this), (2, .int x2), (3, .int x3), (5, .int x5), (6, .int x6), (7, .int x7), (9, .int x9)]) hx hb d_Mo_onePart_210 hl (by decide) rfl (fun ls hl => ?_)
  refine lv_goto (tgt := 304) hx hb d_Mo_onePart_212 (by decide) ?_
  exact k_Mo_onePart_304 C hK hA N h_this h_this_put h_this_text h_this_value h_this_part v_thrownCode v_puts v_bytes v_nameFrom v_names v_behind v_put v_text v_values v_value z r18 hr18 x2 x3 (k1 + k0) x5 x6 x7 x9 v_parts v_part h _ _ hP hD hS _ (lv_sub hl [1, 2, 3, 0, 4, 5, 6, 7] rfl)
set_option maxHeartbeats 4000000 in
set_option maxRecDepth 100000 in
theorem k_Mo_onePart_293 {p : Program} {l : Launch} {e : Env} {s : State} {m : MethodId} {args : Array Value} {below : List Frame} {meth : Method} {c : Code} {dC : Nat → ClassId} {dI : Nat → Nat → Nat} {cB cI : ClassId} {aK aV : Nat → Nat} {A : Nat → Prop} (C : cx p s m args meth c R_Mo prog_7_method_12_code 10 (some .int)) (hK : kx (dC, dI) cB cI aK aV A s) (hA : ∀ q : Nat, s.heap.size ≤ q → A q) (N : Nat) (h_this h_this_put h_this_text h_this_value h_this_part : Nat) (v_thrownCode : Int32) (v_puts : Int32) (v_bytes : Int32) (v_nameFrom : Int32) (v_names : Int32) (v_behind : Int32) (v_put : Nat → Int32) (v_text : Nat → Int32) (v_values : Int32) (v_value : Nat → Int32) (z : Int32 × Int32 × (Nat → Int32)) (r18 : Int32 → Int32 → Int32 → Int32 → Int32 → Int32 → (Nat → Int32) → Option (Int32 × Int32 × (Nat → Int32))) (hr18 : ∀ (x2 : Int32) (x3 : Int32) (x4 : Int32) (x5 : Int32) (x6 : Int32) (v_parts : Int32) (v_part : Nat → Int32), r18 x2 x3 x4 x5 x6 v_parts v_part = some z → ∀ (H : Heap) (locs : List Loc), va_P (dC, dI) classes [(h_this, .inr (5, [.int v_thrownCode, .ref h_this_put, .int v_puts, .ref h_this_text, .int v_bytes, .int v_nameFrom, .int v_names, .ref h_this_value, .int v_values, .int v_behind, .ref h_this_part, .int v_parts])), (h_this_put, .inl (cI, 300, .inl v_put)), (h_this_text, .inl (cI, 300, .inl v_text)), (h_this_value, .inl (cI, 300, .inl v_value)), (h_this_part, .inl (cI, 300, .inl v_part))] H → va_D A [(h_this, .inr (5, [.int v_thrownCode, .ref h_this_put, .int v_puts, .ref h_this_text, .int v_bytes, .int v_nameFrom, .int v_names, .ref h_this_value, .int v_values, .int v_behind, .ref h_this_part, .int v_parts])), (h_this_put, .inl (cI, 300, .inl v_put)), (h_this_text, .inl (cI, 300, .inl v_text)), (h_this_value, .inl (cI, 300, .inl v_value)), (h_this_part, .inl (cI, 300, .inl v_part))] → va_S A s.heap H locs → ∀ ls : Array Slot, lv_has ls 10 [(0, .ref h_this), (2, .int x2), (3, .int x3), (4, .int x4), (5, .int x5), (6, .int x6)] → W p l e ({ frames := 1, cells := 0, slots := 0, locals := 20 }) s m args below meth c H locs 0 0 (MQ below (Qi (dC, dI) [(h_this, .inr (5, [.int v_thrownCode, .ref h_this_put, .int v_puts, .ref h_this_text, .int v_bytes, .int v_nameFrom, .int v_names, .ref h_this_value, .int v_values, .int v_behind, .ref h_this_part, .int z.2.1])), (h_this_put, .inl (cI, 300, .inl v_put)), (h_this_text, .inl (cI, 300, .inl v_text)), (h_this_value, .inl (cI, 300, .inl v_value)), (h_this_part, .inl (cI, 300, .inl z.2.2))] A z.1) args s 0 0 A) (F0 m 18 ls [])) :
    ∀ (x2 : Int32) (x3 : Int32) (x4 : Int32) (x5 : Int32) (x6 : Int32) (x7 : Int32) (x9 : Int32) (v_parts : Int32) (v_part : Nat → Int32), f_Mo_onePart_293 N r18 v_values v_value x2 x3 x4 x5 x6 x7 x9 v_parts v_part = some z → ∀ (H : Heap) (locs : List Loc), va_P (dC, dI) classes [(h_this, .inr (5, [.int v_thrownCode, .ref h_this_put, .int v_puts, .ref h_this_text, .int v_bytes, .int v_nameFrom, .int v_names, .ref h_this_value, .int v_values, .int v_behind, .ref h_this_part, .int v_parts])), (h_this_put, .inl (cI, 300, .inl v_put)), (h_this_text, .inl (cI, 300, .inl v_text)), (h_this_value, .inl (cI, 300, .inl v_value)), (h_this_part, .inl (cI, 300, .inl v_part))] H → va_D A [(h_this, .inr (5, [.int v_thrownCode, .ref h_this_put, .int v_puts, .ref h_this_text, .int v_bytes, .int v_nameFrom, .int v_names, .ref h_this_value, .int v_values, .int v_behind, .ref h_this_part, .int v_parts])), (h_this_put, .inl (cI, 300, .inl v_put)), (h_this_text, .inl (cI, 300, .inl v_text)), (h_this_value, .inl (cI, 300, .inl v_value)), (h_this_part, .inl (cI, 300, .inl v_part))] → va_S A s.heap H locs → ∀ ls : Array Slot, lv_has ls 10 [(0, .ref h_this), (2, .int x2), (3, .int x3), (4, .int x4), (5, .int x5), (6, .int x6), (7, .int x7), (9, .int x9)] → W p l e ({ frames := 1, cells := 0, slots := 0, locals := 20 }) s m args below meth c H locs 0 0 (MQ below (Qi (dC, dI) [(h_this, .inr (5, [.int v_thrownCode, .ref h_this_put, .int v_puts, .ref h_this_text, .int v_bytes, .int v_nameFrom, .int v_names, .ref h_this_value, .int v_values, .int v_behind, .ref h_this_part, .int z.2.1])), (h_this_put, .inl (cI, 300, .inl v_put)), (h_this_text, .inl (cI, 300, .inl v_text)), (h_this_value, .inl (cI, 300, .inl v_value)), (h_this_part, .inl (cI, 300, .inl z.2.2))] A z.1) args s 0 0 A) (F0 m 293 ls []) := by
  obtain ⟨hx, hb, hr, hml, hown, hts, hlk⟩ := id C
  intro x2 x3 x4 x5 x6 x7 x9 v_parts v_part h H locs hP hD hS ls hl
  rw [f_Mo_onePart_293] at h
  refine lv_iload hx hb d_Mo_onePart_293 (lv_at hl 6 rfl) ?_
  obtain ⟨z1, hc_1, h⟩ := bs h
  refine go_i (wr := [(h_this, .inr (5, [.int v_thrownCode, .ref h_this_put, .int v_puts, .ref h_this_text, .int v_bytes, .int v_nameFrom, .int v_names, .ref h_this_value, .int v_values, .int v_behind, .ref h_this_part, .int v_parts])), (h_this_put, .inl (cI, 300, .inl v_put)), (h_this_text, .inl (cI, 300, .inl v_text)), (h_this_value, .inl (cI, 300, .inl v_value)), (h_this_part, .inl (cI, 300, .inl v_part))]) (w1 := []) (ws2 := [(h_this, .inr (5, [.int v_thrownCode, .ref h_this_put, .int v_puts, .ref h_this_text, .int v_bytes, .int v_nameFrom, .int v_names, .ref h_this_value, .int v_values, .int v_behind, .ref h_this_part, .int v_parts])), (h_this_put, .inl (cI, 300, .inl v_put)), (h_this_text, .inl (cI, 300, .inl v_text)), (h_this_value, .inl (cI, 300, .inl v_value)), (h_this_part, .inl (cI, 300, .inl v_part))]) hP hD hS hA [] [0, 1, 2, 3, 4] [0, 1, 2, 3, 4] rfl (by decide) rfl (by decide) (by decide) rfl (by decide) (fun hPc hDc hFc => rn_S (As := [.int x7]) (rest := []) C hK (c_Mo_blank N x7 z1 hc_1 _) ⟨rfl, rfl⟩ m_478 ok_Mo_blank ⟨by decide, by decide⟩ hl.1 rfl (Nat.le_of_ble_eq_true rfl) d_Mo_onePart_295 ⟨by decide, by decide⟩ hS hPc hDc hFc) (fun H locs hP hD hS => ?_)
  refine lv_if_eq (tgt := 304) hx hb d_Mo_onePart_298 (by decide) (fun c_2 => ?_) (fun c_2 => ?_)
  · replace h := itT h c_2
    exact k_Mo_onePart_304 C hK hA N h_this h_this_put h_this_text h_this_value h_this_part v_thrownCode v_puts v_bytes v_nameFrom v_names v_behind v_put v_text v_values v_value z r18 hr18 x2 x3 x4 x5 x6 x7 x9 v_parts v_part h _ _ hP hD hS _ (lv_sub hl [0, 1, 2, 3, 4, 5, 6, 7] rfl)
  · replace h := itF h c_2
    refine lv_iconst (v := 0) hx hb d_Mo_onePart_301 (by decide) ?_
    refine lv_istore (lv' := [(9, .int 0), (0, .ref h_this), (2, .int x2), (3, .int x3), (4, .int x4), (5, .int x5), (6, .int x6), (7, .int x7)]) hx hb d_Mo_onePart_302 hl (by decide) rfl (fun ls hl => ?_)
    exact k_Mo_onePart_304 C hK hA N h_this h_this_put h_this_text h_this_value h_this_part v_thrownCode v_puts v_bytes v_nameFrom v_names v_behind v_put v_text v_values v_value z r18 hr18 x2 x3 x4 x5 x6 x7 0 v_parts v_part h _ _ hP hD hS _ (lv_sub hl [1, 2, 3, 4, 5, 6, 7, 0] rfl)
set_option maxHeartbeats 4000000 in
set_option maxRecDepth 100000 in
theorem k_Mo_onePart_265 {p : Program} {l : Launch} {e : Env} {s : State} {m : MethodId} {args : Array Value} {below : List Frame} {meth : Method} {c : Code} {dC : Nat → ClassId} {dI : Nat → Nat → Nat} {cB cI : ClassId} {aK aV : Nat → Nat} {A : Nat → Prop} (C : cx p s m args meth c R_Mo prog_7_method_12_code 10 (some .int)) (hK : kx (dC, dI) cB cI aK aV A s) (hA : ∀ q : Nat, s.heap.size ≤ q → A q) (N : Nat) (h_this h_this_put h_this_text h_this_value h_this_part : Nat) (v_thrownCode : Int32) (v_puts : Int32) (v_bytes : Int32) (v_nameFrom : Int32) (v_names : Int32) (v_behind : Int32) (v_put : Nat → Int32) (v_text : Nat → Int32) (v_values : Int32) (v_value : Nat → Int32) (z : Int32 × Int32 × (Nat → Int32)) (r18 : Int32 → Int32 → Int32 → Int32 → Int32 → Int32 → (Nat → Int32) → Option (Int32 × Int32 × (Nat → Int32))) (hr18 : ∀ (x2 : Int32) (x3 : Int32) (x4 : Int32) (x5 : Int32) (x6 : Int32) (v_parts : Int32) (v_part : Nat → Int32), r18 x2 x3 x4 x5 x6 v_parts v_part = some z → ∀ (H : Heap) (locs : List Loc), va_P (dC, dI) classes [(h_this, .inr (5, [.int v_thrownCode, .ref h_this_put, .int v_puts, .ref h_this_text, .int v_bytes, .int v_nameFrom, .int v_names, .ref h_this_value, .int v_values, .int v_behind, .ref h_this_part, .int v_parts])), (h_this_put, .inl (cI, 300, .inl v_put)), (h_this_text, .inl (cI, 300, .inl v_text)), (h_this_value, .inl (cI, 300, .inl v_value)), (h_this_part, .inl (cI, 300, .inl v_part))] H → va_D A [(h_this, .inr (5, [.int v_thrownCode, .ref h_this_put, .int v_puts, .ref h_this_text, .int v_bytes, .int v_nameFrom, .int v_names, .ref h_this_value, .int v_values, .int v_behind, .ref h_this_part, .int v_parts])), (h_this_put, .inl (cI, 300, .inl v_put)), (h_this_text, .inl (cI, 300, .inl v_text)), (h_this_value, .inl (cI, 300, .inl v_value)), (h_this_part, .inl (cI, 300, .inl v_part))] → va_S A s.heap H locs → ∀ ls : Array Slot, lv_has ls 10 [(0, .ref h_this), (2, .int x2), (3, .int x3), (4, .int x4), (5, .int x5), (6, .int x6)] → W p l e ({ frames := 1, cells := 0, slots := 0, locals := 20 }) s m args below meth c H locs 0 0 (MQ below (Qi (dC, dI) [(h_this, .inr (5, [.int v_thrownCode, .ref h_this_put, .int v_puts, .ref h_this_text, .int v_bytes, .int v_nameFrom, .int v_names, .ref h_this_value, .int v_values, .int v_behind, .ref h_this_part, .int z.2.1])), (h_this_put, .inl (cI, 300, .inl v_put)), (h_this_text, .inl (cI, 300, .inl v_text)), (h_this_value, .inl (cI, 300, .inl v_value)), (h_this_part, .inl (cI, 300, .inl z.2.2))] A z.1) args s 0 0 A) (F0 m 18 ls [])) :
    ∀ (x2 : Int32) (x3 : Int32) (x4 : Int32) (x5 : Int32) (x6 : Int32) (x7 : Int32) (x9 : Int32) (v_parts : Int32) (v_part : Nat → Int32), f_Mo_onePart_265 N r18 v_values v_value x2 x3 x4 x5 x6 x7 x9 v_parts v_part = some z → ∀ (H : Heap) (locs : List Loc), va_P (dC, dI) classes [(h_this, .inr (5, [.int v_thrownCode, .ref h_this_put, .int v_puts, .ref h_this_text, .int v_bytes, .int v_nameFrom, .int v_names, .ref h_this_value, .int v_values, .int v_behind, .ref h_this_part, .int v_parts])), (h_this_put, .inl (cI, 300, .inl v_put)), (h_this_text, .inl (cI, 300, .inl v_text)), (h_this_value, .inl (cI, 300, .inl v_value)), (h_this_part, .inl (cI, 300, .inl v_part))] H → va_D A [(h_this, .inr (5, [.int v_thrownCode, .ref h_this_put, .int v_puts, .ref h_this_text, .int v_bytes, .int v_nameFrom, .int v_names, .ref h_this_value, .int v_values, .int v_behind, .ref h_this_part, .int v_parts])), (h_this_put, .inl (cI, 300, .inl v_put)), (h_this_text, .inl (cI, 300, .inl v_text)), (h_this_value, .inl (cI, 300, .inl v_value)), (h_this_part, .inl (cI, 300, .inl v_part))] → va_S A s.heap H locs → ∀ ls : Array Slot, lv_has ls 10 [(0, .ref h_this), (2, .int x2), (3, .int x3), (4, .int x4), (5, .int x5), (6, .int x6), (7, .int x7), (9, .int x9)] → W p l e ({ frames := 1, cells := 0, slots := 0, locals := 20 }) s m args below meth c H locs 0 0 (MQ below (Qi (dC, dI) [(h_this, .inr (5, [.int v_thrownCode, .ref h_this_put, .int v_puts, .ref h_this_text, .int v_bytes, .int v_nameFrom, .int v_names, .ref h_this_value, .int v_values, .int v_behind, .ref h_this_part, .int z.2.1])), (h_this_put, .inl (cI, 300, .inl v_put)), (h_this_text, .inl (cI, 300, .inl v_text)), (h_this_value, .inl (cI, 300, .inl v_value)), (h_this_part, .inl (cI, 300, .inl z.2.2))] A z.1) args s 0 0 A) (F0 m 265 ls []) := by
  obtain ⟨hx, hb, hr, hml, hown, hts, hlk⟩ := id C
  intro x2 x3 x4 x5 x6 x7 x9 v_parts v_part h H locs hP hD hS ls hl
  rw [f_Mo_onePart_265] at h
  refine lv_iload hx hb d_Mo_onePart_265 (lv_at hl 4 rfl) ?_
  refine lv_if_ne (tgt := 293) hx hb d_Mo_onePart_267 (by decide) (fun c_5 => ?_) (fun c_5 => ?_)
  · replace h := itF h c_5
    exact k_Mo_onePart_293 C hK hA N h_this h_this_put h_this_text h_this_value h_this_part v_thrownCode v_puts v_bytes v_nameFrom v_names v_behind v_put v_text v_values v_value z r18 hr18 x2 x3 x4 x5 x6 x7 x9 v_parts v_part h _ _ hP hD hS _ (lv_sub hl [0, 1, 2, 3, 4, 5, 6, 7] rfl)
  · replace h := itT h c_5
    refine lv_iload hx hb d_Mo_onePart_270 (lv_at hl 6 rfl) ?_
    refine lv_bipush (v := 60) hx hb d_Mo_onePart_272 (by decide) ?_
    refine lv_icmp_ne (tgt := 293) hx hb d_Mo_onePart_274 (by decide) (fun c_6 => ?_) (fun c_6 => ?_)
    · replace h := itF h c_6
      exact k_Mo_onePart_293 C hK hA N h_this h_this_put h_this_text h_this_value h_this_part v_thrownCode v_puts v_bytes v_nameFrom v_names v_behind v_put v_text v_values v_value z r18 hr18 x2 x3 x4 x5 x6 x7 x9 v_parts v_part h _ _ hP hD hS _ (lv_sub hl [0, 1, 2, 3, 4, 5, 6, 7] rfl)
    · replace h := itT h c_6
      refine lv_iconst (v := 1) hx hb d_Mo_onePart_277 (by decide) ?_
      refine lv_istore_n (lv' := [(3, .int 1), (0, .ref h_this), (2, .int x2), (4, .int x4), (5, .int x5), (6, .int x6), (7, .int x7), (9, .int x9)]) hx hb d_Mo_onePart_278 rfl hl (by decide) rfl (fun ls hl => ?_)
      refine lv_iconst (v := 1) hx hb d_Mo_onePart_279 (by decide) ?_
      refine lv_istore (lv' := [(5, .int 1), (3, .int 1), (0, .ref h_this), (2, .int x2), (4, .int x4), (6, .int x6), (7, .int x7), (9, .int x9)]) hx hb d_Mo_onePart_280 hl (by decide) rfl (fun ls hl => ?_)
      refine lv_aload_n hx hb d_Mo_onePart_282 rfl (lv_at hl 2 rfl) ?_
      refine lv_iconst (v := 0) hx hb d_Mo_onePart_283 (by decide) ?_
      refine va_put (D := (dC, dI)) (ci := 5) (v := .int 0) (ty := .int) (C := R_Mo) (T := F_Mo) (N := 12) hx hb hts in_Mo t_Mo t_Mo_ok n_Mo hown hK.1 hP hD hS 0 rfl rfl 11 (by decide) (hts _ m_428) (fun _ h9 => h9) rfl (by decide +kernel) rfl rfl (Nat.le_of_ble_eq_true rfl) d_Mo_onePart_284 (fun H locs hP hD hS => ?_)
      have hP : va_P (dC, dI) classes [(h_this, .inr (5, [.int v_thrownCode, .ref h_this_put, .int v_puts, .ref h_this_text, .int v_bytes, .int v_nameFrom, .int v_names, .ref h_this_value, .int v_values, .int v_behind, .ref h_this_part, .int 0])), (h_this_put, .inl (cI, 300, .inl v_put)), (h_this_text, .inl (cI, 300, .inl v_text)), (h_this_value, .inl (cI, 300, .inl v_value)), (h_this_part, .inl (cI, 300, .inl v_part))] H := hP
      have hD : va_D A [(h_this, .inr (5, [.int v_thrownCode, .ref h_this_put, .int v_puts, .ref h_this_text, .int v_bytes, .int v_nameFrom, .int v_names, .ref h_this_value, .int v_values, .int v_behind, .ref h_this_part, .int 0])), (h_this_put, .inl (cI, 300, .inl v_put)), (h_this_text, .inl (cI, 300, .inl v_text)), (h_this_value, .inl (cI, 300, .inl v_value)), (h_this_part, .inl (cI, 300, .inl v_part))] := hD
      refine lv_iconst (v := 0) hx hb d_Mo_onePart_287 (by decide) ?_
      refine lv_istore (lv' := [(9, .int 0), (5, .int 1), (3, .int 1), (0, .ref h_this), (2, .int x2), (4, .int x4), (6, .int x6), (7, .int x7)]) hx hb d_Mo_onePart_288 hl (by decide) rfl (fun ls hl => ?_)
      refine lv_goto (tgt := 304) hx hb d_Mo_onePart_290 (by decide) ?_
      exact k_Mo_onePart_304 C hK hA N h_this h_this_put h_this_text h_this_value h_this_part v_thrownCode v_puts v_bytes v_nameFrom v_names v_behind v_put v_text v_values v_value z r18 hr18 x2 1 x4 1 x6 x7 0 0 v_part h _ _ hP hD hS _ (lv_sub hl [3, 4, 2, 5, 1, 6, 7, 0] rfl)
set_option maxHeartbeats 4000000 in
set_option maxRecDepth 100000 in
theorem k_Mo_onePart_111 {p : Program} {l : Launch} {e : Env} {s : State} {m : MethodId} {args : Array Value} {below : List Frame} {meth : Method} {c : Code} {dC : Nat → ClassId} {dI : Nat → Nat → Nat} {cB cI : ClassId} {aK aV : Nat → Nat} {A : Nat → Prop} (C : cx p s m args meth c R_Mo prog_7_method_12_code 10 (some .int)) (hK : kx (dC, dI) cB cI aK aV A s) (hA : ∀ q : Nat, s.heap.size ≤ q → A q) (N : Nat) (h_this h_this_put h_this_text h_this_value h_this_part : Nat) (v_thrownCode : Int32) (v_puts : Int32) (v_bytes : Int32) (v_nameFrom : Int32) (v_names : Int32) (v_behind : Int32) (v_put : Nat → Int32) (v_text : Nat → Int32) (v_values : Int32) (v_value : Nat → Int32) (z : Int32 × Int32 × (Nat → Int32)) (r18 : Int32 → Int32 → Int32 → Int32 → Int32 → Int32 → (Nat → Int32) → Option (Int32 × Int32 × (Nat → Int32))) (hr18 : ∀ (x2 : Int32) (x3 : Int32) (x4 : Int32) (x5 : Int32) (x6 : Int32) (v_parts : Int32) (v_part : Nat → Int32), r18 x2 x3 x4 x5 x6 v_parts v_part = some z → ∀ (H : Heap) (locs : List Loc), va_P (dC, dI) classes [(h_this, .inr (5, [.int v_thrownCode, .ref h_this_put, .int v_puts, .ref h_this_text, .int v_bytes, .int v_nameFrom, .int v_names, .ref h_this_value, .int v_values, .int v_behind, .ref h_this_part, .int v_parts])), (h_this_put, .inl (cI, 300, .inl v_put)), (h_this_text, .inl (cI, 300, .inl v_text)), (h_this_value, .inl (cI, 300, .inl v_value)), (h_this_part, .inl (cI, 300, .inl v_part))] H → va_D A [(h_this, .inr (5, [.int v_thrownCode, .ref h_this_put, .int v_puts, .ref h_this_text, .int v_bytes, .int v_nameFrom, .int v_names, .ref h_this_value, .int v_values, .int v_behind, .ref h_this_part, .int v_parts])), (h_this_put, .inl (cI, 300, .inl v_put)), (h_this_text, .inl (cI, 300, .inl v_text)), (h_this_value, .inl (cI, 300, .inl v_value)), (h_this_part, .inl (cI, 300, .inl v_part))] → va_S A s.heap H locs → ∀ ls : Array Slot, lv_has ls 10 [(0, .ref h_this), (2, .int x2), (3, .int x3), (4, .int x4), (5, .int x5), (6, .int x6)] → W p l e ({ frames := 1, cells := 0, slots := 0, locals := 20 }) s m args below meth c H locs 0 0 (MQ below (Qi (dC, dI) [(h_this, .inr (5, [.int v_thrownCode, .ref h_this_put, .int v_puts, .ref h_this_text, .int v_bytes, .int v_nameFrom, .int v_names, .ref h_this_value, .int v_values, .int v_behind, .ref h_this_part, .int z.2.1])), (h_this_put, .inl (cI, 300, .inl v_put)), (h_this_text, .inl (cI, 300, .inl v_text)), (h_this_value, .inl (cI, 300, .inl v_value)), (h_this_part, .inl (cI, 300, .inl z.2.2))] A z.1) args s 0 0 A) (F0 m 18 ls [])) :
    ∀ (k0 : Int32) (x2 : Int32) (x3 : Int32) (x4 : Int32) (x5 : Int32) (x6 : Int32) (x7 : Int32) (x8 : Int32) (v_parts : Int32) (v_part : Nat → Int32), f_Mo_onePart_111 N r18 v_values v_value k0 x2 x3 x4 x5 x6 x7 x8 v_parts v_part = some z → ∀ (H : Heap) (locs : List Loc), va_P (dC, dI) classes [(h_this, .inr (5, [.int v_thrownCode, .ref h_this_put, .int v_puts, .ref h_this_text, .int v_bytes, .int v_nameFrom, .int v_names, .ref h_this_value, .int v_values, .int v_behind, .ref h_this_part, .int v_parts])), (h_this_put, .inl (cI, 300, .inl v_put)), (h_this_text, .inl (cI, 300, .inl v_text)), (h_this_value, .inl (cI, 300, .inl v_value)), (h_this_part, .inl (cI, 300, .inl v_part))] H → va_D A [(h_this, .inr (5, [.int v_thrownCode, .ref h_this_put, .int v_puts, .ref h_this_text, .int v_bytes, .int v_nameFrom, .int v_names, .ref h_this_value, .int v_values, .int v_behind, .ref h_this_part, .int v_parts])), (h_this_put, .inl (cI, 300, .inl v_put)), (h_this_text, .inl (cI, 300, .inl v_text)), (h_this_value, .inl (cI, 300, .inl v_value)), (h_this_part, .inl (cI, 300, .inl v_part))] → va_S A s.heap H locs → ∀ ls : Array Slot, lv_has ls 10 [(0, .ref h_this), (2, .int x2), (3, .int x3), (4, .int x4), (5, .int x5), (6, .int x6), (7, .int x7), (8, .int x8)] → W p l e ({ frames := 1, cells := 0, slots := 0, locals := 20 }) s m args below meth c H locs 0 0 (MQ below (Qi (dC, dI) [(h_this, .inr (5, [.int v_thrownCode, .ref h_this_put, .int v_puts, .ref h_this_text, .int v_bytes, .int v_nameFrom, .int v_names, .ref h_this_value, .int v_values, .int v_behind, .ref h_this_part, .int z.2.1])), (h_this_put, .inl (cI, 300, .inl v_put)), (h_this_text, .inl (cI, 300, .inl v_text)), (h_this_value, .inl (cI, 300, .inl v_value)), (h_this_part, .inl (cI, 300, .inl z.2.2))] A z.1) args s 0 0 A) (F0 m 111 ls [.int k0]) := by
  obtain ⟨hx, hb, hr, hml, hown, hts, hlk⟩ := id C
  intro k0 x2 x3 x4 x5 x6 x7 x8 v_parts v_part h H locs hP hD hS ls hl
  rw [f_Mo_onePart_111] at h
  refine lv_istore (lv' := [(9, .int k0), (0, .ref h_this), (2, .int x2), (3, .int x3), (4, .int x4), (5, .int x5), (6, .int x6), (7, .int x7), (8, .int x8)]) hx hb d_Mo_onePart_111 hl (by decide) rfl (fun ls hl => ?_)
  refine lv_iload hx hb d_Mo_onePart_113 (lv_at hl 8 rfl) ?_
  refine lv_if_eq (tgt := 159) hx hb d_Mo_onePart_115 (by decide) (fun c_7 => ?_) (fun c_7 => ?_)
  · replace h := itT h c_7
    refine lv_iload_n hx hb d_Mo_onePart_159 rfl (lv_at hl 2 rfl) ?_
    refine lv_if_eq (tgt := 179) hx hb d_Mo_onePart_160 (by decide) (fun c_8 => ?_) (fun c_8 => ?_)
    · replace h := itT h c_8
      refine lv_iload hx hb d_Mo_onePart_179 (lv_at hl 4 rfl) ?_
      refine lv_if_le (tgt := 215) hx hb d_Mo_onePart_181 (by decide) (fun c_9 => ?_) (fun c_9 => ?_)
      · replace h := itT h c_9
        refine lv_iload hx hb d_Mo_onePart_215 (lv_at hl 7 rfl) ?_
        refine lv_bipush (v := 40) hx hb d_Mo_onePart_217 (by decide) ?_
        refine lv_icmp_ne (tgt := 231) hx hb d_Mo_onePart_219 (by decide) (fun c_10 => ?_) (fun c_10 => ?_)
        · replace h := itF h c_10
          refine lv_iload hx hb d_Mo_onePart_231 (lv_at hl 7 rfl) ?_
          refine lv_bipush (v := 34) hx hb d_Mo_onePart_233 (by decide) ?_
          refine lv_icmp_ne (tgt := 243) hx hb d_Mo_onePart_235 (by decide) (fun c_11 => ?_) (fun c_11 => ?_)
          · replace h := itF h c_11
            refine lv_iload_n hx hb d_Mo_onePart_243 rfl (lv_at hl 3 rfl) ?_
            refine lv_if_eq (tgt := 265) hx hb d_Mo_onePart_244 (by decide) (fun c_12 => ?_) (fun c_12 => ?_)
            · replace h := itT h c_12
              exact k_Mo_onePart_265 C hK hA N h_this h_this_put h_this_text h_this_value h_this_part v_thrownCode v_puts v_bytes v_nameFrom v_names v_behind v_put v_text v_values v_value z r18 hr18 x2 x3 x4 x5 x6 x7 k0 v_parts v_part h _ _ hP hD hS _ (lv_sub hl [1, 2, 3, 4, 5, 6, 7, 0] rfl)
            · replace h := itF h c_12
              refine lv_iload hx hb d_Mo_onePart_247 (lv_at hl 7 rfl) ?_
              refine lv_bipush (v := 62) hx hb d_Mo_onePart_249 (by decide) ?_
              refine lv_icmp_ne (tgt := 265) hx hb d_Mo_onePart_251 (by decide) (fun c_13 => ?_) (fun c_13 => ?_)
              · replace h := itF h c_13
                exact k_Mo_onePart_265 C hK hA N h_this h_this_put h_this_text h_this_value h_this_part v_thrownCode v_puts v_bytes v_nameFrom v_names v_behind v_put v_text v_values v_value z r18 hr18 x2 x3 x4 x5 x6 x7 k0 v_parts v_part h _ _ hP hD hS _ (lv_sub hl [1, 2, 3, 4, 5, 6, 7, 0] rfl)
              · replace h := itT h c_13
                refine lv_iconst (v := 0) hx hb d_Mo_onePart_254 (by decide) ?_
                refine lv_istore_n (lv' := [(3, .int 0), (9, .int k0), (0, .ref h_this), (2, .int x2), (4, .int x4), (5, .int x5), (6, .int x6), (7, .int x7), (8, .int x8)]) hx hb d_Mo_onePart_255 rfl hl (by decide) rfl (fun ls hl => ?_)
                refine lv_iconst (v := 2) hx hb d_Mo_onePart_256 (by decide) ?_
                refine lv_istore (lv' := [(5, .int 2), (3, .int 0), (9, .int k0), (0, .ref h_this), (2, .int x2), (4, .int x4), (6, .int x6), (7, .int x7), (8, .int x8)]) hx hb d_Mo_onePart_257 hl (by decide) rfl (fun ls hl => ?_)
                refine lv_iconst (v := 0) hx hb d_Mo_onePart_259 (by decide) ?_
                refine lv_istore (lv' := [(9, .int 0), (5, .int 2), (3, .int 0), (0, .ref h_this), (2, .int x2), (4, .int x4), (6, .int x6), (7, .int x7), (8, .int x8)]) hx hb d_Mo_onePart_260 hl (by decide) rfl (fun ls hl => ?_)
                refine lv_goto (tgt := 304) hx hb d_Mo_onePart_262 (by decide) ?_
                exact k_Mo_onePart_304 C hK hA N h_this h_this_put h_this_text h_this_value h_this_part v_thrownCode v_puts v_bytes v_nameFrom v_names v_behind v_put v_text v_values v_value z r18 hr18 x2 0 x4 2 x6 x7 0 v_parts v_part h _ _ hP hD hS _ (lv_sub hl [3, 4, 2, 5, 1, 6, 7, 0] rfl)
          · replace h := itT h c_11
            refine lv_iconst (v := 1) hx hb d_Mo_onePart_238 (by decide) ?_
            refine lv_istore_n (lv' := [(2, .int 1), (9, .int k0), (0, .ref h_this), (3, .int x3), (4, .int x4), (5, .int x5), (6, .int x6), (7, .int x7), (8, .int x8)]) hx hb d_Mo_onePart_239 rfl hl (by decide) rfl (fun ls hl => ?_)
            refine lv_goto (tgt := 304) hx hb d_Mo_onePart_240 (by decide) ?_
            exact k_Mo_onePart_304 C hK hA N h_this h_this_put h_this_text h_this_value h_this_part v_thrownCode v_puts v_bytes v_nameFrom v_names v_behind v_put v_text v_values v_value z r18 hr18 1 x3 x4 x5 x6 x7 k0 v_parts v_part h _ _ hP hD hS _ (lv_sub hl [2, 0, 3, 4, 5, 6, 7, 1] rfl)
        · replace h := itT h c_10
          refine lv_iconst (v := 1) hx hb d_Mo_onePart_222 (by decide) ?_
          refine lv_istore (lv' := [(4, .int 1), (9, .int k0), (0, .ref h_this), (2, .int x2), (3, .int x3), (5, .int x5), (6, .int x6), (7, .int x7), (8, .int x8)]) hx hb d_Mo_onePart_223 hl (by decide) rfl (fun ls hl => ?_)
          refine lv_iconst (v := 0) hx hb d_Mo_onePart_225 (by decide) ?_
          refine lv_istore (lv' := [(9, .int 0), (4, .int 1), (0, .ref h_this), (2, .int x2), (3, .int x3), (5, .int x5), (6, .int x6), (7, .int x7), (8, .int x8)]) hx hb d_Mo_onePart_226 hl (by decide) rfl (fun ls hl => ?_)
          refine lv_goto (tgt := 304) hx hb d_Mo_onePart_228 (by decide) ?_
          exact k_Mo_onePart_304 C hK hA N h_this h_this_put h_this_text h_this_value h_this_part v_thrownCode v_puts v_bytes v_nameFrom v_names v_behind v_put v_text v_values v_value z r18 hr18 x2 x3 1 x5 x6 x7 0 v_parts v_part h _ _ hP hD hS _ (lv_sub hl [2, 3, 4, 1, 5, 6, 7, 0] rfl)
      · replace h := itF h c_9
        refine lv_iload hx hb d_Mo_onePart_184 (lv_at hl 4 rfl) ?_
        refine lv_iload hx hb d_Mo_onePart_186 (lv_at hl 7 rfl) ?_
        refine lv_bipush (v := 40) hx hb d_Mo_onePart_188 (by decide) ?_
        refine lv_icmp_ne (tgt := 197) hx hb d_Mo_onePart_190 (by decide) (fun c_14 => ?_) (fun c_14 => ?_)
        · replace h := itF h c_14
          refine lv_iload hx hb d_Mo_onePart_197 (lv_at hl 7 rfl) ?_
          refine lv_bipush (v := 41) hx hb d_Mo_onePart_199 (by decide) ?_
          refine lv_icmp_ne (tgt := 208) hx hb d_Mo_onePart_201 (by decide) (fun c_15 => ?_) (fun c_15 => ?_)
          · replace h := itF h c_15
            refine lv_iconst (v := 0) hx hb d_Mo_onePart_208 (by decide) ?_
            exact k_Mo_onePart_209 C hK hA N h_this h_this_put h_this_text h_this_value h_this_part v_thrownCode v_puts v_bytes v_nameFrom v_names v_behind v_put v_text v_values v_value z r18 hr18 0 x4 x2 x3 x5 x6 x7 k0 v_parts v_part h _ _ hP hD hS _ (lv_sub hl [1, 2, 3, 5, 6, 7, 0] rfl)
          · replace h := itT h c_15
            refine lv_iconst (v := (-1)) hx hb d_Mo_onePart_204 (by decide) ?_
            refine lv_goto (tgt := 209) hx hb d_Mo_onePart_205 (by decide) ?_
            exact k_Mo_onePart_209 C hK hA N h_this h_this_put h_this_text h_this_value h_this_part v_thrownCode v_puts v_bytes v_nameFrom v_names v_behind v_put v_text v_values v_value z r18 hr18 (-1) x4 x2 x3 x5 x6 x7 k0 v_parts v_part h _ _ hP hD hS _ (lv_sub hl [1, 2, 3, 5, 6, 7, 0] rfl)
        · replace h := itT h c_14
          refine lv_iconst (v := 1) hx hb d_Mo_onePart_193 (by decide) ?_
          refine lv_goto (tgt := 209) hx hb d_Mo_onePart_194 (by decide) ?_
          exact k_Mo_onePart_209 C hK hA N h_this h_this_put h_this_text h_this_value h_this_part v_thrownCode v_puts v_bytes v_nameFrom v_names v_behind v_put v_text v_values v_value z r18 hr18 1 x4 x2 x3 x5 x6 x7 k0 v_parts v_part h _ _ hP hD hS _ (lv_sub hl [1, 2, 3, 5, 6, 7, 0] rfl)
    · replace h := itF h c_8
      refine lv_iload hx hb d_Mo_onePart_163 (lv_at hl 7 rfl) ?_
      refine lv_bipush (v := 34) hx hb d_Mo_onePart_165 (by decide) ?_
      refine lv_icmp_eq (tgt := 174) hx hb d_Mo_onePart_167 (by decide) (fun c_16 => ?_) (fun c_16 => ?_)
      · replace h := itT h c_16
        refine lv_iconst (v := 0) hx hb d_Mo_onePart_174 (by decide) ?_
        exact k_Mo_onePart_175 C hK hA N h_this h_this_put h_this_text h_this_value h_this_part v_thrownCode v_puts v_bytes v_nameFrom v_names v_behind v_put v_text v_values v_value z r18 hr18 0 x3 x4 x5 x6 x7 k0 v_parts v_part h _ _ hP hD hS _ (lv_sub hl [1, 3, 4, 5, 6, 7, 0] rfl)
      · replace h := itF h c_16
        refine lv_iconst (v := 1) hx hb d_Mo_onePart_170 (by decide) ?_
        refine lv_goto (tgt := 175) hx hb d_Mo_onePart_171 (by decide) ?_
        exact k_Mo_onePart_175 C hK hA N h_this h_this_put h_this_text h_this_value h_this_part v_thrownCode v_puts v_bytes v_nameFrom v_names v_behind v_put v_text v_values v_value z r18 hr18 1 x3 x4 x5 x6 x7 k0 v_parts v_part h _ _ hP hD hS _ (lv_sub hl [1, 3, 4, 5, 6, 7, 0] rfl)
  · replace h := itF h c_7
    refine lv_iload hx hb d_Mo_onePart_118 (lv_at hl 0 rfl) ?_
    refine lv_if_eq (tgt := 144) hx hb d_Mo_onePart_120 (by decide) (fun c_17 => ?_) (fun c_17 => ?_)
    · replace h := itT h c_17
      exact k_Mo_onePart_144 C hK hA N h_this h_this_put h_this_text h_this_value h_this_part v_thrownCode v_puts v_bytes v_nameFrom v_names v_behind v_put v_text v_values v_value z r18 hr18 x2 x3 x4 x5 x6 k0 v_parts v_part h _ _ hP hD hS _ (lv_sub hl [1, 2, 3, 4, 5, 6, 0] rfl)
    · replace h := itF h c_17
      refine lv_aload_n hx hb d_Mo_onePart_123 rfl (lv_at hl 1 rfl) ?_
      refine va_get (D := (dC, dI)) (ci := 5) (v := .ref h_this_part) (C := R_Mo) (T := F_Mo) (N := 12) hx hb hts in_Mo hown hK.1 hP 0 rfl rfl 10 (by decide) (hts _ m_427) (fun _ h9 => h9) rfl d_Mo_onePart_124 ?_
      refine lv_aload_n hx hb d_Mo_onePart_127 rfl (lv_at hl 1 rfl) ?_
      refine va_get (D := (dC, dI)) (ci := 5) (v := .int v_parts) (C := R_Mo) (T := F_Mo) (N := 12) hx hb hts in_Mo hown hK.1 hP 0 rfl rfl 11 (by decide) (hts _ m_428) (fun _ h9 => h9) rfl d_Mo_onePart_128 ?_
      refine lv_iload hx hb d_Mo_onePart_131 (lv_at hl 7 rfl) ?_
      obtain ⟨g_18, h⟩ := grd h
      refine va_iast hx hb hK.1 hP hD hS 4 1 rfl rfl (inB_in g_18) d_Mo_onePart_133 (fun H locs hP hD hS => ?_)
      have hP : va_P (dC, dI) classes [(h_this, .inr (5, [.int v_thrownCode, .ref h_this_put, .int v_puts, .ref h_this_text, .int v_bytes, .int v_nameFrom, .int v_names, .ref h_this_value, .int v_values, .int v_behind, .ref h_this_part, .int v_parts])), (h_this_put, .inl (cI, 300, .inl v_put)), (h_this_text, .inl (cI, 300, .inl v_text)), (h_this_value, .inl (cI, 300, .inl v_value)), (h_this_part, .inl (cI, 300, .inl (upd v_part v_parts.toNatClampNeg x7)))] H := hP
      have hD : va_D A [(h_this, .inr (5, [.int v_thrownCode, .ref h_this_put, .int v_puts, .ref h_this_text, .int v_bytes, .int v_nameFrom, .int v_names, .ref h_this_value, .int v_values, .int v_behind, .ref h_this_part, .int v_parts])), (h_this_put, .inl (cI, 300, .inl v_put)), (h_this_text, .inl (cI, 300, .inl v_text)), (h_this_value, .inl (cI, 300, .inl v_value)), (h_this_part, .inl (cI, 300, .inl (upd v_part v_parts.toNatClampNeg x7)))] := hD
      refine lv_aload_n hx hb d_Mo_onePart_134 rfl (lv_at hl 1 rfl) ?_
      refine lv_dup hx hb d_Mo_onePart_135 rfl ?_
      refine va_get (D := (dC, dI)) (ci := 5) (v := .int v_parts) (C := R_Mo) (T := F_Mo) (N := 12) hx hb hts in_Mo hown hK.1 hP 0 rfl rfl 11 (by decide) (hts _ m_428) (fun _ h9 => h9) rfl d_Mo_onePart_136 ?_
      refine lv_iconst (v := 1) hx hb d_Mo_onePart_139 (by decide) ?_
      refine lv_iadd hx hb d_Mo_onePart_140 ?_
      refine va_put (D := (dC, dI)) (ci := 5) (v := .int (v_parts + 1)) (ty := .int) (C := R_Mo) (T := F_Mo) (N := 12) hx hb hts in_Mo t_Mo t_Mo_ok n_Mo hown hK.1 hP hD hS 0 rfl rfl 11 (by decide) (hts _ m_428) (fun _ h9 => h9) rfl (by decide +kernel) rfl rfl (Nat.le_of_ble_eq_true rfl) d_Mo_onePart_141 (fun H locs hP hD hS => ?_)
      have hP : va_P (dC, dI) classes [(h_this, .inr (5, [.int v_thrownCode, .ref h_this_put, .int v_puts, .ref h_this_text, .int v_bytes, .int v_nameFrom, .int v_names, .ref h_this_value, .int v_values, .int v_behind, .ref h_this_part, .int (v_parts + 1)])), (h_this_put, .inl (cI, 300, .inl v_put)), (h_this_text, .inl (cI, 300, .inl v_text)), (h_this_value, .inl (cI, 300, .inl v_value)), (h_this_part, .inl (cI, 300, .inl (upd v_part v_parts.toNatClampNeg x7)))] H := hP
      have hD : va_D A [(h_this, .inr (5, [.int v_thrownCode, .ref h_this_put, .int v_puts, .ref h_this_text, .int v_bytes, .int v_nameFrom, .int v_names, .ref h_this_value, .int v_values, .int v_behind, .ref h_this_part, .int (v_parts + 1)])), (h_this_put, .inl (cI, 300, .inl v_put)), (h_this_text, .inl (cI, 300, .inl v_text)), (h_this_value, .inl (cI, 300, .inl v_value)), (h_this_part, .inl (cI, 300, .inl (upd v_part v_parts.toNatClampNeg x7)))] := hD
      exact k_Mo_onePart_144 C hK hA N h_this h_this_put h_this_text h_this_value h_this_part v_thrownCode v_puts v_bytes v_nameFrom v_names v_behind v_put v_text v_values v_value z r18 hr18 x2 x3 x4 x5 x6 k0 (v_parts + 1) (upd v_part v_parts.toNatClampNeg x7) h _ _ hP hD hS _ (lv_sub hl [1, 2, 3, 4, 5, 6, 0] rfl)
set_option maxHeartbeats 4000000 in
set_option maxRecDepth 100000 in
theorem k_Mo_onePart_110 {p : Program} {l : Launch} {e : Env} {s : State} {m : MethodId} {args : Array Value} {below : List Frame} {meth : Method} {c : Code} {dC : Nat → ClassId} {dI : Nat → Nat → Nat} {cB cI : ClassId} {aK aV : Nat → Nat} {A : Nat → Prop} (C : cx p s m args meth c R_Mo prog_7_method_12_code 10 (some .int)) (hK : kx (dC, dI) cB cI aK aV A s) (hA : ∀ q : Nat, s.heap.size ≤ q → A q) (N : Nat) (h_this h_this_put h_this_text h_this_value h_this_part : Nat) (v_thrownCode : Int32) (v_puts : Int32) (v_bytes : Int32) (v_nameFrom : Int32) (v_names : Int32) (v_behind : Int32) (v_put : Nat → Int32) (v_text : Nat → Int32) (v_values : Int32) (v_value : Nat → Int32) (z : Int32 × Int32 × (Nat → Int32)) (r18 : Int32 → Int32 → Int32 → Int32 → Int32 → Int32 → (Nat → Int32) → Option (Int32 × Int32 × (Nat → Int32))) (hr18 : ∀ (x2 : Int32) (x3 : Int32) (x4 : Int32) (x5 : Int32) (x6 : Int32) (v_parts : Int32) (v_part : Nat → Int32), r18 x2 x3 x4 x5 x6 v_parts v_part = some z → ∀ (H : Heap) (locs : List Loc), va_P (dC, dI) classes [(h_this, .inr (5, [.int v_thrownCode, .ref h_this_put, .int v_puts, .ref h_this_text, .int v_bytes, .int v_nameFrom, .int v_names, .ref h_this_value, .int v_values, .int v_behind, .ref h_this_part, .int v_parts])), (h_this_put, .inl (cI, 300, .inl v_put)), (h_this_text, .inl (cI, 300, .inl v_text)), (h_this_value, .inl (cI, 300, .inl v_value)), (h_this_part, .inl (cI, 300, .inl v_part))] H → va_D A [(h_this, .inr (5, [.int v_thrownCode, .ref h_this_put, .int v_puts, .ref h_this_text, .int v_bytes, .int v_nameFrom, .int v_names, .ref h_this_value, .int v_values, .int v_behind, .ref h_this_part, .int v_parts])), (h_this_put, .inl (cI, 300, .inl v_put)), (h_this_text, .inl (cI, 300, .inl v_text)), (h_this_value, .inl (cI, 300, .inl v_value)), (h_this_part, .inl (cI, 300, .inl v_part))] → va_S A s.heap H locs → ∀ ls : Array Slot, lv_has ls 10 [(0, .ref h_this), (2, .int x2), (3, .int x3), (4, .int x4), (5, .int x5), (6, .int x6)] → W p l e ({ frames := 1, cells := 0, slots := 0, locals := 20 }) s m args below meth c H locs 0 0 (MQ below (Qi (dC, dI) [(h_this, .inr (5, [.int v_thrownCode, .ref h_this_put, .int v_puts, .ref h_this_text, .int v_bytes, .int v_nameFrom, .int v_names, .ref h_this_value, .int v_values, .int v_behind, .ref h_this_part, .int z.2.1])), (h_this_put, .inl (cI, 300, .inl v_put)), (h_this_text, .inl (cI, 300, .inl v_text)), (h_this_value, .inl (cI, 300, .inl v_value)), (h_this_part, .inl (cI, 300, .inl z.2.2))] A z.1) args s 0 0 A) (F0 m 18 ls [])) :
    ∀ (x2 : Int32) (x3 : Int32) (x4 : Int32) (x5 : Int32) (x6 : Int32) (x7 : Int32) (x8 : Int32) (v_parts : Int32) (v_part : Nat → Int32), f_Mo_onePart_110 N r18 v_values v_value x2 x3 x4 x5 x6 x7 x8 v_parts v_part = some z → ∀ (H : Heap) (locs : List Loc), va_P (dC, dI) classes [(h_this, .inr (5, [.int v_thrownCode, .ref h_this_put, .int v_puts, .ref h_this_text, .int v_bytes, .int v_nameFrom, .int v_names, .ref h_this_value, .int v_values, .int v_behind, .ref h_this_part, .int v_parts])), (h_this_put, .inl (cI, 300, .inl v_put)), (h_this_text, .inl (cI, 300, .inl v_text)), (h_this_value, .inl (cI, 300, .inl v_value)), (h_this_part, .inl (cI, 300, .inl v_part))] H → va_D A [(h_this, .inr (5, [.int v_thrownCode, .ref h_this_put, .int v_puts, .ref h_this_text, .int v_bytes, .int v_nameFrom, .int v_names, .ref h_this_value, .int v_values, .int v_behind, .ref h_this_part, .int v_parts])), (h_this_put, .inl (cI, 300, .inl v_put)), (h_this_text, .inl (cI, 300, .inl v_text)), (h_this_value, .inl (cI, 300, .inl v_value)), (h_this_part, .inl (cI, 300, .inl v_part))] → va_S A s.heap H locs → ∀ ls : Array Slot, lv_has ls 10 [(0, .ref h_this), (2, .int x2), (3, .int x3), (4, .int x4), (5, .int x5), (6, .int x6), (7, .int x7), (8, .int x8)] → W p l e ({ frames := 1, cells := 0, slots := 0, locals := 20 }) s m args below meth c H locs 0 0 (MQ below (Qi (dC, dI) [(h_this, .inr (5, [.int v_thrownCode, .ref h_this_put, .int v_puts, .ref h_this_text, .int v_bytes, .int v_nameFrom, .int v_names, .ref h_this_value, .int v_values, .int v_behind, .ref h_this_part, .int z.2.1])), (h_this_put, .inl (cI, 300, .inl v_put)), (h_this_text, .inl (cI, 300, .inl v_text)), (h_this_value, .inl (cI, 300, .inl v_value)), (h_this_part, .inl (cI, 300, .inl z.2.2))] A z.1) args s 0 0 A) (F0 m 110 ls []) := by
  obtain ⟨hx, hb, hr, hml, hown, hts, hlk⟩ := id C
  intro x2 x3 x4 x5 x6 x7 x8 v_parts v_part h H locs hP hD hS ls hl
  rw [f_Mo_onePart_110] at h
  refine lv_iconst (v := 0) hx hb d_Mo_onePart_110 (by decide) ?_
  exact k_Mo_onePart_111 C hK hA N h_this h_this_put h_this_text h_this_value h_this_part v_thrownCode v_puts v_bytes v_nameFrom v_names v_behind v_put v_text v_values v_value z r18 hr18 0 x2 x3 x4 x5 x6 x7 x8 v_parts v_part h _ _ hP hD hS _ (lv_sub hl [0, 1, 2, 3, 4, 5, 6, 7] rfl)
set_option maxHeartbeats 4000000 in
set_option maxRecDepth 100000 in
theorem k_Mo_onePart_93 {p : Program} {l : Launch} {e : Env} {s : State} {m : MethodId} {args : Array Value} {below : List Frame} {meth : Method} {c : Code} {dC : Nat → ClassId} {dI : Nat → Nat → Nat} {cB cI : ClassId} {aK aV : Nat → Nat} {A : Nat → Prop} (C : cx p s m args meth c R_Mo prog_7_method_12_code 10 (some .int)) (hK : kx (dC, dI) cB cI aK aV A s) (hA : ∀ q : Nat, s.heap.size ≤ q → A q) (N : Nat) (h_this h_this_put h_this_text h_this_value h_this_part : Nat) (v_thrownCode : Int32) (v_puts : Int32) (v_bytes : Int32) (v_nameFrom : Int32) (v_names : Int32) (v_behind : Int32) (v_put : Nat → Int32) (v_text : Nat → Int32) (v_values : Int32) (v_value : Nat → Int32) (z : Int32 × Int32 × (Nat → Int32)) (r18 : Int32 → Int32 → Int32 → Int32 → Int32 → Int32 → (Nat → Int32) → Option (Int32 × Int32 × (Nat → Int32))) (hr18 : ∀ (x2 : Int32) (x3 : Int32) (x4 : Int32) (x5 : Int32) (x6 : Int32) (v_parts : Int32) (v_part : Nat → Int32), r18 x2 x3 x4 x5 x6 v_parts v_part = some z → ∀ (H : Heap) (locs : List Loc), va_P (dC, dI) classes [(h_this, .inr (5, [.int v_thrownCode, .ref h_this_put, .int v_puts, .ref h_this_text, .int v_bytes, .int v_nameFrom, .int v_names, .ref h_this_value, .int v_values, .int v_behind, .ref h_this_part, .int v_parts])), (h_this_put, .inl (cI, 300, .inl v_put)), (h_this_text, .inl (cI, 300, .inl v_text)), (h_this_value, .inl (cI, 300, .inl v_value)), (h_this_part, .inl (cI, 300, .inl v_part))] H → va_D A [(h_this, .inr (5, [.int v_thrownCode, .ref h_this_put, .int v_puts, .ref h_this_text, .int v_bytes, .int v_nameFrom, .int v_names, .ref h_this_value, .int v_values, .int v_behind, .ref h_this_part, .int v_parts])), (h_this_put, .inl (cI, 300, .inl v_put)), (h_this_text, .inl (cI, 300, .inl v_text)), (h_this_value, .inl (cI, 300, .inl v_value)), (h_this_part, .inl (cI, 300, .inl v_part))] → va_S A s.heap H locs → ∀ ls : Array Slot, lv_has ls 10 [(0, .ref h_this), (2, .int x2), (3, .int x3), (4, .int x4), (5, .int x5), (6, .int x6)] → W p l e ({ frames := 1, cells := 0, slots := 0, locals := 20 }) s m args below meth c H locs 0 0 (MQ below (Qi (dC, dI) [(h_this, .inr (5, [.int v_thrownCode, .ref h_this_put, .int v_puts, .ref h_this_text, .int v_bytes, .int v_nameFrom, .int v_names, .ref h_this_value, .int v_values, .int v_behind, .ref h_this_part, .int z.2.1])), (h_this_put, .inl (cI, 300, .inl v_put)), (h_this_text, .inl (cI, 300, .inl v_text)), (h_this_value, .inl (cI, 300, .inl v_value)), (h_this_part, .inl (cI, 300, .inl z.2.2))] A z.1) args s 0 0 A) (F0 m 18 ls [])) :
    ∀ (k0 : Int32) (x2 : Int32) (x3 : Int32) (x4 : Int32) (x5 : Int32) (x6 : Int32) (x7 : Int32) (v_parts : Int32) (v_part : Nat → Int32), f_Mo_onePart_93 N r18 v_values v_value k0 x2 x3 x4 x5 x6 x7 v_parts v_part = some z → ∀ (H : Heap) (locs : List Loc), va_P (dC, dI) classes [(h_this, .inr (5, [.int v_thrownCode, .ref h_this_put, .int v_puts, .ref h_this_text, .int v_bytes, .int v_nameFrom, .int v_names, .ref h_this_value, .int v_values, .int v_behind, .ref h_this_part, .int v_parts])), (h_this_put, .inl (cI, 300, .inl v_put)), (h_this_text, .inl (cI, 300, .inl v_text)), (h_this_value, .inl (cI, 300, .inl v_value)), (h_this_part, .inl (cI, 300, .inl v_part))] H → va_D A [(h_this, .inr (5, [.int v_thrownCode, .ref h_this_put, .int v_puts, .ref h_this_text, .int v_bytes, .int v_nameFrom, .int v_names, .ref h_this_value, .int v_values, .int v_behind, .ref h_this_part, .int v_parts])), (h_this_put, .inl (cI, 300, .inl v_put)), (h_this_text, .inl (cI, 300, .inl v_text)), (h_this_value, .inl (cI, 300, .inl v_value)), (h_this_part, .inl (cI, 300, .inl v_part))] → va_S A s.heap H locs → ∀ ls : Array Slot, lv_has ls 10 [(0, .ref h_this), (2, .int x2), (3, .int x3), (4, .int x4), (5, .int x5), (6, .int x6), (7, .int x7)] → W p l e ({ frames := 1, cells := 0, slots := 0, locals := 20 }) s m args below meth c H locs 0 0 (MQ below (Qi (dC, dI) [(h_this, .inr (5, [.int v_thrownCode, .ref h_this_put, .int v_puts, .ref h_this_text, .int v_bytes, .int v_nameFrom, .int v_names, .ref h_this_value, .int v_values, .int v_behind, .ref h_this_part, .int z.2.1])), (h_this_put, .inl (cI, 300, .inl v_put)), (h_this_text, .inl (cI, 300, .inl v_text)), (h_this_value, .inl (cI, 300, .inl v_value)), (h_this_part, .inl (cI, 300, .inl z.2.2))] A z.1) args s 0 0 A) (F0 m 93 ls [.int k0]) := by
  obtain ⟨hx, hb, hr, hml, hown, hts, hlk⟩ := id C
  intro k0 x2 x3 x4 x5 x6 x7 v_parts v_part h H locs hP hD hS ls hl
  rw [f_Mo_onePart_93] at h
  refine lv_istore (lv' := [(8, .int k0), (0, .ref h_this), (2, .int x2), (3, .int x3), (4, .int x4), (5, .int x5), (6, .int x6), (7, .int x7)]) hx hb d_Mo_onePart_93 hl (by decide) rfl (fun ls hl => ?_)
  refine lv_iload hx hb d_Mo_onePart_95 (lv_at hl 4 rfl) ?_
  refine lv_if_ne (tgt := 110) hx hb d_Mo_onePart_97 (by decide) (fun c_33 => ?_) (fun c_33 => ?_)
  · replace h := itF h c_33
    exact k_Mo_onePart_110 C hK hA N h_this h_this_put h_this_text h_this_value h_this_part v_thrownCode v_puts v_bytes v_nameFrom v_names v_behind v_put v_text v_values v_value z r18 hr18 x2 x3 x4 x5 x6 x7 k0 v_parts v_part h _ _ hP hD hS _ (lv_sub hl [1, 2, 3, 4, 5, 6, 7, 0] rfl)
  · replace h := itT h c_33
    refine lv_iload hx hb d_Mo_onePart_100 (lv_at hl 5 rfl) ?_
    refine lv_iconst (v := 2) hx hb d_Mo_onePart_102 (by decide) ?_
    refine lv_icmp_ge (tgt := 110) hx hb d_Mo_onePart_103 (by decide) (fun c_34 => ?_) (fun c_34 => ?_)
    · replace h := itT h c_34
      exact k_Mo_onePart_110 C hK hA N h_this h_this_put h_this_text h_this_value h_this_part v_thrownCode v_puts v_bytes v_nameFrom v_names v_behind v_put v_text v_values v_value z r18 hr18 x2 x3 x4 x5 x6 x7 k0 v_parts v_part h _ _ hP hD hS _ (lv_sub hl [1, 2, 3, 4, 5, 6, 7, 0] rfl)
    · replace h := itF h c_34
      refine lv_iconst (v := 1) hx hb d_Mo_onePart_106 (by decide) ?_
      refine lv_goto (tgt := 111) hx hb d_Mo_onePart_107 (by decide) ?_
      exact k_Mo_onePart_111 C hK hA N h_this h_this_put h_this_text h_this_value h_this_part v_thrownCode v_puts v_bytes v_nameFrom v_names v_behind v_put v_text v_values v_value z r18 hr18 1 x2 x3 x4 x5 x6 x7 k0 v_parts v_part h _ _ hP hD hS _ (lv_sub hl [1, 2, 3, 4, 5, 6, 7, 0] rfl)
set_option maxHeartbeats 4000000 in
set_option maxRecDepth 100000 in
theorem k_Mo_onePart_92 {p : Program} {l : Launch} {e : Env} {s : State} {m : MethodId} {args : Array Value} {below : List Frame} {meth : Method} {c : Code} {dC : Nat → ClassId} {dI : Nat → Nat → Nat} {cB cI : ClassId} {aK aV : Nat → Nat} {A : Nat → Prop} (C : cx p s m args meth c R_Mo prog_7_method_12_code 10 (some .int)) (hK : kx (dC, dI) cB cI aK aV A s) (hA : ∀ q : Nat, s.heap.size ≤ q → A q) (N : Nat) (h_this h_this_put h_this_text h_this_value h_this_part : Nat) (v_thrownCode : Int32) (v_puts : Int32) (v_bytes : Int32) (v_nameFrom : Int32) (v_names : Int32) (v_behind : Int32) (v_put : Nat → Int32) (v_text : Nat → Int32) (v_values : Int32) (v_value : Nat → Int32) (z : Int32 × Int32 × (Nat → Int32)) (r18 : Int32 → Int32 → Int32 → Int32 → Int32 → Int32 → (Nat → Int32) → Option (Int32 × Int32 × (Nat → Int32))) (hr18 : ∀ (x2 : Int32) (x3 : Int32) (x4 : Int32) (x5 : Int32) (x6 : Int32) (v_parts : Int32) (v_part : Nat → Int32), r18 x2 x3 x4 x5 x6 v_parts v_part = some z → ∀ (H : Heap) (locs : List Loc), va_P (dC, dI) classes [(h_this, .inr (5, [.int v_thrownCode, .ref h_this_put, .int v_puts, .ref h_this_text, .int v_bytes, .int v_nameFrom, .int v_names, .ref h_this_value, .int v_values, .int v_behind, .ref h_this_part, .int v_parts])), (h_this_put, .inl (cI, 300, .inl v_put)), (h_this_text, .inl (cI, 300, .inl v_text)), (h_this_value, .inl (cI, 300, .inl v_value)), (h_this_part, .inl (cI, 300, .inl v_part))] H → va_D A [(h_this, .inr (5, [.int v_thrownCode, .ref h_this_put, .int v_puts, .ref h_this_text, .int v_bytes, .int v_nameFrom, .int v_names, .ref h_this_value, .int v_values, .int v_behind, .ref h_this_part, .int v_parts])), (h_this_put, .inl (cI, 300, .inl v_put)), (h_this_text, .inl (cI, 300, .inl v_text)), (h_this_value, .inl (cI, 300, .inl v_value)), (h_this_part, .inl (cI, 300, .inl v_part))] → va_S A s.heap H locs → ∀ ls : Array Slot, lv_has ls 10 [(0, .ref h_this), (2, .int x2), (3, .int x3), (4, .int x4), (5, .int x5), (6, .int x6)] → W p l e ({ frames := 1, cells := 0, slots := 0, locals := 20 }) s m args below meth c H locs 0 0 (MQ below (Qi (dC, dI) [(h_this, .inr (5, [.int v_thrownCode, .ref h_this_put, .int v_puts, .ref h_this_text, .int v_bytes, .int v_nameFrom, .int v_names, .ref h_this_value, .int v_values, .int v_behind, .ref h_this_part, .int z.2.1])), (h_this_put, .inl (cI, 300, .inl v_put)), (h_this_text, .inl (cI, 300, .inl v_text)), (h_this_value, .inl (cI, 300, .inl v_value)), (h_this_part, .inl (cI, 300, .inl z.2.2))] A z.1) args s 0 0 A) (F0 m 18 ls [])) :
    ∀ (x2 : Int32) (x3 : Int32) (x4 : Int32) (x5 : Int32) (x6 : Int32) (x7 : Int32) (v_parts : Int32) (v_part : Nat → Int32), f_Mo_onePart_92 N r18 v_values v_value x2 x3 x4 x5 x6 x7 v_parts v_part = some z → ∀ (H : Heap) (locs : List Loc), va_P (dC, dI) classes [(h_this, .inr (5, [.int v_thrownCode, .ref h_this_put, .int v_puts, .ref h_this_text, .int v_bytes, .int v_nameFrom, .int v_names, .ref h_this_value, .int v_values, .int v_behind, .ref h_this_part, .int v_parts])), (h_this_put, .inl (cI, 300, .inl v_put)), (h_this_text, .inl (cI, 300, .inl v_text)), (h_this_value, .inl (cI, 300, .inl v_value)), (h_this_part, .inl (cI, 300, .inl v_part))] H → va_D A [(h_this, .inr (5, [.int v_thrownCode, .ref h_this_put, .int v_puts, .ref h_this_text, .int v_bytes, .int v_nameFrom, .int v_names, .ref h_this_value, .int v_values, .int v_behind, .ref h_this_part, .int v_parts])), (h_this_put, .inl (cI, 300, .inl v_put)), (h_this_text, .inl (cI, 300, .inl v_text)), (h_this_value, .inl (cI, 300, .inl v_value)), (h_this_part, .inl (cI, 300, .inl v_part))] → va_S A s.heap H locs → ∀ ls : Array Slot, lv_has ls 10 [(0, .ref h_this), (2, .int x2), (3, .int x3), (4, .int x4), (5, .int x5), (6, .int x6), (7, .int x7)] → W p l e ({ frames := 1, cells := 0, slots := 0, locals := 20 }) s m args below meth c H locs 0 0 (MQ below (Qi (dC, dI) [(h_this, .inr (5, [.int v_thrownCode, .ref h_this_put, .int v_puts, .ref h_this_text, .int v_bytes, .int v_nameFrom, .int v_names, .ref h_this_value, .int v_values, .int v_behind, .ref h_this_part, .int z.2.1])), (h_this_put, .inl (cI, 300, .inl v_put)), (h_this_text, .inl (cI, 300, .inl v_text)), (h_this_value, .inl (cI, 300, .inl v_value)), (h_this_part, .inl (cI, 300, .inl z.2.2))] A z.1) args s 0 0 A) (F0 m 92 ls []) := by
  obtain ⟨hx, hb, hr, hml, hown, hts, hlk⟩ := id C
  intro x2 x3 x4 x5 x6 x7 v_parts v_part h H locs hP hD hS ls hl
  rw [f_Mo_onePart_92] at h
  refine lv_iconst (v := 0) hx hb d_Mo_onePart_92 (by decide) ?_
  exact k_Mo_onePart_93 C hK hA N h_this h_this_put h_this_text h_this_value h_this_part v_thrownCode v_puts v_bytes v_nameFrom v_names v_behind v_put v_text v_values v_value z r18 hr18 0 x2 x3 x4 x5 x6 x7 v_parts v_part h _ _ hP hD hS _ (lv_sub hl [0, 1, 2, 3, 4, 5, 6] rfl)
set_option maxHeartbeats 4000000 in
set_option maxRecDepth 100000 in
theorem k_Mo_onePart_70 {p : Program} {l : Launch} {e : Env} {s : State} {m : MethodId} {args : Array Value} {below : List Frame} {meth : Method} {c : Code} {dC : Nat → ClassId} {dI : Nat → Nat → Nat} {cB cI : ClassId} {aK aV : Nat → Nat} {A : Nat → Prop} (C : cx p s m args meth c R_Mo prog_7_method_12_code 10 (some .int)) (hK : kx (dC, dI) cB cI aK aV A s) (hA : ∀ q : Nat, s.heap.size ≤ q → A q) (N : Nat) (h_this h_this_put h_this_text h_this_value h_this_part : Nat) (v_thrownCode : Int32) (v_puts : Int32) (v_bytes : Int32) (v_nameFrom : Int32) (v_names : Int32) (v_behind : Int32) (v_put : Nat → Int32) (v_text : Nat → Int32) (v_values : Int32) (v_value : Nat → Int32) (z : Int32 × Int32 × (Nat → Int32)) (r18 : Int32 → Int32 → Int32 → Int32 → Int32 → Int32 → (Nat → Int32) → Option (Int32 × Int32 × (Nat → Int32))) (hr18 : ∀ (x2 : Int32) (x3 : Int32) (x4 : Int32) (x5 : Int32) (x6 : Int32) (v_parts : Int32) (v_part : Nat → Int32), r18 x2 x3 x4 x5 x6 v_parts v_part = some z → ∀ (H : Heap) (locs : List Loc), va_P (dC, dI) classes [(h_this, .inr (5, [.int v_thrownCode, .ref h_this_put, .int v_puts, .ref h_this_text, .int v_bytes, .int v_nameFrom, .int v_names, .ref h_this_value, .int v_values, .int v_behind, .ref h_this_part, .int v_parts])), (h_this_put, .inl (cI, 300, .inl v_put)), (h_this_text, .inl (cI, 300, .inl v_text)), (h_this_value, .inl (cI, 300, .inl v_value)), (h_this_part, .inl (cI, 300, .inl v_part))] H → va_D A [(h_this, .inr (5, [.int v_thrownCode, .ref h_this_put, .int v_puts, .ref h_this_text, .int v_bytes, .int v_nameFrom, .int v_names, .ref h_this_value, .int v_values, .int v_behind, .ref h_this_part, .int v_parts])), (h_this_put, .inl (cI, 300, .inl v_put)), (h_this_text, .inl (cI, 300, .inl v_text)), (h_this_value, .inl (cI, 300, .inl v_value)), (h_this_part, .inl (cI, 300, .inl v_part))] → va_S A s.heap H locs → ∀ ls : Array Slot, lv_has ls 10 [(0, .ref h_this), (2, .int x2), (3, .int x3), (4, .int x4), (5, .int x5), (6, .int x6)] → W p l e ({ frames := 1, cells := 0, slots := 0, locals := 20 }) s m args below meth c H locs 0 0 (MQ below (Qi (dC, dI) [(h_this, .inr (5, [.int v_thrownCode, .ref h_this_put, .int v_puts, .ref h_this_text, .int v_bytes, .int v_nameFrom, .int v_names, .ref h_this_value, .int v_values, .int v_behind, .ref h_this_part, .int z.2.1])), (h_this_put, .inl (cI, 300, .inl v_put)), (h_this_text, .inl (cI, 300, .inl v_text)), (h_this_value, .inl (cI, 300, .inl v_value)), (h_this_part, .inl (cI, 300, .inl z.2.2))] A z.1) args s 0 0 A) (F0 m 18 ls [])) :
    ∀ (x2 : Int32) (x3 : Int32) (x4 : Int32) (x5 : Int32) (x6 : Int32) (x7 : Int32) (v_parts : Int32) (v_part : Nat → Int32), f_Mo_onePart_70 N r18 v_values v_value x2 x3 x4 x5 x6 x7 v_parts v_part = some z → ∀ (H : Heap) (locs : List Loc), va_P (dC, dI) classes [(h_this, .inr (5, [.int v_thrownCode, .ref h_this_put, .int v_puts, .ref h_this_text, .int v_bytes, .int v_nameFrom, .int v_names, .ref h_this_value, .int v_values, .int v_behind, .ref h_this_part, .int v_parts])), (h_this_put, .inl (cI, 300, .inl v_put)), (h_this_text, .inl (cI, 300, .inl v_text)), (h_this_value, .inl (cI, 300, .inl v_value)), (h_this_part, .inl (cI, 300, .inl v_part))] H → va_D A [(h_this, .inr (5, [.int v_thrownCode, .ref h_this_put, .int v_puts, .ref h_this_text, .int v_bytes, .int v_nameFrom, .int v_names, .ref h_this_value, .int v_values, .int v_behind, .ref h_this_part, .int v_parts])), (h_this_put, .inl (cI, 300, .inl v_put)), (h_this_text, .inl (cI, 300, .inl v_text)), (h_this_value, .inl (cI, 300, .inl v_value)), (h_this_part, .inl (cI, 300, .inl v_part))] → va_S A s.heap H locs → ∀ ls : Array Slot, lv_has ls 10 [(0, .ref h_this), (2, .int x2), (3, .int x3), (4, .int x4), (5, .int x5), (6, .int x6), (7, .int x7)] → W p l e ({ frames := 1, cells := 0, slots := 0, locals := 20 }) s m args below meth c H locs 0 0 (MQ below (Qi (dC, dI) [(h_this, .inr (5, [.int v_thrownCode, .ref h_this_put, .int v_puts, .ref h_this_text, .int v_bytes, .int v_nameFrom, .int v_names, .ref h_this_value, .int v_values, .int v_behind, .ref h_this_part, .int z.2.1])), (h_this_put, .inl (cI, 300, .inl v_put)), (h_this_text, .inl (cI, 300, .inl v_text)), (h_this_value, .inl (cI, 300, .inl v_value)), (h_this_part, .inl (cI, 300, .inl z.2.2))] A z.1) args s 0 0 A) (F0 m 70 ls []) := by
  obtain ⟨hx, hb, hr, hml, hown, hts, hlk⟩ := id C
  intro x2 x3 x4 x5 x6 x7 v_parts v_part h H locs hP hD hS ls hl
  rw [f_Mo_onePart_70] at h
  refine lv_iload hx hb d_Mo_onePart_70 (lv_at hl 6 rfl) ?_
  refine lv_bipush (v := 92) hx hb d_Mo_onePart_72 (by decide) ?_
  refine lv_icmp_ne (tgt := 92) hx hb d_Mo_onePart_74 (by decide) (fun c_3 => ?_) (fun c_3 => ?_)
  · replace h := itF h c_3
    exact k_Mo_onePart_92 C hK hA N h_this h_this_put h_this_text h_this_value h_this_part v_thrownCode v_puts v_bytes v_nameFrom v_names v_behind v_put v_text v_values v_value z r18 hr18 x2 x3 x4 x5 x6 x7 v_parts v_part h _ _ hP hD hS _ (lv_sub hl [0, 1, 2, 3, 4, 5, 6] rfl)
  · replace h := itT h c_3
    refine lv_iload hx hb d_Mo_onePart_77 (lv_at hl 5 rfl) ?_
    refine lv_iconst (v := 1) hx hb d_Mo_onePart_79 (by decide) ?_
    refine lv_iadd hx hb d_Mo_onePart_80 ?_
    refine lv_aload_n hx hb d_Mo_onePart_81 rfl (lv_at hl 0 rfl) ?_
    refine va_get (D := (dC, dI)) (ci := 5) (v := .int v_values) (C := R_Mo) (T := F_Mo) (N := 12) hx hb hts in_Mo hown hK.1 hP 0 rfl rfl 8 (by decide) (hts _ m_425) (fun _ h9 => h9) rfl d_Mo_onePart_82 ?_
    refine lv_icmp_ge (tgt := 92) hx hb d_Mo_onePart_85 (by decide) (fun c_4 => ?_) (fun c_4 => ?_)
    · replace h := itT h c_4
      exact k_Mo_onePart_92 C hK hA N h_this h_this_put h_this_text h_this_value h_this_part v_thrownCode v_puts v_bytes v_nameFrom v_names v_behind v_put v_text v_values v_value z r18 hr18 x2 x3 x4 x5 x6 x7 v_parts v_part h _ _ hP hD hS _ (lv_sub hl [0, 1, 2, 3, 4, 5, 6] rfl)
    · replace h := itF h c_4
      refine lv_iconst (v := 1) hx hb d_Mo_onePart_88 (by decide) ?_
      refine lv_goto (tgt := 93) hx hb d_Mo_onePart_89 (by decide) ?_
      exact k_Mo_onePart_93 C hK hA N h_this h_this_put h_this_text h_this_value h_this_part v_thrownCode v_puts v_bytes v_nameFrom v_names v_behind v_put v_text v_values v_value z r18 hr18 1 x2 x3 x4 x5 x6 x7 v_parts v_part h _ _ hP hD hS _ (lv_sub hl [0, 1, 2, 3, 4, 5, 6] rfl)
set_option maxHeartbeats 4000000 in
set_option maxRecDepth 100000 in
theorem k_Mo_onePart_52 {p : Program} {l : Launch} {e : Env} {s : State} {m : MethodId} {args : Array Value} {below : List Frame} {meth : Method} {c : Code} {dC : Nat → ClassId} {dI : Nat → Nat → Nat} {cB cI : ClassId} {aK aV : Nat → Nat} {A : Nat → Prop} (C : cx p s m args meth c R_Mo prog_7_method_12_code 10 (some .int)) (hK : kx (dC, dI) cB cI aK aV A s) (hA : ∀ q : Nat, s.heap.size ≤ q → A q) (N : Nat) (h_this h_this_put h_this_text h_this_value h_this_part : Nat) (v_thrownCode : Int32) (v_puts : Int32) (v_bytes : Int32) (v_nameFrom : Int32) (v_names : Int32) (v_behind : Int32) (v_put : Nat → Int32) (v_text : Nat → Int32) (v_values : Int32) (v_value : Nat → Int32) (z : Int32 × Int32 × (Nat → Int32)) (r18 : Int32 → Int32 → Int32 → Int32 → Int32 → Int32 → (Nat → Int32) → Option (Int32 × Int32 × (Nat → Int32))) (hr18 : ∀ (x2 : Int32) (x3 : Int32) (x4 : Int32) (x5 : Int32) (x6 : Int32) (v_parts : Int32) (v_part : Nat → Int32), r18 x2 x3 x4 x5 x6 v_parts v_part = some z → ∀ (H : Heap) (locs : List Loc), va_P (dC, dI) classes [(h_this, .inr (5, [.int v_thrownCode, .ref h_this_put, .int v_puts, .ref h_this_text, .int v_bytes, .int v_nameFrom, .int v_names, .ref h_this_value, .int v_values, .int v_behind, .ref h_this_part, .int v_parts])), (h_this_put, .inl (cI, 300, .inl v_put)), (h_this_text, .inl (cI, 300, .inl v_text)), (h_this_value, .inl (cI, 300, .inl v_value)), (h_this_part, .inl (cI, 300, .inl v_part))] H → va_D A [(h_this, .inr (5, [.int v_thrownCode, .ref h_this_put, .int v_puts, .ref h_this_text, .int v_bytes, .int v_nameFrom, .int v_names, .ref h_this_value, .int v_values, .int v_behind, .ref h_this_part, .int v_parts])), (h_this_put, .inl (cI, 300, .inl v_put)), (h_this_text, .inl (cI, 300, .inl v_text)), (h_this_value, .inl (cI, 300, .inl v_value)), (h_this_part, .inl (cI, 300, .inl v_part))] → va_S A s.heap H locs → ∀ ls : Array Slot, lv_has ls 10 [(0, .ref h_this), (2, .int x2), (3, .int x3), (4, .int x4), (5, .int x5), (6, .int x6)] → W p l e ({ frames := 1, cells := 0, slots := 0, locals := 20 }) s m args below meth c H locs 0 0 (MQ below (Qi (dC, dI) [(h_this, .inr (5, [.int v_thrownCode, .ref h_this_put, .int v_puts, .ref h_this_text, .int v_bytes, .int v_nameFrom, .int v_names, .ref h_this_value, .int v_values, .int v_behind, .ref h_this_part, .int z.2.1])), (h_this_put, .inl (cI, 300, .inl v_put)), (h_this_text, .inl (cI, 300, .inl v_text)), (h_this_value, .inl (cI, 300, .inl v_value)), (h_this_part, .inl (cI, 300, .inl z.2.2))] A z.1) args s 0 0 A) (F0 m 18 ls [])) :
    ∀ (x2 : Int32) (x3 : Int32) (x4 : Int32) (x5 : Int32) (x6 : Int32) (v_parts : Int32) (v_part : Nat → Int32), f_Mo_onePart_52 N r18 v_values v_value x2 x3 x4 x5 x6 v_parts v_part = some z → ∀ (H : Heap) (locs : List Loc), va_P (dC, dI) classes [(h_this, .inr (5, [.int v_thrownCode, .ref h_this_put, .int v_puts, .ref h_this_text, .int v_bytes, .int v_nameFrom, .int v_names, .ref h_this_value, .int v_values, .int v_behind, .ref h_this_part, .int v_parts])), (h_this_put, .inl (cI, 300, .inl v_put)), (h_this_text, .inl (cI, 300, .inl v_text)), (h_this_value, .inl (cI, 300, .inl v_value)), (h_this_part, .inl (cI, 300, .inl v_part))] H → va_D A [(h_this, .inr (5, [.int v_thrownCode, .ref h_this_put, .int v_puts, .ref h_this_text, .int v_bytes, .int v_nameFrom, .int v_names, .ref h_this_value, .int v_values, .int v_behind, .ref h_this_part, .int v_parts])), (h_this_put, .inl (cI, 300, .inl v_put)), (h_this_text, .inl (cI, 300, .inl v_text)), (h_this_value, .inl (cI, 300, .inl v_value)), (h_this_part, .inl (cI, 300, .inl v_part))] → va_S A s.heap H locs → ∀ ls : Array Slot, lv_has ls 10 [(0, .ref h_this), (2, .int x2), (3, .int x3), (4, .int x4), (5, .int x5), (6, .int x6)] → W p l e ({ frames := 1, cells := 0, slots := 0, locals := 20 }) s m args below meth c H locs 0 0 (MQ below (Qi (dC, dI) [(h_this, .inr (5, [.int v_thrownCode, .ref h_this_put, .int v_puts, .ref h_this_text, .int v_bytes, .int v_nameFrom, .int v_names, .ref h_this_value, .int v_values, .int v_behind, .ref h_this_part, .int z.2.1])), (h_this_put, .inl (cI, 300, .inl v_put)), (h_this_text, .inl (cI, 300, .inl v_text)), (h_this_value, .inl (cI, 300, .inl v_value)), (h_this_part, .inl (cI, 300, .inl z.2.2))] A z.1) args s 0 0 A) (F0 m 52 ls []) := by
  obtain ⟨hx, hb, hr, hml, hown, hts, hlk⟩ := id C
  intro x2 x3 x4 x5 x6 v_parts v_part h H locs hP hD hS ls hl
  rw [f_Mo_onePart_52] at h
  refine lv_aload_n hx hb d_Mo_onePart_52 rfl (lv_at hl 0 rfl) ?_
  refine va_get (D := (dC, dI)) (ci := 5) (v := .ref h_this_value) (C := R_Mo) (T := F_Mo) (N := 12) hx hb hts in_Mo hown hK.1 hP 0 rfl rfl 7 (by decide) (hts _ m_424) (fun _ h9 => h9) rfl d_Mo_onePart_53 ?_
  refine lv_iload hx hb d_Mo_onePart_56 (lv_at hl 5 rfl) ?_
  obtain ⟨g_30, h⟩ := grd h
  refine va_iald hx hb hK.1 hP 3 1 rfl rfl (inB_in g_30) d_Mo_onePart_58 ?_
  refine lv_istore (lv' := [(7, .int (v_value x6.toNatClampNeg)), (0, .ref h_this), (2, .int x2), (3, .int x3), (4, .int x4), (5, .int x5), (6, .int x6)]) hx hb d_Mo_onePart_59 hl (by decide) rfl (fun ls hl => ?_)
  refine lv_iload_n hx hb d_Mo_onePart_61 rfl (lv_at hl 2 rfl) ?_
  refine lv_if_ne (tgt := 70) hx hb d_Mo_onePart_62 (by decide) (fun c_31 => ?_) (fun c_31 => ?_)
  · replace h := itF h c_31
    exact k_Mo_onePart_70 C hK hA N h_this h_this_put h_this_text h_this_value h_this_part v_thrownCode v_puts v_bytes v_nameFrom v_names v_behind v_put v_text v_values v_value z r18 hr18 x2 x3 x4 x5 x6 (v_value x6.toNatClampNeg) v_parts v_part h _ _ hP hD hS _ (lv_sub hl [1, 2, 3, 4, 5, 6, 0] rfl)
  · replace h := itT h c_31
    refine lv_iload hx hb d_Mo_onePart_65 (lv_at hl 4 rfl) ?_
    refine lv_if_le (tgt := 92) hx hb d_Mo_onePart_67 (by decide) (fun c_32 => ?_) (fun c_32 => ?_)
    · replace h := itT h c_32
      exact k_Mo_onePart_92 C hK hA N h_this h_this_put h_this_text h_this_value h_this_part v_thrownCode v_puts v_bytes v_nameFrom v_names v_behind v_put v_text v_values v_value z r18 hr18 x2 x3 x4 x5 x6 (v_value x6.toNatClampNeg) v_parts v_part h _ _ hP hD hS _ (lv_sub hl [1, 2, 3, 4, 5, 6, 0] rfl)
    · replace h := itF h c_32
      exact k_Mo_onePart_70 C hK hA N h_this h_this_put h_this_text h_this_value h_this_part v_thrownCode v_puts v_bytes v_nameFrom v_names v_behind v_put v_text v_values v_value z r18 hr18 x2 x3 x4 x5 x6 (v_value x6.toNatClampNeg) v_parts v_part h _ _ hP hD hS _ (lv_sub hl [1, 2, 3, 4, 5, 6, 0] rfl)
set_option maxHeartbeats 4000000 in
set_option maxRecDepth 100000 in
theorem k_Mo_onePart_18 {p : Program} {l : Launch} {e : Env} {s : State} {m : MethodId} {args : Array Value} {below : List Frame} {meth : Method} {c : Code} {dC : Nat → ClassId} {dI : Nat → Nat → Nat} {cB cI : ClassId} {aK aV : Nat → Nat} {A : Nat → Prop} (C : cx p s m args meth c R_Mo prog_7_method_12_code 10 (some .int)) (hK : kx (dC, dI) cB cI aK aV A s) (hA : ∀ q : Nat, s.heap.size ≤ q → A q) (N : Nat) (h_this h_this_put h_this_text h_this_value h_this_part : Nat) (v_thrownCode : Int32) (v_puts : Int32) (v_bytes : Int32) (v_nameFrom : Int32) (v_names : Int32) (v_behind : Int32) (v_put : Nat → Int32) (v_text : Nat → Int32) (v_values : Int32) (v_value : Nat → Int32) (z : Int32 × Int32 × (Nat → Int32)) :
    ∀ (n : Nat), ∀ (x2 : Int32) (x3 : Int32) (x4 : Int32) (x5 : Int32) (x6 : Int32) (v_parts : Int32) (v_part : Nat → Int32), f_Mo_onePart_18 N v_values v_value n x2 x3 x4 x5 x6 v_parts v_part = some z → ∀ (H : Heap) (locs : List Loc), va_P (dC, dI) classes [(h_this, .inr (5, [.int v_thrownCode, .ref h_this_put, .int v_puts, .ref h_this_text, .int v_bytes, .int v_nameFrom, .int v_names, .ref h_this_value, .int v_values, .int v_behind, .ref h_this_part, .int v_parts])), (h_this_put, .inl (cI, 300, .inl v_put)), (h_this_text, .inl (cI, 300, .inl v_text)), (h_this_value, .inl (cI, 300, .inl v_value)), (h_this_part, .inl (cI, 300, .inl v_part))] H → va_D A [(h_this, .inr (5, [.int v_thrownCode, .ref h_this_put, .int v_puts, .ref h_this_text, .int v_bytes, .int v_nameFrom, .int v_names, .ref h_this_value, .int v_values, .int v_behind, .ref h_this_part, .int v_parts])), (h_this_put, .inl (cI, 300, .inl v_put)), (h_this_text, .inl (cI, 300, .inl v_text)), (h_this_value, .inl (cI, 300, .inl v_value)), (h_this_part, .inl (cI, 300, .inl v_part))] → va_S A s.heap H locs → ∀ ls : Array Slot, lv_has ls 10 [(0, .ref h_this), (2, .int x2), (3, .int x3), (4, .int x4), (5, .int x5), (6, .int x6)] → W p l e ({ frames := 1, cells := 0, slots := 0, locals := 20 }) s m args below meth c H locs 0 0 (MQ below (Qi (dC, dI) [(h_this, .inr (5, [.int v_thrownCode, .ref h_this_put, .int v_puts, .ref h_this_text, .int v_bytes, .int v_nameFrom, .int v_names, .ref h_this_value, .int v_values, .int v_behind, .ref h_this_part, .int z.2.1])), (h_this_put, .inl (cI, 300, .inl v_put)), (h_this_text, .inl (cI, 300, .inl v_text)), (h_this_value, .inl (cI, 300, .inl v_value)), (h_this_part, .inl (cI, 300, .inl z.2.2))] A z.1) args s 0 0 A) (F0 m 18 ls []) := by
  obtain ⟨hx, hb, hr, hml, hown, hts, hlk⟩ := id C
  intro n
  induction n with
  | zero =>
    intro x2 x3 x4 x5 x6 v_parts v_part h
    rw [f_Mo_onePart_18] at h
    cases h
  | succ n ih =>
    intro x2 x3 x4 x5 x6 v_parts v_part h H locs hP hD hS ls hl
    rw [f_Mo_onePart_18] at h
    refine lv_iload hx hb d_Mo_onePart_18 (lv_at hl 5 rfl) ?_
    refine lv_aload_n hx hb d_Mo_onePart_20 rfl (lv_at hl 0 rfl) ?_
    refine va_get (D := (dC, dI)) (ci := 5) (v := .int v_values) (C := R_Mo) (T := F_Mo) (N := 12) hx hb hts in_Mo hown hK.1 hP 0 rfl rfl 8 (by decide) (hts _ m_425) (fun _ h9 => h9) rfl d_Mo_onePart_21 ?_
    refine lv_icmp_ge (tgt := 336) hx hb d_Mo_onePart_24 (by decide) (fun c_20 => ?_) (fun c_20 => ?_)
    · replace h := itT h c_20
      refine lv_iload hx hb d_Mo_onePart_336 (lv_at hl 4 rfl) ?_
      refine lv_iconst (v := 1) hx hb d_Mo_onePart_338 (by decide) ?_
      refine lv_icmp_ne (tgt := 347) hx hb d_Mo_onePart_339 (by decide) (fun c_21 => ?_) (fun c_21 => ?_)
      · replace h := itF h c_21
        refine lv_iload hx hb d_Mo_onePart_347 (lv_at hl 5 rfl) ?_
        refine lv_iconst (v := 1) hx hb d_Mo_onePart_349 (by decide) ?_
        refine lv_iadd hx hb d_Mo_onePart_350 ?_
        obtain rfl := Option.some.inj h
        exact W.iret (v := x6 + 1) hx hb hr (fun t ht hW => ⟨⟨x6 + 1, (), rfl, rfl, by rw [ht]; exact hP, hD⟩, hS.F ht⟩) hS.2.2 d_Mo_onePart_351 hlk
      · replace h := itT h c_21
        refine lv_aload_n hx hb d_Mo_onePart_342 rfl (lv_at hl 0 rfl) ?_
        refine lv_iconst (v := 0) hx hb d_Mo_onePart_343 (by decide) ?_
        refine va_put (D := (dC, dI)) (ci := 5) (v := .int 0) (ty := .int) (C := R_Mo) (T := F_Mo) (N := 12) hx hb hts in_Mo t_Mo t_Mo_ok n_Mo hown hK.1 hP hD hS 0 rfl rfl 11 (by decide) (hts _ m_428) (fun _ h9 => h9) rfl (by decide +kernel) rfl rfl (Nat.le_of_ble_eq_true rfl) d_Mo_onePart_344 (fun H locs hP hD hS => ?_)
        have hP : va_P (dC, dI) classes [(h_this, .inr (5, [.int v_thrownCode, .ref h_this_put, .int v_puts, .ref h_this_text, .int v_bytes, .int v_nameFrom, .int v_names, .ref h_this_value, .int v_values, .int v_behind, .ref h_this_part, .int 0])), (h_this_put, .inl (cI, 300, .inl v_put)), (h_this_text, .inl (cI, 300, .inl v_text)), (h_this_value, .inl (cI, 300, .inl v_value)), (h_this_part, .inl (cI, 300, .inl v_part))] H := hP
        have hD : va_D A [(h_this, .inr (5, [.int v_thrownCode, .ref h_this_put, .int v_puts, .ref h_this_text, .int v_bytes, .int v_nameFrom, .int v_names, .ref h_this_value, .int v_values, .int v_behind, .ref h_this_part, .int 0])), (h_this_put, .inl (cI, 300, .inl v_put)), (h_this_text, .inl (cI, 300, .inl v_text)), (h_this_value, .inl (cI, 300, .inl v_value)), (h_this_part, .inl (cI, 300, .inl v_part))] := hD
        refine lv_iload hx hb d_Mo_onePart_347 (lv_at hl 5 rfl) ?_
        refine lv_iconst (v := 1) hx hb d_Mo_onePart_349 (by decide) ?_
        refine lv_iadd hx hb d_Mo_onePart_350 ?_
        obtain rfl := Option.some.inj h
        exact W.iret (v := x6 + 1) hx hb hr (fun t ht hW => ⟨⟨x6 + 1, (), rfl, rfl, by rw [ht]; exact hP, hD⟩, hS.F ht⟩) hS.2.2 d_Mo_onePart_351 hlk
    · replace h := itF h c_20
      refine lv_iload_n hx hb d_Mo_onePart_27 rfl (lv_at hl 1 rfl) ?_
      refine lv_if_ne (tgt := 52) hx hb d_Mo_onePart_28 (by decide) (fun c_22 => ?_) (fun c_22 => ?_)
      · replace h := itF h c_22
        exact k_Mo_onePart_52 C hK hA N h_this h_this_put h_this_text h_this_value h_this_part v_thrownCode v_puts v_bytes v_nameFrom v_names v_behind v_put v_text v_values v_value z (f_Mo_onePart_18 N v_values v_value n) ih x2 x3 x4 x5 x6 v_parts v_part h _ _ hP hD hS _ (lv_sub hl [0, 1, 2, 3, 4, 5] rfl)
      · replace h := itT h c_22
        refine lv_iload_n hx hb d_Mo_onePart_31 rfl (lv_at hl 2 rfl) ?_
        refine lv_if_ne (tgt := 52) hx hb d_Mo_onePart_32 (by decide) (fun c_23 => ?_) (fun c_23 => ?_)
        · replace h := itF h c_23
          exact k_Mo_onePart_52 C hK hA N h_this h_this_put h_this_text h_this_value h_this_part v_thrownCode v_puts v_bytes v_nameFrom v_names v_behind v_put v_text v_values v_value z (f_Mo_onePart_18 N v_values v_value n) ih x2 x3 x4 x5 x6 v_parts v_part h _ _ hP hD hS _ (lv_sub hl [0, 1, 2, 3, 4, 5] rfl)
        · replace h := itT h c_23
          refine lv_iload hx hb d_Mo_onePart_35 (lv_at hl 3 rfl) ?_
          refine lv_if_gt (tgt := 52) hx hb d_Mo_onePart_37 (by decide) (fun c_24 => ?_) (fun c_24 => ?_)
          · replace h := itT h c_24
            exact k_Mo_onePart_52 C hK hA N h_this h_this_put h_this_text h_this_value h_this_part v_thrownCode v_puts v_bytes v_nameFrom v_names v_behind v_put v_text v_values v_value z (f_Mo_onePart_18 N v_values v_value n) ih x2 x3 x4 x5 x6 v_parts v_part h _ _ hP hD hS _ (lv_sub hl [0, 1, 2, 3, 4, 5] rfl)
          · replace h := itF h c_24
            refine lv_aload_n hx hb d_Mo_onePart_40 rfl (lv_at hl 0 rfl) ?_
            refine va_get (D := (dC, dI)) (ci := 5) (v := .ref h_this_value) (C := R_Mo) (T := F_Mo) (N := 12) hx hb hts in_Mo hown hK.1 hP 0 rfl rfl 7 (by decide) (hts _ m_424) (fun _ h9 => h9) rfl d_Mo_onePart_41 ?_
            refine lv_iload hx hb d_Mo_onePart_44 (lv_at hl 5 rfl) ?_
            obtain ⟨g_25, h⟩ := grd h
            refine va_iald hx hb hK.1 hP 3 1 rfl rfl (inB_in g_25) d_Mo_onePart_46 ?_
            refine lv_bipush (v := 44) hx hb d_Mo_onePart_47 (by decide) ?_
            refine lv_icmp_eq (tgt := 336) hx hb d_Mo_onePart_49 (by decide) (fun c_26 => ?_) (fun c_26 => ?_)
            · replace h := itT h c_26
              refine lv_iload hx hb d_Mo_onePart_336 (lv_at hl 4 rfl) ?_
              refine lv_iconst (v := 1) hx hb d_Mo_onePart_338 (by decide) ?_
              refine lv_icmp_ne (tgt := 347) hx hb d_Mo_onePart_339 (by decide) (fun c_27 => ?_) (fun c_27 => ?_)
              · replace h := itF h c_27
                refine lv_iload hx hb d_Mo_onePart_347 (lv_at hl 5 rfl) ?_
                refine lv_iconst (v := 1) hx hb d_Mo_onePart_349 (by decide) ?_
                refine lv_iadd hx hb d_Mo_onePart_350 ?_
                obtain rfl := Option.some.inj h
                exact W.iret (v := x6 + 1) hx hb hr (fun t ht hW => ⟨⟨x6 + 1, (), rfl, rfl, by rw [ht]; exact hP, hD⟩, hS.F ht⟩) hS.2.2 d_Mo_onePart_351 hlk
              · replace h := itT h c_27
                refine lv_aload_n hx hb d_Mo_onePart_342 rfl (lv_at hl 0 rfl) ?_
                refine lv_iconst (v := 0) hx hb d_Mo_onePart_343 (by decide) ?_
                refine va_put (D := (dC, dI)) (ci := 5) (v := .int 0) (ty := .int) (C := R_Mo) (T := F_Mo) (N := 12) hx hb hts in_Mo t_Mo t_Mo_ok n_Mo hown hK.1 hP hD hS 0 rfl rfl 11 (by decide) (hts _ m_428) (fun _ h9 => h9) rfl (by decide +kernel) rfl rfl (Nat.le_of_ble_eq_true rfl) d_Mo_onePart_344 (fun H locs hP hD hS => ?_)
                have hP : va_P (dC, dI) classes [(h_this, .inr (5, [.int v_thrownCode, .ref h_this_put, .int v_puts, .ref h_this_text, .int v_bytes, .int v_nameFrom, .int v_names, .ref h_this_value, .int v_values, .int v_behind, .ref h_this_part, .int 0])), (h_this_put, .inl (cI, 300, .inl v_put)), (h_this_text, .inl (cI, 300, .inl v_text)), (h_this_value, .inl (cI, 300, .inl v_value)), (h_this_part, .inl (cI, 300, .inl v_part))] H := hP
                have hD : va_D A [(h_this, .inr (5, [.int v_thrownCode, .ref h_this_put, .int v_puts, .ref h_this_text, .int v_bytes, .int v_nameFrom, .int v_names, .ref h_this_value, .int v_values, .int v_behind, .ref h_this_part, .int 0])), (h_this_put, .inl (cI, 300, .inl v_put)), (h_this_text, .inl (cI, 300, .inl v_text)), (h_this_value, .inl (cI, 300, .inl v_value)), (h_this_part, .inl (cI, 300, .inl v_part))] := hD
                refine lv_iload hx hb d_Mo_onePart_347 (lv_at hl 5 rfl) ?_
                refine lv_iconst (v := 1) hx hb d_Mo_onePart_349 (by decide) ?_
                refine lv_iadd hx hb d_Mo_onePart_350 ?_
                obtain rfl := Option.some.inj h
                exact W.iret (v := x6 + 1) hx hb hr (fun t ht hW => ⟨⟨x6 + 1, (), rfl, rfl, by rw [ht]; exact hP, hD⟩, hS.F ht⟩) hS.2.2 d_Mo_onePart_351 hlk
            · replace h := itF h c_26
              exact k_Mo_onePart_52 C hK hA N h_this h_this_put h_this_text h_this_value h_this_part v_thrownCode v_puts v_bytes v_nameFrom v_names v_behind v_put v_text v_values v_value z (f_Mo_onePart_18 N v_values v_value n) ih x2 x3 x4 x5 x6 v_parts v_part h _ _ hP hD hS _ (lv_sub hl [0, 1, 2, 3, 4, 5] rfl)
set_option maxHeartbeats 4000000 in
set_option maxRecDepth 100000 in
theorem c_Mo_onePart {l : Launch} {dC : Nat → ClassId} {dI : Nat → Nat → Nat} {cB cI : ClassId} {aK aV : Nat → Nat} (N : Nat) (h_this h_this_put h_this_text h_this_value h_this_part : Nat) (v_thrownCode : Int32) (v_puts : Int32) (v_bytes : Int32) (v_nameFrom : Int32) (v_names : Int32) (v_values : Int32) (v_behind : Int32) (v_parts : Int32) (v_put : Nat → Int32) (v_text : Nat → Int32) (v_value : Nat → Int32) (v_part : Nat → Int32) (x1 : Int32) (z : Int32 × Int32 × (Nat → Int32)) (h : f_Mo_onePart N x1 v_values v_parts v_value v_part = some z) : Ci l y_Mo_onePart prog_7_method_12_code 10 (some .int) ({ frames := 1, cells := 0, slots := 0, locals := 20 }) (dC, dI) cB cI aK aV [.ref h_this, .int x1] [(h_this, .inr (5, [.int v_thrownCode, .ref h_this_put, .int v_puts, .ref h_this_text, .int v_bytes, .int v_nameFrom, .int v_names, .ref h_this_value, .int v_values, .int v_behind, .ref h_this_part, .int v_parts])), (h_this_put, .inl (cI, 300, .inl v_put)), (h_this_text, .inl (cI, 300, .inl v_text)), (h_this_value, .inl (cI, 300, .inl v_value)), (h_this_part, .inl (cI, 300, .inl v_part))] (fun A => (Qi (dC, dI) [(h_this, .inr (5, [.int v_thrownCode, .ref h_this_put, .int v_puts, .ref h_this_text, .int v_bytes, .int v_nameFrom, .int v_names, .ref h_this_value, .int v_values, .int v_behind, .ref h_this_part, .int z.2.1])), (h_this_put, .inl (cI, 300, .inl v_put)), (h_this_text, .inl (cI, 300, .inl v_text)), (h_this_value, .inl (cI, 300, .inl v_value)), (h_this_part, .inl (cI, 300, .inl z.2.2))] A z.1)) := by
  refine Ci_of (by decide) (Nat.le_of_ble_eq_true rfl) (fun p e s m below meth c A C hK hnm hA hP hD ls hl => ?_)
  obtain ⟨hx, hb, hr, hml, hown, hts, hlk⟩ := id C
  have hS : va_S A s.heap s.heap [] := va_S.rf
  have hl : lv_has ls 10 [(0, .ref h_this), (1, .int x1)] := hl
  rw [f_Mo_onePart] at h
  refine lv_iconst (v := 0) hx hb d_Mo_onePart_0 (by decide) ?_
  refine lv_istore_n (lv' := [(2, .int 0), (0, .ref h_this), (1, .int x1)]) hx hb d_Mo_onePart_1 rfl hl (by decide) rfl (fun ls hl => ?_)
  refine lv_iconst (v := 0) hx hb d_Mo_onePart_2 (by decide) ?_
  refine lv_istore_n (lv' := [(3, .int 0), (2, .int 0), (0, .ref h_this), (1, .int x1)]) hx hb d_Mo_onePart_3 rfl hl (by decide) rfl (fun ls hl => ?_)
  refine lv_iconst (v := 0) hx hb d_Mo_onePart_4 (by decide) ?_
  refine lv_istore (lv' := [(4, .int 0), (3, .int 0), (2, .int 0), (0, .ref h_this), (1, .int x1)]) hx hb d_Mo_onePart_5 hl (by decide) rfl (fun ls hl => ?_)
  refine lv_iconst (v := 0) hx hb d_Mo_onePart_7 (by decide) ?_
  refine lv_istore (lv' := [(5, .int 0), (4, .int 0), (3, .int 0), (2, .int 0), (0, .ref h_this), (1, .int x1)]) hx hb d_Mo_onePart_8 hl (by decide) rfl (fun ls hl => ?_)
  refine lv_iload_n hx hb d_Mo_onePart_10 rfl (lv_at hl 5 rfl) ?_
  refine lv_istore (lv' := [(6, .int x1), (5, .int 0), (4, .int 0), (3, .int 0), (2, .int 0), (0, .ref h_this), (1, .int x1)]) hx hb d_Mo_onePart_11 hl (by decide) rfl (fun ls hl => ?_)
  refine lv_aload_n hx hb d_Mo_onePart_13 rfl (lv_at hl 5 rfl) ?_
  refine lv_iconst (v := 0) hx hb d_Mo_onePart_14 (by decide) ?_
  refine va_put (D := (dC, dI)) (ci := 5) (v := .int 0) (ty := .int) (C := R_Mo) (T := F_Mo) (N := 12) hx hb hts in_Mo t_Mo t_Mo_ok n_Mo hown hK.1 hP hD hS 0 rfl rfl 11 (by decide) (hts _ m_428) (fun _ h9 => h9) rfl (by decide +kernel) rfl rfl (Nat.le_of_ble_eq_true rfl) d_Mo_onePart_15 (fun H locs hP hD hS => ?_)
  have hP : va_P (dC, dI) classes [(h_this, .inr (5, [.int v_thrownCode, .ref h_this_put, .int v_puts, .ref h_this_text, .int v_bytes, .int v_nameFrom, .int v_names, .ref h_this_value, .int v_values, .int v_behind, .ref h_this_part, .int 0])), (h_this_put, .inl (cI, 300, .inl v_put)), (h_this_text, .inl (cI, 300, .inl v_text)), (h_this_value, .inl (cI, 300, .inl v_value)), (h_this_part, .inl (cI, 300, .inl v_part))] H := hP
  have hD : va_D A [(h_this, .inr (5, [.int v_thrownCode, .ref h_this_put, .int v_puts, .ref h_this_text, .int v_bytes, .int v_nameFrom, .int v_names, .ref h_this_value, .int v_values, .int v_behind, .ref h_this_part, .int 0])), (h_this_put, .inl (cI, 300, .inl v_put)), (h_this_text, .inl (cI, 300, .inl v_text)), (h_this_value, .inl (cI, 300, .inl v_value)), (h_this_part, .inl (cI, 300, .inl v_part))] := hD
  exact k_Mo_onePart_18 C hK hA N h_this h_this_put h_this_text h_this_value h_this_part v_thrownCode v_puts v_bytes v_nameFrom v_names v_behind v_put v_text v_values v_value z N 0 0 0 0 x1 0 v_part h _ _ hP hD hS _ (lv_sub hl [5, 4, 3, 2, 1, 0] rfl)
set_option maxHeartbeats 4000000 in
set_option maxRecDepth 100000 in
theorem k_Mo_addressAt_4 {p : Program} {l : Launch} {e : Env} {s : State} {m : MethodId} {args : Array Value} {below : List Frame} {meth : Method} {c : Code} {dC : Nat → ClassId} {dI : Nat → Nat → Nat} {cB cI : ClassId} {aK aV : Nat → Nat} {A : Nat → Prop} (C : cx p s m args meth c R_Mo prog_7_method_11_code 5 (some .int)) (hK : kx (dC, dI) cB cI aK aV A s) (hA : ∀ q : Nat, s.heap.size ≤ q → A q) (N : Nat) (h_this h_this_put h_this_text h_this_value h_this_part : Nat) (v_thrownCode : Int32) (v_puts : Int32) (v_bytes : Int32) (v_nameFrom : Int32) (v_names : Int32) (v_behind : Int32) (v_put : Nat → Int32) (v_text : Nat → Int32) (x1 : Int32) (v_values : Int32) (v_value : Nat → Int32) (z : Int32 × Int32 × (Nat → Int32)) :
    ∀ (n : Nat), ∀ (x2 : Int32) (x3 : Int32) (v_parts : Int32) (v_part : Nat → Int32), f_Mo_addressAt_4 N x1 v_values v_value n x2 x3 v_parts v_part = some z → ∀ (H : Heap) (locs : List Loc), va_P (dC, dI) classes [(h_this, .inr (5, [.int v_thrownCode, .ref h_this_put, .int v_puts, .ref h_this_text, .int v_bytes, .int v_nameFrom, .int v_names, .ref h_this_value, .int v_values, .int v_behind, .ref h_this_part, .int v_parts])), (h_this_put, .inl (cI, 300, .inl v_put)), (h_this_text, .inl (cI, 300, .inl v_text)), (h_this_value, .inl (cI, 300, .inl v_value)), (h_this_part, .inl (cI, 300, .inl v_part))] H → va_D A [(h_this, .inr (5, [.int v_thrownCode, .ref h_this_put, .int v_puts, .ref h_this_text, .int v_bytes, .int v_nameFrom, .int v_names, .ref h_this_value, .int v_values, .int v_behind, .ref h_this_part, .int v_parts])), (h_this_put, .inl (cI, 300, .inl v_put)), (h_this_text, .inl (cI, 300, .inl v_text)), (h_this_value, .inl (cI, 300, .inl v_value)), (h_this_part, .inl (cI, 300, .inl v_part))] → va_S A s.heap H locs → ∀ ls : Array Slot, lv_has ls 5 [(0, .ref h_this), (1, .int x1), (2, .int x2), (3, .int x3)] → W p l e ({ frames := 3, cells := 0, slots := 0, locals := 65 }) s m args below meth c H locs 0 0 (MQ below (Qi (dC, dI) [(h_this, .inr (5, [.int v_thrownCode, .ref h_this_put, .int v_puts, .ref h_this_text, .int v_bytes, .int v_nameFrom, .int v_names, .ref h_this_value, .int v_values, .int v_behind, .ref h_this_part, .int z.2.1])), (h_this_put, .inl (cI, 300, .inl v_put)), (h_this_text, .inl (cI, 300, .inl v_text)), (h_this_value, .inl (cI, 300, .inl v_value)), (h_this_part, .inl (cI, 300, .inl z.2.2))] A z.1) args s 0 0 A) (F0 m 4 ls []) := by
  obtain ⟨hx, hb, hr, hml, hown, hts, hlk⟩ := id C
  intro n
  induction n with
  | zero =>
    intro x2 x3 v_parts v_part h
    rw [f_Mo_addressAt_4] at h
    cases h
  | succ n ih =>
    intro x2 x3 v_parts v_part h H locs hP hD hS ls hl
    rw [f_Mo_addressAt_4] at h
    refine lv_iload_n hx hb d_Mo_addressAt_4 rfl (lv_at hl 2 rfl) ?_
    refine lv_aload_n hx hb d_Mo_addressAt_5 rfl (lv_at hl 0 rfl) ?_
    refine va_get (D := (dC, dI)) (ci := 5) (v := .int v_values) (C := R_Mo) (T := F_Mo) (N := 12) hx hb hts in_Mo hown hK.1 hP 0 rfl rfl 8 (by decide) (hts _ m_425) (fun _ h9 => h9) rfl d_Mo_addressAt_6 ?_
    refine lv_icmp_gt (tgt := 48) hx hb d_Mo_addressAt_9 (by decide) (fun c_1 => ?_) (fun c_1 => ?_)
    · replace h := itT h c_1
      refine lv_iconst (v := (-1)) hx hb d_Mo_addressAt_48 (by decide) ?_
      obtain rfl := Option.some.inj h
      exact W.iret (v := (-1)) hx hb hr (fun t ht hW => ⟨⟨(-1), (), rfl, rfl, by rw [ht]; exact hP, hD⟩, hS.F ht⟩) hS.2.2 d_Mo_addressAt_49 hlk
    · replace h := itF h c_1
      refine lv_aload_n hx hb d_Mo_addressAt_12 rfl (lv_at hl 0 rfl) ?_
      refine lv_iload_n hx hb d_Mo_addressAt_13 rfl (lv_at hl 2 rfl) ?_
      obtain ⟨z2, hc_2, h⟩ := bs h
      refine go_i (wr := []) (w1 := [(h_this, .inr (5, [.int v_thrownCode, .ref h_this_put, .int v_puts, .ref h_this_text, .int v_bytes, .int v_nameFrom, .int v_names, .ref h_this_value, .int v_values, .int v_behind, .ref h_this_part, .int z2.2.1])), (h_this_put, .inl (cI, 300, .inl v_put)), (h_this_text, .inl (cI, 300, .inl v_text)), (h_this_value, .inl (cI, 300, .inl v_value)), (h_this_part, .inl (cI, 300, .inl z2.2.2))]) (ws2 := [(h_this, .inr (5, [.int v_thrownCode, .ref h_this_put, .int v_puts, .ref h_this_text, .int v_bytes, .int v_nameFrom, .int v_names, .ref h_this_value, .int v_values, .int v_behind, .ref h_this_part, .int z2.2.1])), (h_this_put, .inl (cI, 300, .inl v_put)), (h_this_text, .inl (cI, 300, .inl v_text)), (h_this_value, .inl (cI, 300, .inl v_value)), (h_this_part, .inl (cI, 300, .inl z2.2.2))]) hP hD hS hA [0, 1, 2, 3, 4] [] [0, 1, 2, 3, 4] rfl (by decide) rfl (by decide) (by decide) rfl (by decide) (fun hPc hDc hFc => rn_V (As := [.int x2]) (rest := []) C hK (c_Mo_onePart N h_this h_this_put h_this_text h_this_value h_this_part v_thrownCode v_puts v_bytes v_nameFrom v_names v_values v_behind v_parts v_put v_text v_value v_part x2 z2 hc_2 _) ⟨rfl, rfl⟩ m_497 ok_Mo_onePart ⟨by decide, by decide⟩ rfl rfl rfl hl.1 rfl (Nat.le_of_ble_eq_true rfl) d_Mo_addressAt_14 ⟨by decide, by decide⟩ hS hPc hDc hFc) (fun H locs hP hD hS => ?_)
      refine lv_istore_n (lv' := [(2, .int z2.1), (0, .ref h_this), (1, .int x1), (3, .int x3)]) hx hb d_Mo_addressAt_17 rfl hl (by decide) rfl (fun ls hl => ?_)
      refine lv_aload_n hx hb d_Mo_addressAt_18 rfl (lv_at hl 1 rfl) ?_
      obtain ⟨z3, hc_3, h⟩ := bs h
      refine go_i (wr := []) (w1 := [(h_this, .inr (5, [.int v_thrownCode, .ref h_this_put, .int v_puts, .ref h_this_text, .int v_bytes, .int v_nameFrom, .int v_names, .ref h_this_value, .int v_values, .int v_behind, .ref h_this_part, .int z2.2.1])), (h_this_put, .inl (cI, 300, .inl v_put)), (h_this_text, .inl (cI, 300, .inl v_text)), (h_this_value, .inl (cI, 300, .inl v_value)), (h_this_part, .inl (cI, 300, .inl z2.2.2))]) (ws2 := [(h_this, .inr (5, [.int v_thrownCode, .ref h_this_put, .int v_puts, .ref h_this_text, .int v_bytes, .int v_nameFrom, .int v_names, .ref h_this_value, .int v_values, .int v_behind, .ref h_this_part, .int z2.2.1])), (h_this_put, .inl (cI, 300, .inl v_put)), (h_this_text, .inl (cI, 300, .inl v_text)), (h_this_value, .inl (cI, 300, .inl v_value)), (h_this_part, .inl (cI, 300, .inl z2.2.2))]) hP hD hS hA [0, 1, 2, 3, 4] [] [0, 1, 2, 3, 4] rfl (by decide) rfl (by decide) (by decide) rfl (by decide) (fun hPc hDc hFc => rn_V (As := []) (rest := []) C hK (c_Mo_at N h_this h_this_put h_this_text h_this_value h_this_part v_thrownCode v_puts v_bytes v_nameFrom v_names v_values v_behind z2.2.1 v_put v_text v_value z2.2.2 z3 hc_3 _) ⟨rfl, rfl⟩ m_501 ok_Mo_at ⟨by decide, by decide⟩ rfl rfl rfl hl.1 rfl (Nat.le_of_ble_eq_true rfl) d_Mo_addressAt_19 ⟨by decide, by decide⟩ hS hPc hDc hFc) (fun H locs hP hD hS => ?_)
      refine lv_istore (lv' := [(4, .int z3), (2, .int z2.1), (0, .ref h_this), (1, .int x1), (3, .int x3)]) hx hb d_Mo_addressAt_22 hl (by decide) rfl (fun ls hl => ?_)
      refine lv_iload hx hb d_Mo_addressAt_24 (lv_at hl 0 rfl) ?_
      refine lv_if_lt (tgt := 32) hx hb d_Mo_addressAt_26 (by decide) (fun c_4 => ?_) (fun c_4 => ?_)
      · replace h := itT h c_4
        refine lv_iload hx hb d_Mo_addressAt_32 (lv_at hl 0 rfl) ?_
        refine lv_if_lt (tgt := 45) hx hb d_Mo_addressAt_34 (by decide) (fun c_5 => ?_) (fun c_5 => ?_)
        · replace h := itT h c_5
          refine lv_goto (tgt := 4) hx hb d_Mo_addressAt_45 (by decide) ?_
          exact ih z2.1 x3 z2.2.1 z2.2.2 h _ _ hP hD hS _ (lv_sub hl [2, 3, 1, 4] rfl)
        · replace h := itF h c_5
          refine lv_iload_n hx hb d_Mo_addressAt_37 rfl (lv_at hl 4 rfl) ?_
          refine lv_iload_n hx hb d_Mo_addressAt_38 rfl (lv_at hl 3 rfl) ?_
          refine lv_icmp_ne (tgt := 45) hx hb d_Mo_addressAt_39 (by decide) (fun c_6 => ?_) (fun c_6 => ?_)
          · replace h := itF h c_6
            refine lv_goto (tgt := 4) hx hb d_Mo_addressAt_45 (by decide) ?_
            exact ih z2.1 x3 z2.2.1 z2.2.2 h _ _ hP hD hS _ (lv_sub hl [2, 3, 1, 4] rfl)
          · replace h := itT h c_6
            refine lv_iload hx hb d_Mo_addressAt_42 (lv_at hl 0 rfl) ?_
            obtain rfl := Option.some.inj h
            exact W.iret (v := z3) hx hb hr (fun t ht hW => ⟨⟨z3, (), rfl, rfl, by rw [ht]; exact hP, hD⟩, hS.F ht⟩) hS.2.2 d_Mo_addressAt_44 hlk
      · replace h := itF h c_4
        refine lv_iinc (v := x3 + 1) (lv' := [(3, .int (x3 + 1)), (4, .int z3), (2, .int z2.1), (0, .ref h_this), (1, .int x1)]) hx hb d_Mo_addressAt_29 hl (k := 4) rfl rfl (by decide) rfl (fun ls hl => ?_)
        refine lv_iload hx hb d_Mo_addressAt_32 (lv_at hl 1 rfl) ?_
        refine lv_if_lt (tgt := 45) hx hb d_Mo_addressAt_34 (by decide) (fun c_7 => ?_) (fun c_7 => ?_)
        · replace h := itT h c_7
          refine lv_goto (tgt := 4) hx hb d_Mo_addressAt_45 (by decide) ?_
          exact ih z2.1 (x3 + 1) z2.2.1 z2.2.2 h _ _ hP hD hS _ (lv_sub hl [3, 4, 2, 0] rfl)
        · replace h := itF h c_7
          refine lv_iload_n hx hb d_Mo_addressAt_37 rfl (lv_at hl 0 rfl) ?_
          refine lv_iload_n hx hb d_Mo_addressAt_38 rfl (lv_at hl 4 rfl) ?_
          refine lv_icmp_ne (tgt := 45) hx hb d_Mo_addressAt_39 (by decide) (fun c_8 => ?_) (fun c_8 => ?_)
          · replace h := itF h c_8
            refine lv_goto (tgt := 4) hx hb d_Mo_addressAt_45 (by decide) ?_
            exact ih z2.1 (x3 + 1) z2.2.1 z2.2.2 h _ _ hP hD hS _ (lv_sub hl [3, 4, 2, 0] rfl)
          · replace h := itT h c_8
            refine lv_iload hx hb d_Mo_addressAt_42 (lv_at hl 1 rfl) ?_
            obtain rfl := Option.some.inj h
            exact W.iret (v := z3) hx hb hr (fun t ht hW => ⟨⟨z3, (), rfl, rfl, by rw [ht]; exact hP, hD⟩, hS.F ht⟩) hS.2.2 d_Mo_addressAt_44 hlk
set_option maxHeartbeats 4000000 in
set_option maxRecDepth 100000 in
theorem c_Mo_addressAt {l : Launch} {dC : Nat → ClassId} {dI : Nat → Nat → Nat} {cB cI : ClassId} {aK aV : Nat → Nat} (N : Nat) (h_this h_this_put h_this_text h_this_value h_this_part : Nat) (v_thrownCode : Int32) (v_puts : Int32) (v_bytes : Int32) (v_nameFrom : Int32) (v_names : Int32) (v_values : Int32) (v_behind : Int32) (v_parts : Int32) (v_put : Nat → Int32) (v_text : Nat → Int32) (v_value : Nat → Int32) (v_part : Nat → Int32) (x1 : Int32) (z : Int32 × Int32 × (Nat → Int32)) (h : f_Mo_addressAt N x1 v_values v_parts v_value v_part = some z) : Ci l y_Mo_addressAt prog_7_method_11_code 5 (some .int) ({ frames := 3, cells := 0, slots := 0, locals := 65 }) (dC, dI) cB cI aK aV [.ref h_this, .int x1] [(h_this, .inr (5, [.int v_thrownCode, .ref h_this_put, .int v_puts, .ref h_this_text, .int v_bytes, .int v_nameFrom, .int v_names, .ref h_this_value, .int v_values, .int v_behind, .ref h_this_part, .int v_parts])), (h_this_put, .inl (cI, 300, .inl v_put)), (h_this_text, .inl (cI, 300, .inl v_text)), (h_this_value, .inl (cI, 300, .inl v_value)), (h_this_part, .inl (cI, 300, .inl v_part))] (fun A => (Qi (dC, dI) [(h_this, .inr (5, [.int v_thrownCode, .ref h_this_put, .int v_puts, .ref h_this_text, .int v_bytes, .int v_nameFrom, .int v_names, .ref h_this_value, .int v_values, .int v_behind, .ref h_this_part, .int z.2.1])), (h_this_put, .inl (cI, 300, .inl v_put)), (h_this_text, .inl (cI, 300, .inl v_text)), (h_this_value, .inl (cI, 300, .inl v_value)), (h_this_part, .inl (cI, 300, .inl z.2.2))] A z.1)) := by
  refine Ci_of (by decide) (Nat.le_of_ble_eq_true rfl) (fun p e s m below meth c A C hK hnm hA hP hD ls hl => ?_)
  obtain ⟨hx, hb, hr, hml, hown, hts, hlk⟩ := id C
  have hS : va_S A s.heap s.heap [] := va_S.rf
  have hl : lv_has ls 5 [(0, .ref h_this), (1, .int x1)] := hl
  rw [f_Mo_addressAt] at h
  refine lv_iconst (v := 0) hx hb d_Mo_addressAt_0 (by decide) ?_
  refine lv_istore_n (lv' := [(2, .int 0), (0, .ref h_this), (1, .int x1)]) hx hb d_Mo_addressAt_1 rfl hl (by decide) rfl (fun ls hl => ?_)
  refine lv_iconst (v := (-1)) hx hb d_Mo_addressAt_2 (by decide) ?_
  refine lv_istore_n (lv' := [(3, .int (-1)), (2, .int 0), (0, .ref h_this), (1, .int x1)]) hx hb d_Mo_addressAt_3 rfl hl (by decide) rfl (fun ls hl => ?_)
  exact k_Mo_addressAt_4 C hK hA N h_this h_this_put h_this_text h_this_value h_this_part v_thrownCode v_puts v_bytes v_nameFrom v_names v_behind v_put v_text x1 v_values v_value z N 0 (-1) v_parts v_part h _ _ hP hD hS _ (lv_sub hl [2, 3, 1, 0] rfl)
set_option maxHeartbeats 4000000 in
set_option maxRecDepth 100000 in
theorem k_Mo_addresses_4 {p : Program} {l : Launch} {e : Env} {s : State} {m : MethodId} {args : Array Value} {below : List Frame} {meth : Method} {c : Code} {dC : Nat → ClassId} {dI : Nat → Nat → Nat} {cB cI : ClassId} {aK aV : Nat → Nat} {A : Nat → Prop} (C : cx p s m args meth c R_Mo prog_7_method_13_code 3 (some .int)) (hK : kx (dC, dI) cB cI aK aV A s) (hA : ∀ q : Nat, s.heap.size ≤ q → A q) (N : Nat) (h_this h_this_put h_this_text h_this_value h_this_part : Nat) (v_thrownCode : Int32) (v_puts : Int32) (v_bytes : Int32) (v_nameFrom : Int32) (v_names : Int32) (v_behind : Int32) (v_put : Nat → Int32) (v_text : Nat → Int32) (v_values : Int32) (v_value : Nat → Int32) (z : Int32 × Int32 × (Nat → Int32)) :
    ∀ (n : Nat), ∀ (x1 : Int32) (x2 : Int32) (v_parts : Int32) (v_part : Nat → Int32), f_Mo_addresses_4 N v_values v_value n x1 x2 v_parts v_part = some z → ∀ (H : Heap) (locs : List Loc), va_P (dC, dI) classes [(h_this, .inr (5, [.int v_thrownCode, .ref h_this_put, .int v_puts, .ref h_this_text, .int v_bytes, .int v_nameFrom, .int v_names, .ref h_this_value, .int v_values, .int v_behind, .ref h_this_part, .int v_parts])), (h_this_put, .inl (cI, 300, .inl v_put)), (h_this_text, .inl (cI, 300, .inl v_text)), (h_this_value, .inl (cI, 300, .inl v_value)), (h_this_part, .inl (cI, 300, .inl v_part))] H → va_D A [(h_this, .inr (5, [.int v_thrownCode, .ref h_this_put, .int v_puts, .ref h_this_text, .int v_bytes, .int v_nameFrom, .int v_names, .ref h_this_value, .int v_values, .int v_behind, .ref h_this_part, .int v_parts])), (h_this_put, .inl (cI, 300, .inl v_put)), (h_this_text, .inl (cI, 300, .inl v_text)), (h_this_value, .inl (cI, 300, .inl v_value)), (h_this_part, .inl (cI, 300, .inl v_part))] → va_S A s.heap H locs → ∀ ls : Array Slot, lv_has ls 3 [(0, .ref h_this), (1, .int x1), (2, .int x2)] → W p l e ({ frames := 3, cells := 0, slots := 0, locals := 65 }) s m args below meth c H locs 0 0 (MQ below (Qi (dC, dI) [(h_this, .inr (5, [.int v_thrownCode, .ref h_this_put, .int v_puts, .ref h_this_text, .int v_bytes, .int v_nameFrom, .int v_names, .ref h_this_value, .int v_values, .int v_behind, .ref h_this_part, .int z.2.1])), (h_this_put, .inl (cI, 300, .inl v_put)), (h_this_text, .inl (cI, 300, .inl v_text)), (h_this_value, .inl (cI, 300, .inl v_value)), (h_this_part, .inl (cI, 300, .inl z.2.2))] A z.1) args s 0 0 A) (F0 m 4 ls []) := by
  obtain ⟨hx, hb, hr, hml, hown, hts, hlk⟩ := id C
  intro n
  induction n with
  | zero =>
    intro x1 x2 v_parts v_part h
    rw [f_Mo_addresses_4] at h
    cases h
  | succ n ih =>
    intro x1 x2 v_parts v_part h H locs hP hD hS ls hl
    rw [f_Mo_addresses_4] at h
    refine lv_iload_n hx hb d_Mo_addresses_4 rfl (lv_at hl 2 rfl) ?_
    refine lv_aload_n hx hb d_Mo_addresses_5 rfl (lv_at hl 0 rfl) ?_
    refine va_get (D := (dC, dI)) (ci := 5) (v := .int v_values) (C := R_Mo) (T := F_Mo) (N := 12) hx hb hts in_Mo hown hK.1 hP 0 rfl rfl 8 (by decide) (hts _ m_425) (fun _ h9 => h9) rfl d_Mo_addresses_6 ?_
    refine lv_icmp_gt (tgt := 31) hx hb d_Mo_addresses_9 (by decide) (fun c_1 => ?_) (fun c_1 => ?_)
    · replace h := itT h c_1
      refine lv_iload_n hx hb d_Mo_addresses_31 rfl (lv_at hl 1 rfl) ?_
      obtain rfl := Option.some.inj h
      exact W.iret (v := x1) hx hb hr (fun t ht hW => ⟨⟨x1, (), rfl, rfl, by rw [ht]; exact hP, hD⟩, hS.F ht⟩) hS.2.2 d_Mo_addresses_32 hlk
    · replace h := itF h c_1
      refine lv_aload_n hx hb d_Mo_addresses_12 rfl (lv_at hl 0 rfl) ?_
      refine lv_iload_n hx hb d_Mo_addresses_13 rfl (lv_at hl 2 rfl) ?_
      obtain ⟨z2, hc_2, h⟩ := bs h
      refine go_i (wr := []) (w1 := [(h_this, .inr (5, [.int v_thrownCode, .ref h_this_put, .int v_puts, .ref h_this_text, .int v_bytes, .int v_nameFrom, .int v_names, .ref h_this_value, .int v_values, .int v_behind, .ref h_this_part, .int z2.2.1])), (h_this_put, .inl (cI, 300, .inl v_put)), (h_this_text, .inl (cI, 300, .inl v_text)), (h_this_value, .inl (cI, 300, .inl v_value)), (h_this_part, .inl (cI, 300, .inl z2.2.2))]) (ws2 := [(h_this, .inr (5, [.int v_thrownCode, .ref h_this_put, .int v_puts, .ref h_this_text, .int v_bytes, .int v_nameFrom, .int v_names, .ref h_this_value, .int v_values, .int v_behind, .ref h_this_part, .int z2.2.1])), (h_this_put, .inl (cI, 300, .inl v_put)), (h_this_text, .inl (cI, 300, .inl v_text)), (h_this_value, .inl (cI, 300, .inl v_value)), (h_this_part, .inl (cI, 300, .inl z2.2.2))]) hP hD hS hA [0, 1, 2, 3, 4] [] [0, 1, 2, 3, 4] rfl (by decide) rfl (by decide) (by decide) rfl (by decide) (fun hPc hDc hFc => rn_V (As := [.int x2]) (rest := []) C hK (c_Mo_onePart N h_this h_this_put h_this_text h_this_value h_this_part v_thrownCode v_puts v_bytes v_nameFrom v_names v_values v_behind v_parts v_put v_text v_value v_part x2 z2 hc_2 _) ⟨rfl, rfl⟩ m_497 ok_Mo_onePart ⟨by decide, by decide⟩ rfl rfl rfl hl.1 rfl (Nat.le_of_ble_eq_true rfl) d_Mo_addresses_14 ⟨by decide, by decide⟩ hS hPc hDc hFc) (fun H locs hP hD hS => ?_)
      refine lv_istore_n (lv' := [(2, .int z2.1), (0, .ref h_this), (1, .int x1)]) hx hb d_Mo_addresses_17 rfl hl (by decide) rfl (fun ls hl => ?_)
      refine lv_aload_n hx hb d_Mo_addresses_18 rfl (lv_at hl 1 rfl) ?_
      obtain ⟨z3, hc_3, h⟩ := bs h
      refine go_i (wr := []) (w1 := [(h_this, .inr (5, [.int v_thrownCode, .ref h_this_put, .int v_puts, .ref h_this_text, .int v_bytes, .int v_nameFrom, .int v_names, .ref h_this_value, .int v_values, .int v_behind, .ref h_this_part, .int z2.2.1])), (h_this_put, .inl (cI, 300, .inl v_put)), (h_this_text, .inl (cI, 300, .inl v_text)), (h_this_value, .inl (cI, 300, .inl v_value)), (h_this_part, .inl (cI, 300, .inl z2.2.2))]) (ws2 := [(h_this, .inr (5, [.int v_thrownCode, .ref h_this_put, .int v_puts, .ref h_this_text, .int v_bytes, .int v_nameFrom, .int v_names, .ref h_this_value, .int v_values, .int v_behind, .ref h_this_part, .int z2.2.1])), (h_this_put, .inl (cI, 300, .inl v_put)), (h_this_text, .inl (cI, 300, .inl v_text)), (h_this_value, .inl (cI, 300, .inl v_value)), (h_this_part, .inl (cI, 300, .inl z2.2.2))]) hP hD hS hA [0, 1, 2, 3, 4] [] [0, 1, 2, 3, 4] rfl (by decide) rfl (by decide) (by decide) rfl (by decide) (fun hPc hDc hFc => rn_V (As := []) (rest := []) C hK (c_Mo_at N h_this h_this_put h_this_text h_this_value h_this_part v_thrownCode v_puts v_bytes v_nameFrom v_names v_values v_behind z2.2.1 v_put v_text v_value z2.2.2 z3 hc_3 _) ⟨rfl, rfl⟩ m_501 ok_Mo_at ⟨by decide, by decide⟩ rfl rfl rfl hl.1 rfl (Nat.le_of_ble_eq_true rfl) d_Mo_addresses_19 ⟨by decide, by decide⟩ hS hPc hDc hFc) (fun H locs hP hD hS => ?_)
      refine lv_if_lt (tgt := 4) hx hb d_Mo_addresses_22 (by decide) (fun c_4 => ?_) (fun c_4 => ?_)
      · replace h := itT h c_4
        exact ih x1 z2.1 z2.2.1 z2.2.2 h _ _ hP hD hS _ (lv_sub hl [1, 2, 0] rfl)
      · replace h := itF h c_4
        refine lv_iinc (v := x1 + 1) (lv' := [(1, .int (x1 + 1)), (2, .int z2.1), (0, .ref h_this)]) hx hb d_Mo_addresses_25 hl (k := 2) rfl rfl (by decide) rfl (fun ls hl => ?_)
        refine lv_goto (tgt := 4) hx hb d_Mo_addresses_28 (by decide) ?_
        exact ih (x1 + 1) z2.1 z2.2.1 z2.2.2 h _ _ hP hD hS _ (lv_sub hl [2, 0, 1] rfl)
set_option maxHeartbeats 4000000 in
set_option maxRecDepth 100000 in
theorem c_Mo_addresses {l : Launch} {dC : Nat → ClassId} {dI : Nat → Nat → Nat} {cB cI : ClassId} {aK aV : Nat → Nat} (N : Nat) (h_this h_this_put h_this_text h_this_value h_this_part : Nat) (v_thrownCode : Int32) (v_puts : Int32) (v_bytes : Int32) (v_nameFrom : Int32) (v_names : Int32) (v_values : Int32) (v_behind : Int32) (v_parts : Int32) (v_put : Nat → Int32) (v_text : Nat → Int32) (v_value : Nat → Int32) (v_part : Nat → Int32) (z : Int32 × Int32 × (Nat → Int32)) (h : f_Mo_addresses N v_values v_parts v_value v_part = some z) : Ci l y_Mo_addresses prog_7_method_13_code 3 (some .int) ({ frames := 3, cells := 0, slots := 0, locals := 65 }) (dC, dI) cB cI aK aV [.ref h_this] [(h_this, .inr (5, [.int v_thrownCode, .ref h_this_put, .int v_puts, .ref h_this_text, .int v_bytes, .int v_nameFrom, .int v_names, .ref h_this_value, .int v_values, .int v_behind, .ref h_this_part, .int v_parts])), (h_this_put, .inl (cI, 300, .inl v_put)), (h_this_text, .inl (cI, 300, .inl v_text)), (h_this_value, .inl (cI, 300, .inl v_value)), (h_this_part, .inl (cI, 300, .inl v_part))] (fun A => (Qi (dC, dI) [(h_this, .inr (5, [.int v_thrownCode, .ref h_this_put, .int v_puts, .ref h_this_text, .int v_bytes, .int v_nameFrom, .int v_names, .ref h_this_value, .int v_values, .int v_behind, .ref h_this_part, .int z.2.1])), (h_this_put, .inl (cI, 300, .inl v_put)), (h_this_text, .inl (cI, 300, .inl v_text)), (h_this_value, .inl (cI, 300, .inl v_value)), (h_this_part, .inl (cI, 300, .inl z.2.2))] A z.1)) := by
  refine Ci_of (by decide) (Nat.le_of_ble_eq_true rfl) (fun p e s m below meth c A C hK hnm hA hP hD ls hl => ?_)
  obtain ⟨hx, hb, hr, hml, hown, hts, hlk⟩ := id C
  have hS : va_S A s.heap s.heap [] := va_S.rf
  have hl : lv_has ls 3 [(0, .ref h_this)] := hl
  rw [f_Mo_addresses] at h
  refine lv_iconst (v := 0) hx hb d_Mo_addresses_0 (by decide) ?_
  refine lv_istore_n (lv' := [(1, .int 0), (0, .ref h_this)]) hx hb d_Mo_addresses_1 rfl hl (by decide) rfl (fun ls hl => ?_)
  refine lv_iconst (v := 0) hx hb d_Mo_addresses_2 (by decide) ?_
  refine lv_istore_n (lv' := [(2, .int 0), (1, .int 0), (0, .ref h_this)]) hx hb d_Mo_addresses_3 rfl hl (by decide) rfl (fun ls hl => ?_)
  exact k_Mo_addresses_4 C hK hA N h_this h_this_put h_this_text h_this_value h_this_part v_thrownCode v_puts v_bytes v_nameFrom v_names v_behind v_put v_text v_values v_value z N 0 0 v_parts v_part h _ _ hP hD hS _ (lv_sub hl [2, 1, 0] rfl)
set_option maxHeartbeats 4000000 in
set_option maxRecDepth 100000 in
theorem k_Mo_eight_5 {p : Program} {l : Launch} {e : Env} {s : State} {m : MethodId} {args : Array Value} {below : List Frame} {meth : Method} {c : Code} {dC : Nat → ClassId} {dI : Nat → Nat → Nat} {cB cI : ClassId} {aK aV : Nat → Nat} {A : Nat → Prop} (C : cx p s m args meth c R_Mo prog_7_method_14_code 6 (some .long)) (hK : kx (dC, dI) cB cI aK aV A s) (hA : ∀ q : Nat, s.heap.size ≤ q → A q) (N : Nat) (h_p0 : Nat) (x1 : Int32) (x2 : Int32) (v_p0 : Nat → Int32) (z : Int64) :
    ∀ (n : Nat), ∀ (x3 : Int64) (x5 : Int32), f_Mo_eight_5 N x1 x2 v_p0 n x3 x5 = some z → ∀ (H : Heap) (locs : List Loc), va_P (dC, dI) classes [(h_p0, .inl (cI, 300, .inl v_p0))] H → va_D A [(h_p0, .inl (cI, 300, .inl v_p0))] → va_S A s.heap H locs → ∀ ls : Array Slot, lv_has ls 6 [(0, .ref h_p0), (1, .int x1), (2, .int x2), (3, .long x3), (5, .int x5)] → W p l e ({ frames := 0, cells := 0, slots := 0, locals := 0 }) s m args below meth c H locs 0 0 (MQ below (Ql (dC, dI) [(h_p0, .inl (cI, 300, .inl v_p0))] A z) args s 0 0 A) (F0 m 5 ls []) := by
  obtain ⟨hx, hb, hr, hml, hown, hts, hlk⟩ := id C
  intro n
  induction n with
  | zero =>
    intro x3 x5 h
    rw [f_Mo_eight_5] at h
    cases h
  | succ n ih =>
    intro x3 x5 h H locs hP hD hS ls hl
    rw [f_Mo_eight_5] at h
    refine lv_iload hx hb d_Mo_eight_5 (lv_at hl 4 rfl) ?_
    refine lv_bipush (v := 8) hx hb d_Mo_eight_7 (by decide) ?_
    refine lv_icmp_ge (tgt := 43) hx hb d_Mo_eight_9 (by decide) (fun c_1 => ?_) (fun c_1 => ?_)
    · replace h := itT h c_1
      refine lv_lload_n hx hb d_Mo_eight_43 rfl (lv_at hl 3 rfl) ?_
      obtain rfl := Option.some.inj h
      exact W.lret (v := x3) hx hb hr (fun t ht hW => ⟨⟨x3, (), rfl, rfl, by rw [ht]; exact hP, hD⟩, hS.F ht⟩) hS.2.2 d_Mo_eight_44 hlk
    · replace h := itF h c_1
      refine lv_lload_n hx hb d_Mo_eight_12 rfl (lv_at hl 3 rfl) ?_
      refine lv_bipush (v := 8) hx hb d_Mo_eight_13 (by decide) ?_
      refine lv_lshl hx hb d_Mo_eight_15 rfl ?_
      refine lv_iload_n hx hb d_Mo_eight_16 rfl (lv_at hl 2 rfl) ?_
      refine lv_iload_n hx hb d_Mo_eight_17 rfl (lv_at hl 1 rfl) ?_
      refine lv_iload hx hb d_Mo_eight_18 (lv_at hl 4 rfl) ?_
      refine lv_isub hx hb d_Mo_eight_20 ?_
      refine lv_icmp_ge (tgt := 33) hx hb d_Mo_eight_21 (by decide) (fun c_2 => ?_) (fun c_2 => ?_)
      · replace h := itT h c_2
        refine lv_iconst (v := 0) hx hb d_Mo_eight_33 (by decide) ?_
        refine lv_i2l hx hb d_Mo_eight_34 rfl ?_
        refine lv_lor hx hb d_Mo_eight_35 ?_
        refine lv_lstore_n (lv' := [(3, .long ((x3 <<< ((8 : Int32).toInt64 &&& 63)) ||| ((0 : Int32).toInt64))), (0, .ref h_p0), (1, .int x1), (2, .int x2), (5, .int x5)]) hx hb d_Mo_eight_36 rfl hl (by decide) rfl (fun ls hl => ?_)
        refine lv_iinc (v := x5 + 1) (lv' := [(5, .int (x5 + 1)), (3, .long ((x3 <<< ((8 : Int32).toInt64 &&& 63)) ||| ((0 : Int32).toInt64))), (0, .ref h_p0), (1, .int x1), (2, .int x2)]) hx hb d_Mo_eight_37 hl (k := 4) rfl rfl (by decide) rfl (fun ls hl => ?_)
        refine lv_goto (tgt := 5) hx hb d_Mo_eight_40 (by decide) ?_
        exact ih ((x3 <<< ((8 : Int32).toInt64 &&& 63)) ||| ((0 : Int32).toInt64)) (x5 + 1) h _ _ hP hD hS _ (lv_sub hl [2, 3, 4, 1, 0] rfl)
      · replace h := itF h c_2
        refine lv_aload_n hx hb d_Mo_eight_24 rfl (lv_at hl 0 rfl) ?_
        refine lv_iload_n hx hb d_Mo_eight_25 rfl (lv_at hl 2 rfl) ?_
        refine lv_iload hx hb d_Mo_eight_26 (lv_at hl 4 rfl) ?_
        refine lv_iadd hx hb d_Mo_eight_28 ?_
        obtain ⟨g_3, h⟩ := grd h
        refine va_iald hx hb hK.1 hP 0 1 rfl rfl (inB_in g_3) d_Mo_eight_29 ?_
        refine lv_goto (tgt := 34) hx hb d_Mo_eight_30 (by decide) ?_
        refine lv_i2l hx hb d_Mo_eight_34 rfl ?_
        refine lv_lor hx hb d_Mo_eight_35 ?_
        refine lv_lstore_n (lv' := [(3, .long ((x3 <<< ((8 : Int32).toInt64 &&& 63)) ||| ((v_p0 (x2 + x5).toNatClampNeg).toInt64))), (0, .ref h_p0), (1, .int x1), (2, .int x2), (5, .int x5)]) hx hb d_Mo_eight_36 rfl hl (by decide) rfl (fun ls hl => ?_)
        refine lv_iinc (v := x5 + 1) (lv' := [(5, .int (x5 + 1)), (3, .long ((x3 <<< ((8 : Int32).toInt64 &&& 63)) ||| ((v_p0 (x2 + x5).toNatClampNeg).toInt64))), (0, .ref h_p0), (1, .int x1), (2, .int x2)]) hx hb d_Mo_eight_37 hl (k := 4) rfl rfl (by decide) rfl (fun ls hl => ?_)
        refine lv_goto (tgt := 5) hx hb d_Mo_eight_40 (by decide) ?_
        exact ih ((x3 <<< ((8 : Int32).toInt64 &&& 63)) ||| ((v_p0 (x2 + x5).toNatClampNeg).toInt64)) (x5 + 1) h _ _ hP hD hS _ (lv_sub hl [2, 3, 4, 1, 0] rfl)
set_option maxHeartbeats 4000000 in
set_option maxRecDepth 100000 in
theorem c_Mo_eight {l : Launch} {dC : Nat → ClassId} {dI : Nat → Nat → Nat} {cB cI : ClassId} {aK aV : Nat → Nat} (N : Nat) (h_p0 : Nat) (v_p0 : Nat → Int32) (x1 : Int32) (x2 : Int32) (z : Int64) (h : f_Mo_eight N x1 x2 v_p0 = some z) : Ci l y_Mo_eight prog_7_method_14_code 6 (some .long) ({ frames := 0, cells := 0, slots := 0, locals := 0 }) (dC, dI) cB cI aK aV [.ref h_p0, .int x1, .int x2] [(h_p0, .inl (cI, 300, .inl v_p0))] (fun A => (Ql (dC, dI) [(h_p0, .inl (cI, 300, .inl v_p0))] A z)) := by
  refine Ci_of (by decide) (Nat.le_of_ble_eq_true rfl) (fun p e s m below meth c A C hK hnm hA hP hD ls hl => ?_)
  obtain ⟨hx, hb, hr, hml, hown, hts, hlk⟩ := id C
  have hS : va_S A s.heap s.heap [] := va_S.rf
  have hl : lv_has ls 6 [(0, .ref h_p0), (1, .int x1), (2, .int x2)] := hl
  rw [f_Mo_eight] at h
  refine lv_lconst (v := 0) hx hb d_Mo_eight_0 (by decide) ?_
  refine lv_lstore_n (lv' := [(3, .long 0), (0, .ref h_p0), (1, .int x1), (2, .int x2)]) hx hb d_Mo_eight_1 rfl hl (by decide) rfl (fun ls hl => ?_)
  refine lv_iconst (v := 0) hx hb d_Mo_eight_2 (by decide) ?_
  refine lv_istore (lv' := [(5, .int 0), (3, .long 0), (0, .ref h_p0), (1, .int x1), (2, .int x2)]) hx hb d_Mo_eight_3 hl (by decide) rfl (fun ls hl => ?_)
  exact k_Mo_eight_5 C hK hA N h_p0 x1 x2 v_p0 z N 0 0 h _ _ hP hD hS _ (lv_sub hl [2, 3, 4, 1, 0] rfl)
set_option maxHeartbeats 4000000 in
set_option maxRecDepth 100000 in
theorem k_Mo_put_35 {p : Program} {l : Launch} {e : Env} {s : State} {m : MethodId} {args : Array Value} {below : List Frame} {meth : Method} {c : Code} {dC : Nat → ClassId} {dI : Nat → Nat → Nat} {cB cI : ClassId} {aK aV : Nat → Nat} {A : Nat → Prop} (C : cx p s m args meth c R_Mo prog_7_method_16_code 5 (some .boolean)) (hK : kx (dC, dI) cB cI aK aV A s) (hA : ∀ q : Nat, s.heap.size ≤ q → A q) (N : Nat) (h_this h_this_put h_this_text h_this_value h_this_part : Nat) (v_bytes : Int32) (v_nameFrom : Int32) (v_names : Int32) (v_values : Int32) (v_behind : Int32) (v_parts : Int32) (v_text : Nat → Int32) (v_value : Nat → Int32) (v_part : Nat → Int32) (x1 : Int64) (z : Int32 × Int32 × Int32 × (Nat → Int32)) :
    ∀ (n : Nat), ∀ (x4 : Int32) (v_thrownCode : Int32) (v_puts : Int32) (v_put : Nat → Int32), f_Mo_put_35 N x1 n x4 v_thrownCode v_puts v_put = some z → ∀ (H : Heap) (locs : List Loc), va_P (dC, dI) classes [(h_this, .inr (5, [.int v_thrownCode, .ref h_this_put, .int v_puts, .ref h_this_text, .int v_bytes, .int v_nameFrom, .int v_names, .ref h_this_value, .int v_values, .int v_behind, .ref h_this_part, .int v_parts])), (h_this_put, .inl (cI, 300, .inl v_put)), (h_this_text, .inl (cI, 300, .inl v_text)), (h_this_value, .inl (cI, 300, .inl v_value)), (h_this_part, .inl (cI, 300, .inl v_part))] H → va_D A [(h_this, .inr (5, [.int v_thrownCode, .ref h_this_put, .int v_puts, .ref h_this_text, .int v_bytes, .int v_nameFrom, .int v_names, .ref h_this_value, .int v_values, .int v_behind, .ref h_this_part, .int v_parts])), (h_this_put, .inl (cI, 300, .inl v_put)), (h_this_text, .inl (cI, 300, .inl v_text)), (h_this_value, .inl (cI, 300, .inl v_value)), (h_this_part, .inl (cI, 300, .inl v_part))] → va_S A s.heap H locs → ∀ ls : Array Slot, lv_has ls 5 [(0, .ref h_this), (1, .long x1), (4, .int x4)] → W p l e ({ frames := 0, cells := 0, slots := 0, locals := 0 }) s m args below meth c H locs 0 0 (MQ below (Qi (dC, dI) [(h_this, .inr (5, [.int z.2.1, .ref h_this_put, .int z.2.2.1, .ref h_this_text, .int v_bytes, .int v_nameFrom, .int v_names, .ref h_this_value, .int v_values, .int v_behind, .ref h_this_part, .int v_parts])), (h_this_put, .inl (cI, 300, .inl z.2.2.2)), (h_this_text, .inl (cI, 300, .inl v_text)), (h_this_value, .inl (cI, 300, .inl v_value)), (h_this_part, .inl (cI, 300, .inl v_part))] A z.1) args s 0 0 A) (F0 m 35 ls []) := by
  obtain ⟨hx, hb, hr, hml, hown, hts, hlk⟩ := id C
  intro n
  induction n with
  | zero =>
    intro x4 v_thrownCode v_puts v_put h
    rw [f_Mo_put_35] at h
    cases h
  | succ n ih =>
    intro x4 v_thrownCode v_puts v_put h H locs hP hD hS ls hl
    rw [f_Mo_put_35] at h
    refine lv_iload hx hb d_Mo_put_35 (lv_at hl 2 rfl) ?_
    refine lv_if_lt (tgt := 77) hx hb d_Mo_put_37 (by decide) (fun c_1 => ?_) (fun c_1 => ?_)
    · replace h := itT h c_1
      refine lv_iconst (v := 1) hx hb d_Mo_put_77 (by decide) ?_
      obtain rfl := Option.some.inj h
      exact W.zret (v := 1) hx hb hr rfl (fun t ht hW => ⟨⟨1, (), rfl, rfl, by rw [ht]; exact hP, hD⟩, hS.F ht⟩) hS.2.2 d_Mo_put_78 hlk
    · replace h := itF h c_1
      refine lv_aload_n hx hb d_Mo_put_40 rfl (lv_at hl 0 rfl) ?_
      refine va_get (D := (dC, dI)) (ci := 5) (v := .ref h_this_put) (C := R_Mo) (T := F_Mo) (N := 12) hx hb hts in_Mo hown hK.1 hP 0 rfl rfl 1 (by decide) (hts _ m_418) (fun _ h9 => h9) rfl d_Mo_put_41 ?_
      refine lv_aload_n hx hb d_Mo_put_44 rfl (lv_at hl 0 rfl) ?_
      refine va_get (D := (dC, dI)) (ci := 5) (v := .int v_puts) (C := R_Mo) (T := F_Mo) (N := 12) hx hb hts in_Mo hown hK.1 hP 0 rfl rfl 2 (by decide) (hts _ m_419) (fun _ h9 => h9) rfl d_Mo_put_45 ?_
      refine lv_lload_n hx hb d_Mo_put_48 rfl (lv_at hl 1 rfl) ?_
      refine lv_bipush (v := 8) hx hb d_Mo_put_49 (by decide) ?_
      refine lv_iload hx hb d_Mo_put_51 (lv_at hl 2 rfl) ?_
      refine lv_imul hx hb d_Mo_put_53 ?_
      refine lv_lushr hx hb d_Mo_put_54 rfl ?_
      refine lv_l2i hx hb d_Mo_put_55 rfl ?_
      refine lv_sipush (v := 255) hx hb d_Mo_put_56 (by decide) ?_
      refine lv_iand hx hb d_Mo_put_59 ?_
      obtain ⟨g_2, h⟩ := grd h
      refine va_iast hx hb hK.1 hP hD hS 1 1 rfl rfl (inB_in g_2) d_Mo_put_60 (fun H locs hP hD hS => ?_)
      have hP : va_P (dC, dI) classes [(h_this, .inr (5, [.int v_thrownCode, .ref h_this_put, .int v_puts, .ref h_this_text, .int v_bytes, .int v_nameFrom, .int v_names, .ref h_this_value, .int v_values, .int v_behind, .ref h_this_part, .int v_parts])), (h_this_put, .inl (cI, 300, .inl (upd v_put v_puts.toNatClampNeg ((((x1.toUInt64 >>> ((8 * x4).toInt64.toUInt64 &&& Int64.toUInt64 63)).toInt64).toInt32) &&& 255)))), (h_this_text, .inl (cI, 300, .inl v_text)), (h_this_value, .inl (cI, 300, .inl v_value)), (h_this_part, .inl (cI, 300, .inl v_part))] H := hP
      have hD : va_D A [(h_this, .inr (5, [.int v_thrownCode, .ref h_this_put, .int v_puts, .ref h_this_text, .int v_bytes, .int v_nameFrom, .int v_names, .ref h_this_value, .int v_values, .int v_behind, .ref h_this_part, .int v_parts])), (h_this_put, .inl (cI, 300, .inl (upd v_put v_puts.toNatClampNeg ((((x1.toUInt64 >>> ((8 * x4).toInt64.toUInt64 &&& Int64.toUInt64 63)).toInt64).toInt32) &&& 255)))), (h_this_text, .inl (cI, 300, .inl v_text)), (h_this_value, .inl (cI, 300, .inl v_value)), (h_this_part, .inl (cI, 300, .inl v_part))] := hD
      refine lv_aload_n hx hb d_Mo_put_61 rfl (lv_at hl 0 rfl) ?_
      refine lv_dup hx hb d_Mo_put_62 rfl ?_
      refine va_get (D := (dC, dI)) (ci := 5) (v := .int v_puts) (C := R_Mo) (T := F_Mo) (N := 12) hx hb hts in_Mo hown hK.1 hP 0 rfl rfl 2 (by decide) (hts _ m_419) (fun _ h9 => h9) rfl d_Mo_put_63 ?_
      refine lv_iconst (v := 1) hx hb d_Mo_put_66 (by decide) ?_
      refine lv_iadd hx hb d_Mo_put_67 ?_
      refine va_put (D := (dC, dI)) (ci := 5) (v := .int (v_puts + 1)) (ty := .int) (C := R_Mo) (T := F_Mo) (N := 12) hx hb hts in_Mo t_Mo t_Mo_ok n_Mo hown hK.1 hP hD hS 0 rfl rfl 2 (by decide) (hts _ m_419) (fun _ h9 => h9) rfl (by decide +kernel) rfl rfl (Nat.le_of_ble_eq_true rfl) d_Mo_put_68 (fun H locs hP hD hS => ?_)
      have hP : va_P (dC, dI) classes [(h_this, .inr (5, [.int v_thrownCode, .ref h_this_put, .int (v_puts + 1), .ref h_this_text, .int v_bytes, .int v_nameFrom, .int v_names, .ref h_this_value, .int v_values, .int v_behind, .ref h_this_part, .int v_parts])), (h_this_put, .inl (cI, 300, .inl (upd v_put v_puts.toNatClampNeg ((((x1.toUInt64 >>> ((8 * x4).toInt64.toUInt64 &&& Int64.toUInt64 63)).toInt64).toInt32) &&& 255)))), (h_this_text, .inl (cI, 300, .inl v_text)), (h_this_value, .inl (cI, 300, .inl v_value)), (h_this_part, .inl (cI, 300, .inl v_part))] H := hP
      have hD : va_D A [(h_this, .inr (5, [.int v_thrownCode, .ref h_this_put, .int (v_puts + 1), .ref h_this_text, .int v_bytes, .int v_nameFrom, .int v_names, .ref h_this_value, .int v_values, .int v_behind, .ref h_this_part, .int v_parts])), (h_this_put, .inl (cI, 300, .inl (upd v_put v_puts.toNatClampNeg ((((x1.toUInt64 >>> ((8 * x4).toInt64.toUInt64 &&& Int64.toUInt64 63)).toInt64).toInt32) &&& 255)))), (h_this_text, .inl (cI, 300, .inl v_text)), (h_this_value, .inl (cI, 300, .inl v_value)), (h_this_part, .inl (cI, 300, .inl v_part))] := hD
      refine lv_iinc (v := x4 + (-1)) (lv' := [(4, .int (x4 + (-1))), (0, .ref h_this), (1, .long x1)]) hx hb d_Mo_put_71 hl (k := 2) rfl rfl (by decide) rfl (fun ls hl => ?_)
      refine lv_goto (tgt := 35) hx hb d_Mo_put_74 (by decide) ?_
      exact ih (x4 + (-1)) v_thrownCode (v_puts + 1) (upd v_put v_puts.toNatClampNeg ((((x1.toUInt64 >>> ((8 * x4).toInt64.toUInt64 &&& Int64.toUInt64 63)).toInt64).toInt32) &&& 255)) h _ _ hP hD hS _ (lv_sub hl [1, 2, 0] rfl)
set_option maxHeartbeats 4000000 in
set_option maxRecDepth 100000 in
theorem c_Mo_put {l : Launch} {dC : Nat → ClassId} {dI : Nat → Nat → Nat} {cB cI : ClassId} {aK aV : Nat → Nat} (N : Nat) (h_this h_this_put h_this_text h_this_value h_this_part : Nat) (v_thrownCode : Int32) (v_puts : Int32) (v_bytes : Int32) (v_nameFrom : Int32) (v_names : Int32) (v_values : Int32) (v_behind : Int32) (v_parts : Int32) (v_put : Nat → Int32) (v_text : Nat → Int32) (v_value : Nat → Int32) (v_part : Nat → Int32) (x1 : Int64) (x3 : Int32) (z : Int32 × Int32 × Int32 × (Nat → Int32)) (h : f_Mo_put N x1 x3 v_thrownCode v_puts v_put = some z) : Ci l y_Mo_put prog_7_method_16_code 5 (some .boolean) ({ frames := 0, cells := 0, slots := 0, locals := 0 }) (dC, dI) cB cI aK aV [.ref h_this, .long x1, .int x3] [(h_this, .inr (5, [.int v_thrownCode, .ref h_this_put, .int v_puts, .ref h_this_text, .int v_bytes, .int v_nameFrom, .int v_names, .ref h_this_value, .int v_values, .int v_behind, .ref h_this_part, .int v_parts])), (h_this_put, .inl (cI, 300, .inl v_put)), (h_this_text, .inl (cI, 300, .inl v_text)), (h_this_value, .inl (cI, 300, .inl v_value)), (h_this_part, .inl (cI, 300, .inl v_part))] (fun A => (Qi (dC, dI) [(h_this, .inr (5, [.int z.2.1, .ref h_this_put, .int z.2.2.1, .ref h_this_text, .int v_bytes, .int v_nameFrom, .int v_names, .ref h_this_value, .int v_values, .int v_behind, .ref h_this_part, .int v_parts])), (h_this_put, .inl (cI, 300, .inl z.2.2.2)), (h_this_text, .inl (cI, 300, .inl v_text)), (h_this_value, .inl (cI, 300, .inl v_value)), (h_this_part, .inl (cI, 300, .inl v_part))] A z.1)) := by
  refine Ci_of (by decide) (Nat.le_of_ble_eq_true rfl) (fun p e s m below meth c A C hK hnm hA hP hD ls hl => ?_)
  obtain ⟨hx, hb, hr, hml, hown, hts, hlk⟩ := id C
  have hS : va_S A s.heap s.heap [] := va_S.rf
  have hl : lv_has ls 5 [(0, .ref h_this), (1, .long x1), (3, .int x3)] := hl
  rw [f_Mo_put] at h
  refine lv_aload_n hx hb d_Mo_put_0 rfl (lv_at hl 0 rfl) ?_
  refine lv_iconst (v := 0) hx hb d_Mo_put_1 (by decide) ?_
  refine va_put (D := (dC, dI)) (ci := 5) (v := .int 0) (ty := .int) (C := R_Mo) (T := F_Mo) (N := 12) hx hb hts in_Mo t_Mo t_Mo_ok n_Mo hown hK.1 hP hD hS 0 rfl rfl 0 (by decide) (hts _ m_417) (fun _ h9 => h9) rfl (by decide +kernel) rfl rfl (Nat.le_of_ble_eq_true rfl) d_Mo_put_2 (fun H locs hP hD hS => ?_)
  have hP : va_P (dC, dI) classes [(h_this, .inr (5, [.int 0, .ref h_this_put, .int v_puts, .ref h_this_text, .int v_bytes, .int v_nameFrom, .int v_names, .ref h_this_value, .int v_values, .int v_behind, .ref h_this_part, .int v_parts])), (h_this_put, .inl (cI, 300, .inl v_put)), (h_this_text, .inl (cI, 300, .inl v_text)), (h_this_value, .inl (cI, 300, .inl v_value)), (h_this_part, .inl (cI, 300, .inl v_part))] H := hP
  have hD : va_D A [(h_this, .inr (5, [.int 0, .ref h_this_put, .int v_puts, .ref h_this_text, .int v_bytes, .int v_nameFrom, .int v_names, .ref h_this_value, .int v_values, .int v_behind, .ref h_this_part, .int v_parts])), (h_this_put, .inl (cI, 300, .inl v_put)), (h_this_text, .inl (cI, 300, .inl v_text)), (h_this_value, .inl (cI, 300, .inl v_value)), (h_this_part, .inl (cI, 300, .inl v_part))] := hD
  refine lv_iload_n hx hb d_Mo_put_5 rfl (lv_at hl 2 rfl) ?_
  refine lv_iconst (v := 1) hx hb d_Mo_put_6 (by decide) ?_
  refine lv_icmp_lt (tgt := 28) hx hb d_Mo_put_7 (by decide) (fun c_3 => ?_) (fun c_3 => ?_)
  · replace h := itT h c_3
    refine lv_iconst (v := 0) hx hb d_Mo_put_28 (by decide) ?_
    obtain rfl := Option.some.inj h
    exact W.zret (v := 0) hx hb hr rfl (fun t ht hW => ⟨⟨0, (), rfl, rfl, by rw [ht]; exact hP, hD⟩, hS.F ht⟩) hS.2.2 d_Mo_put_29 hlk
  · replace h := itF h c_3
    refine lv_iload_n hx hb d_Mo_put_10 rfl (lv_at hl 2 rfl) ?_
    refine lv_bipush (v := 8) hx hb d_Mo_put_11 (by decide) ?_
    refine lv_icmp_gt (tgt := 28) hx hb d_Mo_put_13 (by decide) (fun c_4 => ?_) (fun c_4 => ?_)
    · replace h := itT h c_4
      refine lv_iconst (v := 0) hx hb d_Mo_put_28 (by decide) ?_
      obtain rfl := Option.some.inj h
      exact W.zret (v := 0) hx hb hr rfl (fun t ht hW => ⟨⟨0, (), rfl, rfl, by rw [ht]; exact hP, hD⟩, hS.F ht⟩) hS.2.2 d_Mo_put_29 hlk
    · replace h := itF h c_4
      refine lv_aload_n hx hb d_Mo_put_16 rfl (lv_at hl 0 rfl) ?_
      refine va_get (D := (dC, dI)) (ci := 5) (v := .int v_puts) (C := R_Mo) (T := F_Mo) (N := 12) hx hb hts in_Mo hown hK.1 hP 0 rfl rfl 2 (by decide) (hts _ m_419) (fun _ h9 => h9) rfl d_Mo_put_17 ?_
      refine lv_iload_n hx hb d_Mo_put_20 rfl (lv_at hl 2 rfl) ?_
      refine lv_iadd hx hb d_Mo_put_21 ?_
      refine lv_sipush (v := 300) hx hb d_Mo_put_22 (by decide) ?_
      refine lv_icmp_le (tgt := 30) hx hb d_Mo_put_25 (by decide) (fun c_5 => ?_) (fun c_5 => ?_)
      · replace h := itT h c_5
        refine lv_iload_n hx hb d_Mo_put_30 rfl (lv_at hl 2 rfl) ?_
        refine lv_iconst (v := 1) hx hb d_Mo_put_31 (by decide) ?_
        refine lv_isub hx hb d_Mo_put_32 ?_
        refine lv_istore (lv' := [(4, .int (x3 - 1)), (0, .ref h_this), (1, .long x1), (3, .int x3)]) hx hb d_Mo_put_33 hl (by decide) rfl (fun ls hl => ?_)
        exact k_Mo_put_35 C hK hA N h_this h_this_put h_this_text h_this_value h_this_part v_bytes v_nameFrom v_names v_values v_behind v_parts v_text v_value v_part x1 z N (x3 - 1) 0 v_puts v_put h _ _ hP hD hS _ (lv_sub hl [1, 2, 0] rfl)
      · replace h := itF h c_5
        refine lv_iconst (v := 0) hx hb d_Mo_put_28 (by decide) ?_
        obtain rfl := Option.some.inj h
        exact W.zret (v := 0) hx hb hr rfl (fun t ht hW => ⟨⟨0, (), rfl, rfl, by rw [ht]; exact hP, hD⟩, hS.F ht⟩) hS.2.2 d_Mo_put_29 hlk
set_option maxHeartbeats 4000000 in
set_option maxRecDepth 100000 in
theorem k_Mo_fields_2 {p : Program} {l : Launch} {e : Env} {s : State} {m : MethodId} {args : Array Value} {below : List Frame} {meth : Method} {c : Code} {dC : Nat → ClassId} {dI : Nat → Nat → Nat} {cB cI : ClassId} {aK aV : Nat → Nat} {A : Nat → Prop} (C : cx p s m args meth c R_Mo prog_7_method_17_code 2 (some .int)) (hK : kx (dC, dI) cB cI aK aV A s) (hA : ∀ q : Nat, s.heap.size ≤ q → A q) (N : Nat) (h_this h_this_put h_this_text h_this_value h_this_part : Nat) (v_thrownCode : Int32) (v_puts : Int32) (v_parts : Int32) (v_put : Nat → Int32) (v_part : Nat → Int32) (v_bytes : Int32) (v_text : Nat → Int32) (z : Int32 × Int32 × Int32 × Int32 × Int32 × (Nat → Int32)) :
    ∀ (n : Nat), ∀ (x1 : Int32) (v_nameFrom : Int32) (v_names : Int32) (v_values : Int32) (v_behind : Int32) (v_value : Nat → Int32), f_Mo_fields_2 N v_bytes v_text n x1 v_nameFrom v_names v_values v_behind v_value = some z → ∀ (H : Heap) (locs : List Loc), va_P (dC, dI) classes [(h_this, .inr (5, [.int v_thrownCode, .ref h_this_put, .int v_puts, .ref h_this_text, .int v_bytes, .int v_nameFrom, .int v_names, .ref h_this_value, .int v_values, .int v_behind, .ref h_this_part, .int v_parts])), (h_this_put, .inl (cI, 300, .inl v_put)), (h_this_text, .inl (cI, 300, .inl v_text)), (h_this_value, .inl (cI, 300, .inl v_value)), (h_this_part, .inl (cI, 300, .inl v_part))] H → va_D A [(h_this, .inr (5, [.int v_thrownCode, .ref h_this_put, .int v_puts, .ref h_this_text, .int v_bytes, .int v_nameFrom, .int v_names, .ref h_this_value, .int v_values, .int v_behind, .ref h_this_part, .int v_parts])), (h_this_put, .inl (cI, 300, .inl v_put)), (h_this_text, .inl (cI, 300, .inl v_text)), (h_this_value, .inl (cI, 300, .inl v_value)), (h_this_part, .inl (cI, 300, .inl v_part))] → va_S A s.heap H locs → ∀ ls : Array Slot, lv_has ls 2 [(0, .ref h_this), (1, .int x1)] → W p l e ({ frames := 3, cells := 0, slots := 0, locals := 69 }) s m args below meth c H locs 0 0 (MQ below (Qi (dC, dI) [(h_this, .inr (5, [.int v_thrownCode, .ref h_this_put, .int v_puts, .ref h_this_text, .int v_bytes, .int z.2.1, .int z.2.2.1, .ref h_this_value, .int z.2.2.2.1, .int z.2.2.2.2.1, .ref h_this_part, .int v_parts])), (h_this_put, .inl (cI, 300, .inl v_put)), (h_this_text, .inl (cI, 300, .inl v_text)), (h_this_value, .inl (cI, 300, .inl z.2.2.2.2.2)), (h_this_part, .inl (cI, 300, .inl v_part))] A z.1) args s 0 0 A) (F0 m 2 ls []) := by
  obtain ⟨hx, hb, hr, hml, hown, hts, hlk⟩ := id C
  intro n
  induction n with
  | zero =>
    intro x1 v_nameFrom v_names v_values v_behind v_value h
    rw [f_Mo_fields_2] at h
    cases h
  | succ n ih =>
    intro x1 v_nameFrom v_names v_values v_behind v_value h H locs hP hD hS ls hl
    rw [f_Mo_fields_2] at h
    refine lv_aload_n hx hb d_Mo_fields_2 rfl (lv_at hl 0 rfl) ?_
    refine lv_iload_n hx hb d_Mo_fields_3 rfl (lv_at hl 1 rfl) ?_
    obtain ⟨z1, hc_1, h⟩ := bs h
    refine go_i (wr := []) (w1 := [(h_this, .inr (5, [.int v_thrownCode, .ref h_this_put, .int v_puts, .ref h_this_text, .int v_bytes, .int z1.2.1, .int z1.2.2.1, .ref h_this_value, .int z1.2.2.2.1, .int z1.2.2.2.2.1, .ref h_this_part, .int v_parts])), (h_this_put, .inl (cI, 300, .inl v_put)), (h_this_text, .inl (cI, 300, .inl v_text)), (h_this_value, .inl (cI, 300, .inl z1.2.2.2.2.2)), (h_this_part, .inl (cI, 300, .inl v_part))]) (ws2 := [(h_this, .inr (5, [.int v_thrownCode, .ref h_this_put, .int v_puts, .ref h_this_text, .int v_bytes, .int z1.2.1, .int z1.2.2.1, .ref h_this_value, .int z1.2.2.2.1, .int z1.2.2.2.2.1, .ref h_this_part, .int v_parts])), (h_this_put, .inl (cI, 300, .inl v_put)), (h_this_text, .inl (cI, 300, .inl v_text)), (h_this_value, .inl (cI, 300, .inl z1.2.2.2.2.2)), (h_this_part, .inl (cI, 300, .inl v_part))]) hP hD hS hA [0, 1, 2, 3, 4] [] [0, 1, 2, 3, 4] rfl (by decide) rfl (by decide) (by decide) rfl (by decide) (fun hPc hDc hFc => rn_V (As := [.int x1]) (rest := []) C hK (c_Mo_look N h_this h_this_put h_this_text h_this_value h_this_part v_thrownCode v_puts v_bytes v_nameFrom v_names v_values v_behind v_parts v_put v_text v_value v_part x1 z1 hc_1 _) ⟨rfl, rfl⟩ m_466 ok_Mo_look ⟨by decide, by decide⟩ rfl rfl rfl hl.1 rfl (Nat.le_of_ble_eq_true rfl) d_Mo_fields_4 ⟨by decide, by decide⟩ hS hPc hDc hFc) (fun H locs hP hD hS => ?_)
    refine lv_if_eq (tgt := 16) hx hb d_Mo_fields_7 (by decide) (fun c_2 => ?_) (fun c_2 => ?_)
    · replace h := itT h c_2
      refine lv_iload_n hx hb d_Mo_fields_16 rfl (lv_at hl 1 rfl) ?_
      obtain rfl := Option.some.inj h
      exact W.iret (v := x1) hx hb hr (fun t ht hW => ⟨⟨x1, (), rfl, rfl, by rw [ht]; exact hP, hD⟩, hS.F ht⟩) hS.2.2 d_Mo_fields_17 hlk
    · replace h := itF h c_2
      refine lv_iinc (v := x1 + 1) (lv' := [(1, .int (x1 + 1)), (0, .ref h_this)]) hx hb d_Mo_fields_10 hl (k := 1) rfl rfl (by decide) rfl (fun ls hl => ?_)
      refine lv_goto (tgt := 2) hx hb d_Mo_fields_13 (by decide) ?_
      exact ih (x1 + 1) z1.2.1 z1.2.2.1 z1.2.2.2.1 z1.2.2.2.2.1 z1.2.2.2.2.2 h _ _ hP hD hS _ (lv_sub hl [1, 0] rfl)
set_option maxHeartbeats 4000000 in
set_option maxRecDepth 100000 in
theorem c_Mo_fields {l : Launch} {dC : Nat → ClassId} {dI : Nat → Nat → Nat} {cB cI : ClassId} {aK aV : Nat → Nat} (N : Nat) (h_this h_this_put h_this_text h_this_value h_this_part : Nat) (v_thrownCode : Int32) (v_puts : Int32) (v_bytes : Int32) (v_nameFrom : Int32) (v_names : Int32) (v_values : Int32) (v_behind : Int32) (v_parts : Int32) (v_put : Nat → Int32) (v_text : Nat → Int32) (v_value : Nat → Int32) (v_part : Nat → Int32) (z : Int32 × Int32 × Int32 × Int32 × Int32 × (Nat → Int32)) (h : f_Mo_fields N v_bytes v_nameFrom v_names v_values v_behind v_text v_value = some z) : Ci l y_Mo_fields prog_7_method_17_code 2 (some .int) ({ frames := 3, cells := 0, slots := 0, locals := 69 }) (dC, dI) cB cI aK aV [.ref h_this] [(h_this, .inr (5, [.int v_thrownCode, .ref h_this_put, .int v_puts, .ref h_this_text, .int v_bytes, .int v_nameFrom, .int v_names, .ref h_this_value, .int v_values, .int v_behind, .ref h_this_part, .int v_parts])), (h_this_put, .inl (cI, 300, .inl v_put)), (h_this_text, .inl (cI, 300, .inl v_text)), (h_this_value, .inl (cI, 300, .inl v_value)), (h_this_part, .inl (cI, 300, .inl v_part))] (fun A => (Qi (dC, dI) [(h_this, .inr (5, [.int v_thrownCode, .ref h_this_put, .int v_puts, .ref h_this_text, .int v_bytes, .int z.2.1, .int z.2.2.1, .ref h_this_value, .int z.2.2.2.1, .int z.2.2.2.2.1, .ref h_this_part, .int v_parts])), (h_this_put, .inl (cI, 300, .inl v_put)), (h_this_text, .inl (cI, 300, .inl v_text)), (h_this_value, .inl (cI, 300, .inl z.2.2.2.2.2)), (h_this_part, .inl (cI, 300, .inl v_part))] A z.1)) := by
  refine Ci_of (by decide) (Nat.le_of_ble_eq_true rfl) (fun p e s m below meth c A C hK hnm hA hP hD ls hl => ?_)
  obtain ⟨hx, hb, hr, hml, hown, hts, hlk⟩ := id C
  have hS : va_S A s.heap s.heap [] := va_S.rf
  have hl : lv_has ls 2 [(0, .ref h_this)] := hl
  rw [f_Mo_fields] at h
  refine lv_iconst (v := 0) hx hb d_Mo_fields_0 (by decide) ?_
  refine lv_istore_n (lv' := [(1, .int 0), (0, .ref h_this)]) hx hb d_Mo_fields_1 rfl hl (by decide) rfl (fun ls hl => ?_)
  exact k_Mo_fields_2 C hK hA N h_this h_this_put h_this_text h_this_value h_this_part v_thrownCode v_puts v_parts v_put v_part v_bytes v_text z N 0 v_nameFrom v_names v_values v_behind v_value h _ _ hP hD hS _ (lv_sub hl [1, 0] rfl)
set_option maxHeartbeats 4000000 in
set_option maxRecDepth 100000 in
theorem k_Mo_read_7 {p : Program} {l : Launch} {e : Env} {s : State} {m : MethodId} {args : Array Value} {below : List Frame} {meth : Method} {c : Code} {dC : Nat → ClassId} {dI : Nat → Nat → Nat} {cB cI : ClassId} {aK aV : Nat → Nat} {A : Nat → Prop} (C : cx p s m args meth c R_Mo prog_7_method_18_code 2 (some .int)) (hK : kx (dC, dI) cB cI aK aV A s) (hA : ∀ q : Nat, s.heap.size ≤ q → A q) (N : Nat) (h_this h_this_put h_this_text h_this_value h_this_part : Nat) (v_parts : Int32) (v_part : Nat → Int32) (v_put : Nat → Int32) (z : Int32 × Int32 × Int32 × Int32 × Int32 × Int32 × Int32 × Int32 × (Nat → Int32) × (Nat → Int32)) :
    ∀ (n : Nat), ∀ (x1 : Int32) (v_thrownCode : Int32) (v_puts : Int32) (v_bytes : Int32) (v_nameFrom : Int32) (v_names : Int32) (v_values : Int32) (v_behind : Int32) (v_text : Nat → Int32) (v_value : Nat → Int32), f_Mo_read_7 N v_put n x1 v_thrownCode v_puts v_bytes v_nameFrom v_names v_values v_behind v_text v_value = some z → ∀ (H : Heap) (locs : List Loc), va_P (dC, dI) classes [(h_this, .inr (5, [.int v_thrownCode, .ref h_this_put, .int v_puts, .ref h_this_text, .int v_bytes, .int v_nameFrom, .int v_names, .ref h_this_value, .int v_values, .int v_behind, .ref h_this_part, .int v_parts])), (h_this_put, .inl (cI, 300, .inl v_put)), (h_this_text, .inl (cI, 300, .inl v_text)), (h_this_value, .inl (cI, 300, .inl v_value)), (h_this_part, .inl (cI, 300, .inl v_part))] H → va_D A [(h_this, .inr (5, [.int v_thrownCode, .ref h_this_put, .int v_puts, .ref h_this_text, .int v_bytes, .int v_nameFrom, .int v_names, .ref h_this_value, .int v_values, .int v_behind, .ref h_this_part, .int v_parts])), (h_this_put, .inl (cI, 300, .inl v_put)), (h_this_text, .inl (cI, 300, .inl v_text)), (h_this_value, .inl (cI, 300, .inl v_value)), (h_this_part, .inl (cI, 300, .inl v_part))] → va_S A s.heap H locs → ∀ ls : Array Slot, lv_has ls 2 [(0, .ref h_this), (1, .int x1)] → W p l e ({ frames := 4, cells := 0, slots := 0, locals := 90 }) s m args below meth c H locs 0 0 (MQ below (Qi (dC, dI) [(h_this, .inr (5, [.int z.2.1, .ref h_this_put, .int z.2.2.1, .ref h_this_text, .int z.2.2.2.1, .int z.2.2.2.2.1, .int z.2.2.2.2.2.1, .ref h_this_value, .int z.2.2.2.2.2.2.1, .int z.2.2.2.2.2.2.2.1, .ref h_this_part, .int v_parts])), (h_this_put, .inl (cI, 300, .inl v_put)), (h_this_text, .inl (cI, 300, .inl z.2.2.2.2.2.2.2.2.1)), (h_this_value, .inl (cI, 300, .inl z.2.2.2.2.2.2.2.2.2)), (h_this_part, .inl (cI, 300, .inl v_part))] A z.1) args s 0 0 A) (F0 m 7 ls []) := by
  obtain ⟨hx, hb, hr, hml, hown, hts, hlk⟩ := id C
  intro n
  induction n with
  | zero =>
    intro x1 v_thrownCode v_puts v_bytes v_nameFrom v_names v_values v_behind v_text v_value h
    rw [f_Mo_read_7] at h
    cases h
  | succ n ih =>
    intro x1 v_thrownCode v_puts v_bytes v_nameFrom v_names v_values v_behind v_text v_value h H locs hP hD hS ls hl
    rw [f_Mo_read_7] at h
    refine lv_iload_n hx hb d_Mo_read_7 rfl (lv_at hl 1 rfl) ?_
    refine lv_aload_n hx hb d_Mo_read_8 rfl (lv_at hl 0 rfl) ?_
    refine va_get (D := (dC, dI)) (ci := 5) (v := .int v_puts) (C := R_Mo) (T := F_Mo) (N := 12) hx hb hts in_Mo hown hK.1 hP 0 rfl rfl 2 (by decide) (hts _ m_419) (fun _ h9 => h9) rfl d_Mo_read_9 ?_
    refine lv_icmp_ge (tgt := 33) hx hb d_Mo_read_12 (by decide) (fun c_1 => ?_) (fun c_1 => ?_)
    · replace h := itT h c_1
      refine lv_aload_n hx hb d_Mo_read_33 rfl (lv_at hl 0 rfl) ?_
      refine lv_aload_n hx hb d_Mo_read_34 rfl (lv_at hl 0 rfl) ?_
      refine va_get (D := (dC, dI)) (ci := 5) (v := .int v_puts) (C := R_Mo) (T := F_Mo) (N := 12) hx hb hts in_Mo hown hK.1 hP 0 rfl rfl 2 (by decide) (hts _ m_419) (fun _ h9 => h9) rfl d_Mo_read_35 ?_
      refine va_put (D := (dC, dI)) (ci := 5) (v := .int v_puts) (ty := .int) (C := R_Mo) (T := F_Mo) (N := 12) hx hb hts in_Mo t_Mo t_Mo_ok n_Mo hown hK.1 hP hD hS 0 rfl rfl 4 (by decide) (hts _ m_421) (fun _ h9 => h9) rfl (by decide +kernel) rfl rfl (Nat.le_of_ble_eq_true rfl) d_Mo_read_38 (fun H locs hP hD hS => ?_)
      have hP : va_P (dC, dI) classes [(h_this, .inr (5, [.int v_thrownCode, .ref h_this_put, .int v_puts, .ref h_this_text, .int v_puts, .int v_nameFrom, .int v_names, .ref h_this_value, .int v_values, .int v_behind, .ref h_this_part, .int v_parts])), (h_this_put, .inl (cI, 300, .inl v_put)), (h_this_text, .inl (cI, 300, .inl v_text)), (h_this_value, .inl (cI, 300, .inl v_value)), (h_this_part, .inl (cI, 300, .inl v_part))] H := hP
      have hD : va_D A [(h_this, .inr (5, [.int v_thrownCode, .ref h_this_put, .int v_puts, .ref h_this_text, .int v_puts, .int v_nameFrom, .int v_names, .ref h_this_value, .int v_values, .int v_behind, .ref h_this_part, .int v_parts])), (h_this_put, .inl (cI, 300, .inl v_put)), (h_this_text, .inl (cI, 300, .inl v_text)), (h_this_value, .inl (cI, 300, .inl v_value)), (h_this_part, .inl (cI, 300, .inl v_part))] := hD
      refine lv_aload_n hx hb d_Mo_read_41 rfl (lv_at hl 0 rfl) ?_
      refine lv_iconst (v := 0) hx hb d_Mo_read_42 (by decide) ?_
      refine va_put (D := (dC, dI)) (ci := 5) (v := .int 0) (ty := .int) (C := R_Mo) (T := F_Mo) (N := 12) hx hb hts in_Mo t_Mo t_Mo_ok n_Mo hown hK.1 hP hD hS 0 rfl rfl 2 (by decide) (hts _ m_419) (fun _ h9 => h9) rfl (by decide +kernel) rfl rfl (Nat.le_of_ble_eq_true rfl) d_Mo_read_43 (fun H locs hP hD hS => ?_)
      have hP : va_P (dC, dI) classes [(h_this, .inr (5, [.int v_thrownCode, .ref h_this_put, .int 0, .ref h_this_text, .int v_puts, .int v_nameFrom, .int v_names, .ref h_this_value, .int v_values, .int v_behind, .ref h_this_part, .int v_parts])), (h_this_put, .inl (cI, 300, .inl v_put)), (h_this_text, .inl (cI, 300, .inl v_text)), (h_this_value, .inl (cI, 300, .inl v_value)), (h_this_part, .inl (cI, 300, .inl v_part))] H := hP
      have hD : va_D A [(h_this, .inr (5, [.int v_thrownCode, .ref h_this_put, .int 0, .ref h_this_text, .int v_puts, .int v_nameFrom, .int v_names, .ref h_this_value, .int v_values, .int v_behind, .ref h_this_part, .int v_parts])), (h_this_put, .inl (cI, 300, .inl v_put)), (h_this_text, .inl (cI, 300, .inl v_text)), (h_this_value, .inl (cI, 300, .inl v_value)), (h_this_part, .inl (cI, 300, .inl v_part))] := hD
      refine lv_aload_n hx hb d_Mo_read_46 rfl (lv_at hl 0 rfl) ?_
      obtain ⟨z2, hc_2, h⟩ := bs h
      refine go_i (wr := []) (w1 := [(h_this, .inr (5, [.int v_thrownCode, .ref h_this_put, .int 0, .ref h_this_text, .int v_puts, .int z2.2.1, .int z2.2.2.1, .ref h_this_value, .int z2.2.2.2.1, .int z2.2.2.2.2.1, .ref h_this_part, .int v_parts])), (h_this_put, .inl (cI, 300, .inl v_put)), (h_this_text, .inl (cI, 300, .inl v_text)), (h_this_value, .inl (cI, 300, .inl z2.2.2.2.2.2)), (h_this_part, .inl (cI, 300, .inl v_part))]) (ws2 := [(h_this, .inr (5, [.int v_thrownCode, .ref h_this_put, .int 0, .ref h_this_text, .int v_puts, .int z2.2.1, .int z2.2.2.1, .ref h_this_value, .int z2.2.2.2.1, .int z2.2.2.2.2.1, .ref h_this_part, .int v_parts])), (h_this_put, .inl (cI, 300, .inl v_put)), (h_this_text, .inl (cI, 300, .inl v_text)), (h_this_value, .inl (cI, 300, .inl z2.2.2.2.2.2)), (h_this_part, .inl (cI, 300, .inl v_part))]) hP hD hS hA [0, 1, 2, 3, 4] [] [0, 1, 2, 3, 4] rfl (by decide) rfl (by decide) (by decide) rfl (by decide) (fun hPc hDc hFc => rn_V (As := []) (rest := []) C hK (c_Mo_fields N h_this h_this_put h_this_text h_this_value h_this_part v_thrownCode 0 v_puts v_nameFrom v_names v_values v_behind v_parts v_put v_text v_value v_part z2 hc_2 _) ⟨rfl, rfl⟩ m_462 ok_Mo_fields ⟨by decide, by decide⟩ rfl rfl rfl hl.1 rfl (Nat.le_of_ble_eq_true rfl) d_Mo_read_47 ⟨by decide, by decide⟩ hS hPc hDc hFc) (fun H locs hP hD hS => ?_)
      obtain rfl := Option.some.inj h
      exact W.iret (v := z2.1) hx hb hr (fun t ht hW => ⟨⟨z2.1, (), rfl, rfl, by rw [ht]; exact hP, hD⟩, hS.F ht⟩) hS.2.2 d_Mo_read_50 hlk
    · replace h := itF h c_1
      refine lv_aload_n hx hb d_Mo_read_15 rfl (lv_at hl 0 rfl) ?_
      refine va_get (D := (dC, dI)) (ci := 5) (v := .ref h_this_text) (C := R_Mo) (T := F_Mo) (N := 12) hx hb hts in_Mo hown hK.1 hP 0 rfl rfl 3 (by decide) (hts _ m_420) (fun _ h9 => h9) rfl d_Mo_read_16 ?_
      refine lv_iload_n hx hb d_Mo_read_19 rfl (lv_at hl 1 rfl) ?_
      refine lv_aload_n hx hb d_Mo_read_20 rfl (lv_at hl 0 rfl) ?_
      refine va_get (D := (dC, dI)) (ci := 5) (v := .ref h_this_put) (C := R_Mo) (T := F_Mo) (N := 12) hx hb hts in_Mo hown hK.1 hP 0 rfl rfl 1 (by decide) (hts _ m_418) (fun _ h9 => h9) rfl d_Mo_read_21 ?_
      refine lv_iload_n hx hb d_Mo_read_24 rfl (lv_at hl 1 rfl) ?_
      obtain ⟨g_3, h⟩ := grd h
      refine va_iald hx hb hK.1 hP 1 1 rfl rfl (inB_in g_3) d_Mo_read_25 ?_
      obtain ⟨g_4, h⟩ := grd h
      refine va_iast hx hb hK.1 hP hD hS 2 1 rfl rfl (inB_in g_4) d_Mo_read_26 (fun H locs hP hD hS => ?_)
      have hP : va_P (dC, dI) classes [(h_this, .inr (5, [.int v_thrownCode, .ref h_this_put, .int v_puts, .ref h_this_text, .int v_bytes, .int v_nameFrom, .int v_names, .ref h_this_value, .int v_values, .int v_behind, .ref h_this_part, .int v_parts])), (h_this_put, .inl (cI, 300, .inl v_put)), (h_this_text, .inl (cI, 300, .inl (upd v_text x1.toNatClampNeg (v_put x1.toNatClampNeg)))), (h_this_value, .inl (cI, 300, .inl v_value)), (h_this_part, .inl (cI, 300, .inl v_part))] H := hP
      have hD : va_D A [(h_this, .inr (5, [.int v_thrownCode, .ref h_this_put, .int v_puts, .ref h_this_text, .int v_bytes, .int v_nameFrom, .int v_names, .ref h_this_value, .int v_values, .int v_behind, .ref h_this_part, .int v_parts])), (h_this_put, .inl (cI, 300, .inl v_put)), (h_this_text, .inl (cI, 300, .inl (upd v_text x1.toNatClampNeg (v_put x1.toNatClampNeg)))), (h_this_value, .inl (cI, 300, .inl v_value)), (h_this_part, .inl (cI, 300, .inl v_part))] := hD
      refine lv_iinc (v := x1 + 1) (lv' := [(1, .int (x1 + 1)), (0, .ref h_this)]) hx hb d_Mo_read_27 hl (k := 1) rfl rfl (by decide) rfl (fun ls hl => ?_)
      refine lv_goto (tgt := 7) hx hb d_Mo_read_30 (by decide) ?_
      exact ih (x1 + 1) v_thrownCode v_puts v_bytes v_nameFrom v_names v_values v_behind (upd v_text x1.toNatClampNeg (v_put x1.toNatClampNeg)) v_value h _ _ hP hD hS _ (lv_sub hl [1, 0] rfl)
set_option maxHeartbeats 4000000 in
set_option maxRecDepth 100000 in
theorem c_Mo_read {l : Launch} {dC : Nat → ClassId} {dI : Nat → Nat → Nat} {cB cI : ClassId} {aK aV : Nat → Nat} (N : Nat) (h_this h_this_put h_this_text h_this_value h_this_part : Nat) (v_thrownCode : Int32) (v_puts : Int32) (v_bytes : Int32) (v_nameFrom : Int32) (v_names : Int32) (v_values : Int32) (v_behind : Int32) (v_parts : Int32) (v_put : Nat → Int32) (v_text : Nat → Int32) (v_value : Nat → Int32) (v_part : Nat → Int32) (z : Int32 × Int32 × Int32 × Int32 × Int32 × Int32 × Int32 × Int32 × (Nat → Int32) × (Nat → Int32)) (h : f_Mo_read N v_thrownCode v_puts v_bytes v_nameFrom v_names v_values v_behind v_put v_text v_value = some z) : Ci l y_Mo_read prog_7_method_18_code 2 (some .int) ({ frames := 4, cells := 0, slots := 0, locals := 90 }) (dC, dI) cB cI aK aV [.ref h_this] [(h_this, .inr (5, [.int v_thrownCode, .ref h_this_put, .int v_puts, .ref h_this_text, .int v_bytes, .int v_nameFrom, .int v_names, .ref h_this_value, .int v_values, .int v_behind, .ref h_this_part, .int v_parts])), (h_this_put, .inl (cI, 300, .inl v_put)), (h_this_text, .inl (cI, 300, .inl v_text)), (h_this_value, .inl (cI, 300, .inl v_value)), (h_this_part, .inl (cI, 300, .inl v_part))] (fun A => (Qi (dC, dI) [(h_this, .inr (5, [.int z.2.1, .ref h_this_put, .int z.2.2.1, .ref h_this_text, .int z.2.2.2.1, .int z.2.2.2.2.1, .int z.2.2.2.2.2.1, .ref h_this_value, .int z.2.2.2.2.2.2.1, .int z.2.2.2.2.2.2.2.1, .ref h_this_part, .int v_parts])), (h_this_put, .inl (cI, 300, .inl v_put)), (h_this_text, .inl (cI, 300, .inl z.2.2.2.2.2.2.2.2.1)), (h_this_value, .inl (cI, 300, .inl z.2.2.2.2.2.2.2.2.2)), (h_this_part, .inl (cI, 300, .inl v_part))] A z.1)) := by
  refine Ci_of (by decide) (Nat.le_of_ble_eq_true rfl) (fun p e s m below meth c A C hK hnm hA hP hD ls hl => ?_)
  obtain ⟨hx, hb, hr, hml, hown, hts, hlk⟩ := id C
  have hS : va_S A s.heap s.heap [] := va_S.rf
  have hl : lv_has ls 2 [(0, .ref h_this)] := hl
  rw [f_Mo_read] at h
  refine lv_aload_n hx hb d_Mo_read_0 rfl (lv_at hl 0 rfl) ?_
  refine lv_iconst (v := 0) hx hb d_Mo_read_1 (by decide) ?_
  refine va_put (D := (dC, dI)) (ci := 5) (v := .int 0) (ty := .int) (C := R_Mo) (T := F_Mo) (N := 12) hx hb hts in_Mo t_Mo t_Mo_ok n_Mo hown hK.1 hP hD hS 0 rfl rfl 0 (by decide) (hts _ m_417) (fun _ h9 => h9) rfl (by decide +kernel) rfl rfl (Nat.le_of_ble_eq_true rfl) d_Mo_read_2 (fun H locs hP hD hS => ?_)
  have hP : va_P (dC, dI) classes [(h_this, .inr (5, [.int 0, .ref h_this_put, .int v_puts, .ref h_this_text, .int v_bytes, .int v_nameFrom, .int v_names, .ref h_this_value, .int v_values, .int v_behind, .ref h_this_part, .int v_parts])), (h_this_put, .inl (cI, 300, .inl v_put)), (h_this_text, .inl (cI, 300, .inl v_text)), (h_this_value, .inl (cI, 300, .inl v_value)), (h_this_part, .inl (cI, 300, .inl v_part))] H := hP
  have hD : va_D A [(h_this, .inr (5, [.int 0, .ref h_this_put, .int v_puts, .ref h_this_text, .int v_bytes, .int v_nameFrom, .int v_names, .ref h_this_value, .int v_values, .int v_behind, .ref h_this_part, .int v_parts])), (h_this_put, .inl (cI, 300, .inl v_put)), (h_this_text, .inl (cI, 300, .inl v_text)), (h_this_value, .inl (cI, 300, .inl v_value)), (h_this_part, .inl (cI, 300, .inl v_part))] := hD
  refine lv_iconst (v := 0) hx hb d_Mo_read_5 (by decide) ?_
  refine lv_istore_n (lv' := [(1, .int 0), (0, .ref h_this)]) hx hb d_Mo_read_6 rfl hl (by decide) rfl (fun ls hl => ?_)
  exact k_Mo_read_7 C hK hA N h_this h_this_put h_this_text h_this_value h_this_part v_parts v_part v_put z N 0 0 v_puts v_bytes v_nameFrom v_names v_values v_behind v_text v_value h _ _ hP hD hS _ (lv_sub hl [1, 0] rfl)
set_option maxHeartbeats 4000000 in
set_option maxRecDepth 100000 in
theorem c_Mo_field {l : Launch} {dC : Nat → ClassId} {dI : Nat → Nat → Nat} {cB cI : ClassId} {aK aV : Nat → Nat} (N : Nat) (h_this h_this_put h_this_text h_this_value h_this_part : Nat) (v_thrownCode : Int32) (v_puts : Int32) (v_bytes : Int32) (v_nameFrom : Int32) (v_names : Int32) (v_values : Int32) (v_behind : Int32) (v_parts : Int32) (v_put : Nat → Int32) (v_text : Nat → Int32) (v_value : Nat → Int32) (v_part : Nat → Int32) (x1 : Int32) (x2 : Int32) (z : Int32 × Int32 × Int32 × Int32 × Int32 × Int32 × Int32 × (Nat → Int32) × (Nat → Int32)) (h : f_Mo_field N x1 x2 v_thrownCode v_bytes v_nameFrom v_names v_values v_behind v_parts v_text v_value v_part = some z) : Ci l y_Mo_field prog_7_method_19_code 3 (some .int) ({ frames := 4, cells := 0, slots := 0, locals := 87 }) (dC, dI) cB cI aK aV [.ref h_this, .int x1, .int x2] [(h_this, .inr (5, [.int v_thrownCode, .ref h_this_put, .int v_puts, .ref h_this_text, .int v_bytes, .int v_nameFrom, .int v_names, .ref h_this_value, .int v_values, .int v_behind, .ref h_this_part, .int v_parts])), (h_this_put, .inl (cI, 300, .inl v_put)), (h_this_text, .inl (cI, 300, .inl v_text)), (h_this_value, .inl (cI, 300, .inl v_value)), (h_this_part, .inl (cI, 300, .inl v_part))] (fun A => (Qi (dC, dI) [(h_this, .inr (5, [.int z.2.1, .ref h_this_put, .int v_puts, .ref h_this_text, .int v_bytes, .int z.2.2.1, .int z.2.2.2.1, .ref h_this_value, .int z.2.2.2.2.1, .int z.2.2.2.2.2.1, .ref h_this_part, .int z.2.2.2.2.2.2.1])), (h_this_put, .inl (cI, 300, .inl v_put)), (h_this_text, .inl (cI, 300, .inl v_text)), (h_this_value, .inl (cI, 300, .inl z.2.2.2.2.2.2.2.1)), (h_this_part, .inl (cI, 300, .inl z.2.2.2.2.2.2.2.2))] A z.1)) := by
  refine Ci_of (by decide) (Nat.le_of_ble_eq_true rfl) (fun p e s m below meth c A C hK hnm hA hP hD ls hl => ?_)
  obtain ⟨hx, hb, hr, hml, hown, hts, hlk⟩ := id C
  have hS : va_S A s.heap s.heap [] := va_S.rf
  have hl : lv_has ls 3 [(0, .ref h_this), (1, .int x1), (2, .int x2)] := hl
  rw [f_Mo_field] at h
  refine lv_aload_n hx hb d_Mo_field_0 rfl (lv_at hl 0 rfl) ?_
  refine lv_iconst (v := 0) hx hb d_Mo_field_1 (by decide) ?_
  refine va_put (D := (dC, dI)) (ci := 5) (v := .int 0) (ty := .int) (C := R_Mo) (T := F_Mo) (N := 12) hx hb hts in_Mo t_Mo t_Mo_ok n_Mo hown hK.1 hP hD hS 0 rfl rfl 0 (by decide) (hts _ m_417) (fun _ h9 => h9) rfl (by decide +kernel) rfl rfl (Nat.le_of_ble_eq_true rfl) d_Mo_field_2 (fun H locs hP hD hS => ?_)
  have hP : va_P (dC, dI) classes [(h_this, .inr (5, [.int 0, .ref h_this_put, .int v_puts, .ref h_this_text, .int v_bytes, .int v_nameFrom, .int v_names, .ref h_this_value, .int v_values, .int v_behind, .ref h_this_part, .int v_parts])), (h_this_put, .inl (cI, 300, .inl v_put)), (h_this_text, .inl (cI, 300, .inl v_text)), (h_this_value, .inl (cI, 300, .inl v_value)), (h_this_part, .inl (cI, 300, .inl v_part))] H := hP
  have hD : va_D A [(h_this, .inr (5, [.int 0, .ref h_this_put, .int v_puts, .ref h_this_text, .int v_bytes, .int v_nameFrom, .int v_names, .ref h_this_value, .int v_values, .int v_behind, .ref h_this_part, .int v_parts])), (h_this_put, .inl (cI, 300, .inl v_put)), (h_this_text, .inl (cI, 300, .inl v_text)), (h_this_value, .inl (cI, 300, .inl v_value)), (h_this_part, .inl (cI, 300, .inl v_part))] := hD
  refine lv_iload_n hx hb d_Mo_field_5 rfl (lv_at hl 1 rfl) ?_
  refine lv_if_lt (tgt := 17) hx hb d_Mo_field_6 (by decide) (fun c_1 => ?_) (fun c_1 => ?_)
  · replace h := itT h c_1
    refine lv_iconst (v := (-1)) hx hb d_Mo_field_17 (by decide) ?_
    obtain rfl := Option.some.inj h
    exact W.iret (v := (-1)) hx hb hr (fun t ht hW => ⟨⟨(-1), (), rfl, rfl, by rw [ht]; exact hP, hD⟩, hS.F ht⟩) hS.2.2 d_Mo_field_18 hlk
  · replace h := itF h c_1
    refine lv_aload_n hx hb d_Mo_field_9 rfl (lv_at hl 0 rfl) ?_
    refine lv_iload_n hx hb d_Mo_field_10 rfl (lv_at hl 1 rfl) ?_
    obtain ⟨z2, hc_2, h⟩ := bs h
    refine go_i (wr := []) (w1 := [(h_this, .inr (5, [.int 0, .ref h_this_put, .int v_puts, .ref h_this_text, .int v_bytes, .int z2.2.1, .int z2.2.2.1, .ref h_this_value, .int z2.2.2.2.1, .int z2.2.2.2.2.1, .ref h_this_part, .int v_parts])), (h_this_put, .inl (cI, 300, .inl v_put)), (h_this_text, .inl (cI, 300, .inl v_text)), (h_this_value, .inl (cI, 300, .inl z2.2.2.2.2.2)), (h_this_part, .inl (cI, 300, .inl v_part))]) (ws2 := [(h_this, .inr (5, [.int 0, .ref h_this_put, .int v_puts, .ref h_this_text, .int v_bytes, .int z2.2.1, .int z2.2.2.1, .ref h_this_value, .int z2.2.2.2.1, .int z2.2.2.2.2.1, .ref h_this_part, .int v_parts])), (h_this_put, .inl (cI, 300, .inl v_put)), (h_this_text, .inl (cI, 300, .inl v_text)), (h_this_value, .inl (cI, 300, .inl z2.2.2.2.2.2)), (h_this_part, .inl (cI, 300, .inl v_part))]) hP hD hS hA [0, 1, 2, 3, 4] [] [0, 1, 2, 3, 4] rfl (by decide) rfl (by decide) (by decide) rfl (by decide) (fun hPc hDc hFc => rn_V (As := [.int x1]) (rest := []) C hK (c_Mo_look N h_this h_this_put h_this_text h_this_value h_this_part 0 v_puts v_bytes v_nameFrom v_names v_values v_behind v_parts v_put v_text v_value v_part x1 z2 hc_2 _) ⟨rfl, rfl⟩ m_466 ok_Mo_look ⟨by decide, by decide⟩ rfl rfl rfl hl.1 rfl (Nat.le_of_ble_eq_true rfl) d_Mo_field_11 ⟨by decide, by decide⟩ hS hPc hDc hFc) (fun H locs hP hD hS => ?_)
    refine lv_if_ne (tgt := 19) hx hb d_Mo_field_14 (by decide) (fun c_3 => ?_) (fun c_3 => ?_)
    · replace h := itF h c_3
      refine lv_iload_n hx hb d_Mo_field_19 rfl (lv_at hl 2 rfl) ?_
      refine lv_if_ne (tgt := 30) hx hb d_Mo_field_20 (by decide) (fun c_4 => ?_) (fun c_4 => ?_)
      · replace h := itF h c_4
        refine lv_iload_n hx hb d_Mo_field_30 rfl (lv_at hl 2 rfl) ?_
        refine lv_iconst (v := 1) hx hb d_Mo_field_31 (by decide) ?_
        refine lv_icmp_ne (tgt := 42) hx hb d_Mo_field_32 (by decide) (fun c_5 => ?_) (fun c_5 => ?_)
        · replace h := itF h c_5
          refine lv_iload_n hx hb d_Mo_field_42 rfl (lv_at hl 2 rfl) ?_
          refine lv_iconst (v := 2) hx hb d_Mo_field_43 (by decide) ?_
          refine lv_icmp_ne (tgt := 54) hx hb d_Mo_field_44 (by decide) (fun c_6 => ?_) (fun c_6 => ?_)
          · replace h := itF h c_6
            refine lv_iconst (v := (-1)) hx hb d_Mo_field_54 (by decide) ?_
            obtain rfl := Option.some.inj h
            exact W.iret (v := (-1)) hx hb hr (fun t ht hW => ⟨⟨(-1), (), rfl, rfl, by rw [ht]; exact hP, hD⟩, hS.F ht⟩) hS.2.2 d_Mo_field_55 hlk
          · replace h := itT h c_6
            refine lv_aload_n hx hb d_Mo_field_47 rfl (lv_at hl 0 rfl) ?_
            obtain ⟨z7, hc_7, h⟩ := bs h
            refine go_i (wr := []) (w1 := [(h_this, .inr (5, [.int 0, .ref h_this_put, .int v_puts, .ref h_this_text, .int v_bytes, .int z2.2.1, .int z2.2.2.1, .ref h_this_value, .int z2.2.2.2.1, .int z2.2.2.2.2.1, .ref h_this_part, .int z7.2.1])), (h_this_put, .inl (cI, 300, .inl v_put)), (h_this_text, .inl (cI, 300, .inl v_text)), (h_this_value, .inl (cI, 300, .inl z2.2.2.2.2.2)), (h_this_part, .inl (cI, 300, .inl z7.2.2))]) (ws2 := [(h_this, .inr (5, [.int 0, .ref h_this_put, .int v_puts, .ref h_this_text, .int v_bytes, .int z2.2.1, .int z2.2.2.1, .ref h_this_value, .int z2.2.2.2.1, .int z2.2.2.2.2.1, .ref h_this_part, .int z7.2.1])), (h_this_put, .inl (cI, 300, .inl v_put)), (h_this_text, .inl (cI, 300, .inl v_text)), (h_this_value, .inl (cI, 300, .inl z2.2.2.2.2.2)), (h_this_part, .inl (cI, 300, .inl z7.2.2))]) hP hD hS hA [0, 1, 2, 3, 4] [] [0, 1, 2, 3, 4] rfl (by decide) rfl (by decide) (by decide) rfl (by decide) (fun hPc hDc hFc => rn_V (As := []) (rest := []) C hK (c_Mo_addresses N h_this h_this_put h_this_text h_this_value h_this_part 0 v_puts v_bytes z2.2.1 z2.2.2.1 z2.2.2.2.1 z2.2.2.2.2.1 v_parts v_put v_text z2.2.2.2.2.2 v_part z7 hc_7 _) ⟨rfl, rfl⟩ m_493 ok_Mo_addresses ⟨by decide, by decide⟩ rfl rfl rfl hl.1 rfl (Nat.le_of_ble_eq_true rfl) d_Mo_field_48 ⟨by decide, by decide⟩ hS hPc hDc hFc) (fun H locs hP hD hS => ?_)
            refine lv_goto (tgt := 55) hx hb d_Mo_field_51 (by decide) ?_
            obtain rfl := Option.some.inj h
            exact W.iret (v := z7.1) hx hb hr (fun t ht hW => ⟨⟨z7.1, (), rfl, rfl, by rw [ht]; exact hP, hD⟩, hS.F ht⟩) hS.2.2 d_Mo_field_55 hlk
        · replace h := itT h c_5
          refine lv_aload_n hx hb d_Mo_field_35 rfl (lv_at hl 0 rfl) ?_
          refine va_get (D := (dC, dI)) (ci := 5) (v := .int z2.2.2.2.1) (C := R_Mo) (T := F_Mo) (N := 12) hx hb hts in_Mo hown hK.1 hP 0 rfl rfl 8 (by decide) (hts _ m_425) (fun _ h9 => h9) rfl d_Mo_field_36 ?_
          refine lv_goto (tgt := 55) hx hb d_Mo_field_39 (by decide) ?_
          obtain rfl := Option.some.inj h
          exact W.iret (v := z2.2.2.2.1) hx hb hr (fun t ht hW => ⟨⟨z2.2.2.2.1, (), rfl, rfl, by rw [ht]; exact hP, hD⟩, hS.F ht⟩) hS.2.2 d_Mo_field_55 hlk
      · replace h := itT h c_4
        refine lv_aload_n hx hb d_Mo_field_23 rfl (lv_at hl 0 rfl) ?_
        refine va_get (D := (dC, dI)) (ci := 5) (v := .int z2.2.2.1) (C := R_Mo) (T := F_Mo) (N := 12) hx hb hts in_Mo hown hK.1 hP 0 rfl rfl 6 (by decide) (hts _ m_423) (fun _ h9 => h9) rfl d_Mo_field_24 ?_
        refine lv_goto (tgt := 55) hx hb d_Mo_field_27 (by decide) ?_
        obtain rfl := Option.some.inj h
        exact W.iret (v := z2.2.2.1) hx hb hr (fun t ht hW => ⟨⟨z2.2.2.1, (), rfl, rfl, by rw [ht]; exact hP, hD⟩, hS.F ht⟩) hS.2.2 d_Mo_field_55 hlk
    · replace h := itT h c_3
      refine lv_iconst (v := (-1)) hx hb d_Mo_field_17 (by decide) ?_
      obtain rfl := Option.some.inj h
      exact W.iret (v := (-1)) hx hb hr (fun t ht hW => ⟨⟨(-1), (), rfl, rfl, by rw [ht]; exact hP, hD⟩, hS.F ht⟩) hS.2.2 d_Mo_field_18 hlk
set_option maxHeartbeats 4000000 in
set_option maxRecDepth 100000 in
theorem k_Mo_bytes_55 {p : Program} {l : Launch} {e : Env} {s : State} {m : MethodId} {args : Array Value} {below : List Frame} {meth : Method} {c : Code} {dC : Nat → ClassId} {dI : Nat → Nat → Nat} {cB cI : ClassId} {aK aV : Nat → Nat} {A : Nat → Prop} (C : cx p s m args meth c R_Mo prog_7_method_20_code 5 (some .long)) (hK : kx (dC, dI) cB cI aK aV A s) (hA : ∀ q : Nat, s.heap.size ≤ q → A q) (N : Nat) (h_this h_this_put h_this_text h_this_value h_this_part : Nat) (v_puts : Int32) (v_parts : Int32) (v_put : Nat → Int32) (x3 : Int32) (v_bytes : Int32) (v_text : Nat → Int32) (z : Int64 × Int32 × Int32 × Int32 × Int32 × Int32 × (Nat → Int32) × (Nat → Int32)) :
    ∀ (n : Nat), ∀ (x4 : Int32) (v_thrownCode : Int32) (v_nameFrom : Int32) (v_names : Int32) (v_values : Int32) (v_behind : Int32) (v_value : Nat → Int32) (v_part : Nat → Int32), f_Mo_bytes_55 N x3 v_bytes v_text n x4 v_thrownCode v_nameFrom v_names v_values v_behind v_value v_part = some z → ∀ (H : Heap) (locs : List Loc), va_P (dC, dI) classes [(h_this, .inr (5, [.int v_thrownCode, .ref h_this_put, .int v_puts, .ref h_this_text, .int v_bytes, .int v_nameFrom, .int v_names, .ref h_this_value, .int v_values, .int v_behind, .ref h_this_part, .int v_parts])), (h_this_put, .inl (cI, 300, .inl v_put)), (h_this_text, .inl (cI, 300, .inl v_text)), (h_this_value, .inl (cI, 300, .inl v_value)), (h_this_part, .inl (cI, 300, .inl v_part))] H → va_D A [(h_this, .inr (5, [.int v_thrownCode, .ref h_this_put, .int v_puts, .ref h_this_text, .int v_bytes, .int v_nameFrom, .int v_names, .ref h_this_value, .int v_values, .int v_behind, .ref h_this_part, .int v_parts])), (h_this_put, .inl (cI, 300, .inl v_put)), (h_this_text, .inl (cI, 300, .inl v_text)), (h_this_value, .inl (cI, 300, .inl v_value)), (h_this_part, .inl (cI, 300, .inl v_part))] → va_S A s.heap H locs → ∀ ls : Array Slot, lv_has ls 5 [(0, .ref h_this), (3, .int x3), (4, .int x4)] → W p l e ({ frames := 3, cells := 0, slots := 0, locals := 69 }) s m args below meth c H locs 0 0 (MQ below (Ql (dC, dI) [(h_this, .inr (5, [.int z.2.1, .ref h_this_put, .int v_puts, .ref h_this_text, .int v_bytes, .int z.2.2.1, .int z.2.2.2.1, .ref h_this_value, .int z.2.2.2.2.1, .int z.2.2.2.2.2.1, .ref h_this_part, .int v_parts])), (h_this_put, .inl (cI, 300, .inl v_put)), (h_this_text, .inl (cI, 300, .inl v_text)), (h_this_value, .inl (cI, 300, .inl z.2.2.2.2.2.2.1)), (h_this_part, .inl (cI, 300, .inl z.2.2.2.2.2.2.2))] A z.1) args s 0 0 A) (F0 m 55 ls []) := by
  obtain ⟨hx, hb, hr, hml, hown, hts, hlk⟩ := id C
  intro n
  induction n with
  | zero =>
    intro x4 v_thrownCode v_nameFrom v_names v_values v_behind v_value v_part h
    rw [f_Mo_bytes_55] at h
    cases h
  | succ n ih =>
    intro x4 v_thrownCode v_nameFrom v_names v_values v_behind v_value v_part h H locs hP hD hS ls hl
    rw [f_Mo_bytes_55] at h
    refine lv_iload hx hb d_Mo_bytes_55 (lv_at hl 2 rfl) ?_
    refine lv_aload_n hx hb d_Mo_bytes_57 rfl (lv_at hl 0 rfl) ?_
    refine va_get (D := (dC, dI)) (ci := 5) (v := .int v_names) (C := R_Mo) (T := F_Mo) (N := 12) hx hb hts in_Mo hown hK.1 hP 0 rfl rfl 6 (by decide) (hts _ m_423) (fun _ h9 => h9) rfl d_Mo_bytes_58 ?_
    refine lv_icmp_ge (tgt := 89) hx hb d_Mo_bytes_61 (by decide) (fun c_1 => ?_) (fun c_1 => ?_)
    · replace h := itT h c_1
      refine lv_aload_n hx hb d_Mo_bytes_89 rfl (lv_at hl 0 rfl) ?_
      refine va_get (D := (dC, dI)) (ci := 5) (v := .ref h_this_part) (C := R_Mo) (T := F_Mo) (N := 12) hx hb hts in_Mo hown hK.1 hP 0 rfl rfl 10 (by decide) (hts _ m_427) (fun _ h9 => h9) rfl d_Mo_bytes_90 ?_
      refine lv_aload_n hx hb d_Mo_bytes_93 rfl (lv_at hl 0 rfl) ?_
      refine va_get (D := (dC, dI)) (ci := 5) (v := .int v_names) (C := R_Mo) (T := F_Mo) (N := 12) hx hb hts in_Mo hown hK.1 hP 0 rfl rfl 6 (by decide) (hts _ m_423) (fun _ h9 => h9) rfl d_Mo_bytes_94 ?_
      refine lv_iload_n hx hb d_Mo_bytes_97 rfl (lv_at hl 1 rfl) ?_
      obtain ⟨z2, hc_2, h⟩ := bs h
      refine go_l (wr := [(h_this, .inr (5, [.int v_thrownCode, .ref h_this_put, .int v_puts, .ref h_this_text, .int v_bytes, .int v_nameFrom, .int v_names, .ref h_this_value, .int v_values, .int v_behind, .ref h_this_part, .int v_parts])), (h_this_put, .inl (cI, 300, .inl v_put)), (h_this_text, .inl (cI, 300, .inl v_text)), (h_this_value, .inl (cI, 300, .inl v_value))]) (w1 := [(h_this_part, .inl (cI, 300, .inl v_part))]) (ws2 := [(h_this, .inr (5, [.int v_thrownCode, .ref h_this_put, .int v_puts, .ref h_this_text, .int v_bytes, .int v_nameFrom, .int v_names, .ref h_this_value, .int v_values, .int v_behind, .ref h_this_part, .int v_parts])), (h_this_put, .inl (cI, 300, .inl v_put)), (h_this_text, .inl (cI, 300, .inl v_text)), (h_this_value, .inl (cI, 300, .inl v_value)), (h_this_part, .inl (cI, 300, .inl v_part))]) hP hD hS hA [4] [0, 1, 2, 3] [0, 1, 2, 3, 4] rfl (by decide) rfl (by decide) (by decide) rfl (by decide) (fun hPc hDc hFc => rn_S (As := [.ref h_this_part, .int v_names, .int x3]) (rest := []) C hK (c_Mo_eight N h_this_part v_part v_names x3 z2 hc_2 _) ⟨rfl, rfl⟩ m_516 ok_Mo_eight ⟨by decide, by decide⟩ hl.1 rfl (Nat.le_of_ble_eq_true rfl) d_Mo_bytes_98 ⟨by decide, by decide⟩ hS hPc hDc hFc) (fun H locs hP hD hS => ?_)
      obtain rfl := Option.some.inj h
      exact W.lret (v := z2) hx hb hr (fun t ht hW => ⟨⟨z2, (), rfl, rfl, by rw [ht]; exact hP, hD⟩, hS.F ht⟩) hS.2.2 d_Mo_bytes_101 hlk
    · replace h := itF h c_1
      refine lv_aload_n hx hb d_Mo_bytes_64 rfl (lv_at hl 0 rfl) ?_
      refine va_get (D := (dC, dI)) (ci := 5) (v := .ref h_this_part) (C := R_Mo) (T := F_Mo) (N := 12) hx hb hts in_Mo hown hK.1 hP 0 rfl rfl 10 (by decide) (hts _ m_427) (fun _ h9 => h9) rfl d_Mo_bytes_65 ?_
      refine lv_iload hx hb d_Mo_bytes_68 (lv_at hl 2 rfl) ?_
      refine lv_aload_n hx hb d_Mo_bytes_70 rfl (lv_at hl 0 rfl) ?_
      refine va_get (D := (dC, dI)) (ci := 5) (v := .ref h_this_text) (C := R_Mo) (T := F_Mo) (N := 12) hx hb hts in_Mo hown hK.1 hP 0 rfl rfl 3 (by decide) (hts _ m_420) (fun _ h9 => h9) rfl d_Mo_bytes_71 ?_
      refine lv_aload_n hx hb d_Mo_bytes_74 rfl (lv_at hl 0 rfl) ?_
      refine va_get (D := (dC, dI)) (ci := 5) (v := .int v_nameFrom) (C := R_Mo) (T := F_Mo) (N := 12) hx hb hts in_Mo hown hK.1 hP 0 rfl rfl 5 (by decide) (hts _ m_422) (fun _ h9 => h9) rfl d_Mo_bytes_75 ?_
      refine lv_iload hx hb d_Mo_bytes_78 (lv_at hl 2 rfl) ?_
      refine lv_iadd hx hb d_Mo_bytes_80 ?_
      obtain ⟨g_3, h⟩ := grd h
      refine va_iald hx hb hK.1 hP 2 1 rfl rfl (inB_in g_3) d_Mo_bytes_81 ?_
      obtain ⟨g_4, h⟩ := grd h
      refine va_iast hx hb hK.1 hP hD hS 4 1 rfl rfl (inB_in g_4) d_Mo_bytes_82 (fun H locs hP hD hS => ?_)
      have hP : va_P (dC, dI) classes [(h_this, .inr (5, [.int v_thrownCode, .ref h_this_put, .int v_puts, .ref h_this_text, .int v_bytes, .int v_nameFrom, .int v_names, .ref h_this_value, .int v_values, .int v_behind, .ref h_this_part, .int v_parts])), (h_this_put, .inl (cI, 300, .inl v_put)), (h_this_text, .inl (cI, 300, .inl v_text)), (h_this_value, .inl (cI, 300, .inl v_value)), (h_this_part, .inl (cI, 300, .inl (upd v_part x4.toNatClampNeg (v_text (v_nameFrom + x4).toNatClampNeg))))] H := hP
      have hD : va_D A [(h_this, .inr (5, [.int v_thrownCode, .ref h_this_put, .int v_puts, .ref h_this_text, .int v_bytes, .int v_nameFrom, .int v_names, .ref h_this_value, .int v_values, .int v_behind, .ref h_this_part, .int v_parts])), (h_this_put, .inl (cI, 300, .inl v_put)), (h_this_text, .inl (cI, 300, .inl v_text)), (h_this_value, .inl (cI, 300, .inl v_value)), (h_this_part, .inl (cI, 300, .inl (upd v_part x4.toNatClampNeg (v_text (v_nameFrom + x4).toNatClampNeg))))] := hD
      refine lv_iinc (v := x4 + 1) (lv' := [(4, .int (x4 + 1)), (0, .ref h_this), (3, .int x3)]) hx hb d_Mo_bytes_83 hl (k := 2) rfl rfl (by decide) rfl (fun ls hl => ?_)
      refine lv_goto (tgt := 55) hx hb d_Mo_bytes_86 (by decide) ?_
      exact ih (x4 + 1) v_thrownCode v_nameFrom v_names v_values v_behind v_value (upd v_part x4.toNatClampNeg (v_text (v_nameFrom + x4).toNatClampNeg)) h _ _ hP hD hS _ (lv_sub hl [1, 2, 0] rfl)
set_option maxHeartbeats 4000000 in
set_option maxRecDepth 100000 in
theorem c_Mo_bytes {l : Launch} {dC : Nat → ClassId} {dI : Nat → Nat → Nat} {cB cI : ClassId} {aK aV : Nat → Nat} (N : Nat) (h_this h_this_put h_this_text h_this_value h_this_part : Nat) (v_thrownCode : Int32) (v_puts : Int32) (v_bytes : Int32) (v_nameFrom : Int32) (v_names : Int32) (v_values : Int32) (v_behind : Int32) (v_parts : Int32) (v_put : Nat → Int32) (v_text : Nat → Int32) (v_value : Nat → Int32) (v_part : Nat → Int32) (x1 : Int32) (x2 : Int32) (x3 : Int32) (z : Int64 × Int32 × Int32 × Int32 × Int32 × Int32 × (Nat → Int32) × (Nat → Int32)) (h : f_Mo_bytes N x1 x2 x3 v_thrownCode v_bytes v_nameFrom v_names v_values v_behind v_text v_value v_part = some z) : Ci l y_Mo_bytes prog_7_method_20_code 5 (some .long) ({ frames := 3, cells := 0, slots := 0, locals := 69 }) (dC, dI) cB cI aK aV [.ref h_this, .int x1, .int x2, .int x3] [(h_this, .inr (5, [.int v_thrownCode, .ref h_this_put, .int v_puts, .ref h_this_text, .int v_bytes, .int v_nameFrom, .int v_names, .ref h_this_value, .int v_values, .int v_behind, .ref h_this_part, .int v_parts])), (h_this_put, .inl (cI, 300, .inl v_put)), (h_this_text, .inl (cI, 300, .inl v_text)), (h_this_value, .inl (cI, 300, .inl v_value)), (h_this_part, .inl (cI, 300, .inl v_part))] (fun A => (Ql (dC, dI) [(h_this, .inr (5, [.int z.2.1, .ref h_this_put, .int v_puts, .ref h_this_text, .int v_bytes, .int z.2.2.1, .int z.2.2.2.1, .ref h_this_value, .int z.2.2.2.2.1, .int z.2.2.2.2.2.1, .ref h_this_part, .int v_parts])), (h_this_put, .inl (cI, 300, .inl v_put)), (h_this_text, .inl (cI, 300, .inl v_text)), (h_this_value, .inl (cI, 300, .inl z.2.2.2.2.2.2.1)), (h_this_part, .inl (cI, 300, .inl z.2.2.2.2.2.2.2))] A z.1)) := by
  refine Ci_of (by decide) (Nat.le_of_ble_eq_true rfl) (fun p e s m below meth c A C hK hnm hA hP hD ls hl => ?_)
  obtain ⟨hx, hb, hr, hml, hown, hts, hlk⟩ := id C
  have hS : va_S A s.heap s.heap [] := va_S.rf
  have hl : lv_has ls 5 [(0, .ref h_this), (1, .int x1), (2, .int x2), (3, .int x3)] := hl
  rw [f_Mo_bytes] at h
  refine lv_aload_n hx hb d_Mo_bytes_0 rfl (lv_at hl 0 rfl) ?_
  refine lv_iconst (v := 0) hx hb d_Mo_bytes_1 (by decide) ?_
  refine va_put (D := (dC, dI)) (ci := 5) (v := .int 0) (ty := .int) (C := R_Mo) (T := F_Mo) (N := 12) hx hb hts in_Mo t_Mo t_Mo_ok n_Mo hown hK.1 hP hD hS 0 rfl rfl 0 (by decide) (hts _ m_417) (fun _ h9 => h9) rfl (by decide +kernel) rfl rfl (Nat.le_of_ble_eq_true rfl) d_Mo_bytes_2 (fun H locs hP hD hS => ?_)
  have hP : va_P (dC, dI) classes [(h_this, .inr (5, [.int 0, .ref h_this_put, .int v_puts, .ref h_this_text, .int v_bytes, .int v_nameFrom, .int v_names, .ref h_this_value, .int v_values, .int v_behind, .ref h_this_part, .int v_parts])), (h_this_put, .inl (cI, 300, .inl v_put)), (h_this_text, .inl (cI, 300, .inl v_text)), (h_this_value, .inl (cI, 300, .inl v_value)), (h_this_part, .inl (cI, 300, .inl v_part))] H := hP
  have hD : va_D A [(h_this, .inr (5, [.int 0, .ref h_this_put, .int v_puts, .ref h_this_text, .int v_bytes, .int v_nameFrom, .int v_names, .ref h_this_value, .int v_values, .int v_behind, .ref h_this_part, .int v_parts])), (h_this_put, .inl (cI, 300, .inl v_put)), (h_this_text, .inl (cI, 300, .inl v_text)), (h_this_value, .inl (cI, 300, .inl v_value)), (h_this_part, .inl (cI, 300, .inl v_part))] := hD
  refine lv_iload_n hx hb d_Mo_bytes_5 rfl (lv_at hl 1 rfl) ?_
  refine lv_if_lt (tgt := 30) hx hb d_Mo_bytes_6 (by decide) (fun c_5 => ?_) (fun c_5 => ?_)
  · replace h := itT h c_5
    refine lv_ldc2 (v := (-1)) hx hb hown (hts _ m_515) d_Mo_bytes_30 ?_
    obtain rfl := Option.some.inj h
    exact W.lret (v := (-1)) hx hb hr (fun t ht hW => ⟨⟨(-1), (), rfl, rfl, by rw [ht]; exact hP, hD⟩, hS.F ht⟩) hS.2.2 d_Mo_bytes_33 hlk
  · replace h := itF h c_5
    refine lv_iload_n hx hb d_Mo_bytes_9 rfl (lv_at hl 2 rfl) ?_
    refine lv_if_lt (tgt := 30) hx hb d_Mo_bytes_10 (by decide) (fun c_6 => ?_) (fun c_6 => ?_)
    · replace h := itT h c_6
      refine lv_ldc2 (v := (-1)) hx hb hown (hts _ m_515) d_Mo_bytes_30 ?_
      obtain rfl := Option.some.inj h
      exact W.lret (v := (-1)) hx hb hr (fun t ht hW => ⟨⟨(-1), (), rfl, rfl, by rw [ht]; exact hP, hD⟩, hS.F ht⟩) hS.2.2 d_Mo_bytes_33 hlk
    · replace h := itF h c_6
      refine lv_iload_n hx hb d_Mo_bytes_13 rfl (lv_at hl 2 rfl) ?_
      refine lv_iconst (v := 1) hx hb d_Mo_bytes_14 (by decide) ?_
      refine lv_icmp_gt (tgt := 30) hx hb d_Mo_bytes_15 (by decide) (fun c_7 => ?_) (fun c_7 => ?_)
      · replace h := itT h c_7
        refine lv_ldc2 (v := (-1)) hx hb hown (hts _ m_515) d_Mo_bytes_30 ?_
        obtain rfl := Option.some.inj h
        exact W.lret (v := (-1)) hx hb hr (fun t ht hW => ⟨⟨(-1), (), rfl, rfl, by rw [ht]; exact hP, hD⟩, hS.F ht⟩) hS.2.2 d_Mo_bytes_33 hlk
      · replace h := itF h c_7
        refine lv_iload_n hx hb d_Mo_bytes_18 rfl (lv_at hl 3 rfl) ?_
        refine lv_if_lt (tgt := 30) hx hb d_Mo_bytes_19 (by decide) (fun c_8 => ?_) (fun c_8 => ?_)
        · replace h := itT h c_8
          refine lv_ldc2 (v := (-1)) hx hb hown (hts _ m_515) d_Mo_bytes_30 ?_
          obtain rfl := Option.some.inj h
          exact W.lret (v := (-1)) hx hb hr (fun t ht hW => ⟨⟨(-1), (), rfl, rfl, by rw [ht]; exact hP, hD⟩, hS.F ht⟩) hS.2.2 d_Mo_bytes_33 hlk
        · replace h := itF h c_8
          refine lv_aload_n hx hb d_Mo_bytes_22 rfl (lv_at hl 0 rfl) ?_
          refine lv_iload_n hx hb d_Mo_bytes_23 rfl (lv_at hl 1 rfl) ?_
          obtain ⟨z9, hc_9, h⟩ := bs h
          refine go_i (wr := []) (w1 := [(h_this, .inr (5, [.int 0, .ref h_this_put, .int v_puts, .ref h_this_text, .int v_bytes, .int z9.2.1, .int z9.2.2.1, .ref h_this_value, .int z9.2.2.2.1, .int z9.2.2.2.2.1, .ref h_this_part, .int v_parts])), (h_this_put, .inl (cI, 300, .inl v_put)), (h_this_text, .inl (cI, 300, .inl v_text)), (h_this_value, .inl (cI, 300, .inl z9.2.2.2.2.2)), (h_this_part, .inl (cI, 300, .inl v_part))]) (ws2 := [(h_this, .inr (5, [.int 0, .ref h_this_put, .int v_puts, .ref h_this_text, .int v_bytes, .int z9.2.1, .int z9.2.2.1, .ref h_this_value, .int z9.2.2.2.1, .int z9.2.2.2.2.1, .ref h_this_part, .int v_parts])), (h_this_put, .inl (cI, 300, .inl v_put)), (h_this_text, .inl (cI, 300, .inl v_text)), (h_this_value, .inl (cI, 300, .inl z9.2.2.2.2.2)), (h_this_part, .inl (cI, 300, .inl v_part))]) hP hD hS hA [0, 1, 2, 3, 4] [] [0, 1, 2, 3, 4] rfl (by decide) rfl (by decide) (by decide) rfl (by decide) (fun hPc hDc hFc => rn_V (As := [.int x1]) (rest := []) C hK (c_Mo_look N h_this h_this_put h_this_text h_this_value h_this_part 0 v_puts v_bytes v_nameFrom v_names v_values v_behind v_parts v_put v_text v_value v_part x1 z9 hc_9 _) ⟨rfl, rfl⟩ m_466 ok_Mo_look ⟨by decide, by decide⟩ rfl rfl rfl hl.1 rfl (Nat.le_of_ble_eq_true rfl) d_Mo_bytes_24 ⟨by decide, by decide⟩ hS hPc hDc hFc) (fun H locs hP hD hS => ?_)
          refine lv_if_ne (tgt := 34) hx hb d_Mo_bytes_27 (by decide) (fun c_10 => ?_) (fun c_10 => ?_)
          · replace h := itF h c_10
            refine lv_iload_n hx hb d_Mo_bytes_34 rfl (lv_at hl 2 rfl) ?_
            refine lv_iconst (v := 1) hx hb d_Mo_bytes_35 (by decide) ?_
            refine lv_icmp_ne (tgt := 52) hx hb d_Mo_bytes_36 (by decide) (fun c_11 => ?_) (fun c_11 => ?_)
            · replace h := itF h c_11
              refine lv_iconst (v := 0) hx hb d_Mo_bytes_52 (by decide) ?_
              refine lv_istore (lv' := [(4, .int 0), (0, .ref h_this), (1, .int x1), (2, .int x2), (3, .int x3)]) hx hb d_Mo_bytes_53 hl (by decide) rfl (fun ls hl => ?_)
              exact k_Mo_bytes_55 C hK hA N h_this h_this_put h_this_text h_this_value h_this_part v_puts v_parts v_put x3 v_bytes v_text z N 0 0 z9.2.1 z9.2.2.1 z9.2.2.2.1 z9.2.2.2.2.1 z9.2.2.2.2.2 v_part h _ _ hP hD hS _ (lv_sub hl [1, 4, 0] rfl)
            · replace h := itT h c_11
              refine lv_aload_n hx hb d_Mo_bytes_39 rfl (lv_at hl 0 rfl) ?_
              refine va_get (D := (dC, dI)) (ci := 5) (v := .ref h_this_value) (C := R_Mo) (T := F_Mo) (N := 12) hx hb hts in_Mo hown hK.1 hP 0 rfl rfl 7 (by decide) (hts _ m_424) (fun _ h9 => h9) rfl d_Mo_bytes_40 ?_
              refine lv_aload_n hx hb d_Mo_bytes_43 rfl (lv_at hl 0 rfl) ?_
              refine va_get (D := (dC, dI)) (ci := 5) (v := .int z9.2.2.2.1) (C := R_Mo) (T := F_Mo) (N := 12) hx hb hts in_Mo hown hK.1 hP 0 rfl rfl 8 (by decide) (hts _ m_425) (fun _ h9 => h9) rfl d_Mo_bytes_44 ?_
              refine lv_iload_n hx hb d_Mo_bytes_47 rfl (lv_at hl 3 rfl) ?_
              obtain ⟨z12, hc_12, h⟩ := bs h
              refine go_l (wr := [(h_this, .inr (5, [.int 0, .ref h_this_put, .int v_puts, .ref h_this_text, .int v_bytes, .int z9.2.1, .int z9.2.2.1, .ref h_this_value, .int z9.2.2.2.1, .int z9.2.2.2.2.1, .ref h_this_part, .int v_parts])), (h_this_put, .inl (cI, 300, .inl v_put)), (h_this_text, .inl (cI, 300, .inl v_text)), (h_this_part, .inl (cI, 300, .inl v_part))]) (w1 := [(h_this_value, .inl (cI, 300, .inl z9.2.2.2.2.2))]) (ws2 := [(h_this, .inr (5, [.int 0, .ref h_this_put, .int v_puts, .ref h_this_text, .int v_bytes, .int z9.2.1, .int z9.2.2.1, .ref h_this_value, .int z9.2.2.2.1, .int z9.2.2.2.2.1, .ref h_this_part, .int v_parts])), (h_this_put, .inl (cI, 300, .inl v_put)), (h_this_text, .inl (cI, 300, .inl v_text)), (h_this_value, .inl (cI, 300, .inl z9.2.2.2.2.2)), (h_this_part, .inl (cI, 300, .inl v_part))]) hP hD hS hA [3] [0, 1, 2, 4] [0, 1, 2, 4, 3] rfl (by decide) rfl (by decide) (by decide) rfl (by decide) (fun hPc hDc hFc => rn_S (As := [.ref h_this_value, .int z9.2.2.2.1, .int x3]) (rest := []) C hK (c_Mo_eight N h_this_value z9.2.2.2.2.2 z9.2.2.2.1 x3 z12 hc_12 _) ⟨rfl, rfl⟩ m_516 ok_Mo_eight ⟨by decide, by decide⟩ hl.1 rfl (Nat.le_of_ble_eq_true rfl) d_Mo_bytes_48 ⟨by decide, by decide⟩ hS hPc hDc hFc) (fun H locs hP hD hS => ?_)
              obtain rfl := Option.some.inj h
              exact W.lret (v := z12) hx hb hr (fun t ht hW => ⟨⟨z12, (), rfl, rfl, by rw [ht]; exact hP, hD⟩, hS.F ht⟩) hS.2.2 d_Mo_bytes_51 hlk
          · replace h := itT h c_10
            refine lv_ldc2 (v := (-1)) hx hb hown (hts _ m_515) d_Mo_bytes_30 ?_
            obtain rfl := Option.some.inj h
            exact W.lret (v := (-1)) hx hb hr (fun t ht hW => ⟨⟨(-1), (), rfl, rfl, by rw [ht]; exact hP, hD⟩, hS.F ht⟩) hS.2.2 d_Mo_bytes_33 hlk
set_option maxHeartbeats 4000000 in
set_option maxRecDepth 100000 in
theorem c_Mo_address {l : Launch} {dC : Nat → ClassId} {dI : Nat → Nat → Nat} {cB cI : ClassId} {aK aV : Nat → Nat} (N : Nat) (h_this h_this_put h_this_text h_this_value h_this_part : Nat) (v_thrownCode : Int32) (v_puts : Int32) (v_bytes : Int32) (v_nameFrom : Int32) (v_names : Int32) (v_values : Int32) (v_behind : Int32) (v_parts : Int32) (v_put : Nat → Int32) (v_text : Nat → Int32) (v_value : Nat → Int32) (v_part : Nat → Int32) (x1 : Int32) (x2 : Int32) (x3 : Int32) (z : Int64 × Int32 × Int32 × Int32 × Int32 × Int32 × Int32 × (Nat → Int32) × (Nat → Int32)) (h : f_Mo_address N x1 x2 x3 v_thrownCode v_bytes v_nameFrom v_names v_values v_behind v_parts v_text v_value v_part = some z) : Ci l y_Mo_address prog_7_method_21_code 4 (some .long) ({ frames := 4, cells := 0, slots := 0, locals := 89 }) (dC, dI) cB cI aK aV [.ref h_this, .int x1, .int x2, .int x3] [(h_this, .inr (5, [.int v_thrownCode, .ref h_this_put, .int v_puts, .ref h_this_text, .int v_bytes, .int v_nameFrom, .int v_names, .ref h_this_value, .int v_values, .int v_behind, .ref h_this_part, .int v_parts])), (h_this_put, .inl (cI, 300, .inl v_put)), (h_this_text, .inl (cI, 300, .inl v_text)), (h_this_value, .inl (cI, 300, .inl v_value)), (h_this_part, .inl (cI, 300, .inl v_part))] (fun A => (Ql (dC, dI) [(h_this, .inr (5, [.int z.2.1, .ref h_this_put, .int v_puts, .ref h_this_text, .int v_bytes, .int z.2.2.1, .int z.2.2.2.1, .ref h_this_value, .int z.2.2.2.2.1, .int z.2.2.2.2.2.1, .ref h_this_part, .int z.2.2.2.2.2.2.1])), (h_this_put, .inl (cI, 300, .inl v_put)), (h_this_text, .inl (cI, 300, .inl v_text)), (h_this_value, .inl (cI, 300, .inl z.2.2.2.2.2.2.2.1)), (h_this_part, .inl (cI, 300, .inl z.2.2.2.2.2.2.2.2))] A z.1)) := by
  refine Ci_of (by decide) (Nat.le_of_ble_eq_true rfl) (fun p e s m below meth c A C hK hnm hA hP hD ls hl => ?_)
  obtain ⟨hx, hb, hr, hml, hown, hts, hlk⟩ := id C
  have hS : va_S A s.heap s.heap [] := va_S.rf
  have hl : lv_has ls 4 [(0, .ref h_this), (1, .int x1), (2, .int x2), (3, .int x3)] := hl
  rw [f_Mo_address] at h
  refine lv_aload_n hx hb d_Mo_address_0 rfl (lv_at hl 0 rfl) ?_
  refine lv_iconst (v := 0) hx hb d_Mo_address_1 (by decide) ?_
  refine va_put (D := (dC, dI)) (ci := 5) (v := .int 0) (ty := .int) (C := R_Mo) (T := F_Mo) (N := 12) hx hb hts in_Mo t_Mo t_Mo_ok n_Mo hown hK.1 hP hD hS 0 rfl rfl 0 (by decide) (hts _ m_417) (fun _ h9 => h9) rfl (by decide +kernel) rfl rfl (Nat.le_of_ble_eq_true rfl) d_Mo_address_2 (fun H locs hP hD hS => ?_)
  have hP : va_P (dC, dI) classes [(h_this, .inr (5, [.int 0, .ref h_this_put, .int v_puts, .ref h_this_text, .int v_bytes, .int v_nameFrom, .int v_names, .ref h_this_value, .int v_values, .int v_behind, .ref h_this_part, .int v_parts])), (h_this_put, .inl (cI, 300, .inl v_put)), (h_this_text, .inl (cI, 300, .inl v_text)), (h_this_value, .inl (cI, 300, .inl v_value)), (h_this_part, .inl (cI, 300, .inl v_part))] H := hP
  have hD : va_D A [(h_this, .inr (5, [.int 0, .ref h_this_put, .int v_puts, .ref h_this_text, .int v_bytes, .int v_nameFrom, .int v_names, .ref h_this_value, .int v_values, .int v_behind, .ref h_this_part, .int v_parts])), (h_this_put, .inl (cI, 300, .inl v_put)), (h_this_text, .inl (cI, 300, .inl v_text)), (h_this_value, .inl (cI, 300, .inl v_value)), (h_this_part, .inl (cI, 300, .inl v_part))] := hD
  refine lv_iload_n hx hb d_Mo_address_5 rfl (lv_at hl 1 rfl) ?_
  refine lv_if_lt (tgt := 25) hx hb d_Mo_address_6 (by decide) (fun c_1 => ?_) (fun c_1 => ?_)
  · replace h := itT h c_1
    refine lv_ldc2 (v := (-1)) hx hb hown (hts _ m_515) d_Mo_address_25 ?_
    obtain rfl := Option.some.inj h
    exact W.lret (v := (-1)) hx hb hr (fun t ht hW => ⟨⟨(-1), (), rfl, rfl, by rw [ht]; exact hP, hD⟩, hS.F ht⟩) hS.2.2 d_Mo_address_28 hlk
  · replace h := itF h c_1
    refine lv_iload_n hx hb d_Mo_address_9 rfl (lv_at hl 2 rfl) ?_
    refine lv_if_lt (tgt := 25) hx hb d_Mo_address_10 (by decide) (fun c_2 => ?_) (fun c_2 => ?_)
    · replace h := itT h c_2
      refine lv_ldc2 (v := (-1)) hx hb hown (hts _ m_515) d_Mo_address_25 ?_
      obtain rfl := Option.some.inj h
      exact W.lret (v := (-1)) hx hb hr (fun t ht hW => ⟨⟨(-1), (), rfl, rfl, by rw [ht]; exact hP, hD⟩, hS.F ht⟩) hS.2.2 d_Mo_address_28 hlk
    · replace h := itF h c_2
      refine lv_iload_n hx hb d_Mo_address_13 rfl (lv_at hl 3 rfl) ?_
      refine lv_if_lt (tgt := 25) hx hb d_Mo_address_14 (by decide) (fun c_3 => ?_) (fun c_3 => ?_)
      · replace h := itT h c_3
        refine lv_ldc2 (v := (-1)) hx hb hown (hts _ m_515) d_Mo_address_25 ?_
        obtain rfl := Option.some.inj h
        exact W.lret (v := (-1)) hx hb hr (fun t ht hW => ⟨⟨(-1), (), rfl, rfl, by rw [ht]; exact hP, hD⟩, hS.F ht⟩) hS.2.2 d_Mo_address_28 hlk
      · replace h := itF h c_3
        refine lv_aload_n hx hb d_Mo_address_17 rfl (lv_at hl 0 rfl) ?_
        refine lv_iload_n hx hb d_Mo_address_18 rfl (lv_at hl 1 rfl) ?_
        obtain ⟨z4, hc_4, h⟩ := bs h
        refine go_i (wr := []) (w1 := [(h_this, .inr (5, [.int 0, .ref h_this_put, .int v_puts, .ref h_this_text, .int v_bytes, .int z4.2.1, .int z4.2.2.1, .ref h_this_value, .int z4.2.2.2.1, .int z4.2.2.2.2.1, .ref h_this_part, .int v_parts])), (h_this_put, .inl (cI, 300, .inl v_put)), (h_this_text, .inl (cI, 300, .inl v_text)), (h_this_value, .inl (cI, 300, .inl z4.2.2.2.2.2)), (h_this_part, .inl (cI, 300, .inl v_part))]) (ws2 := [(h_this, .inr (5, [.int 0, .ref h_this_put, .int v_puts, .ref h_this_text, .int v_bytes, .int z4.2.1, .int z4.2.2.1, .ref h_this_value, .int z4.2.2.2.1, .int z4.2.2.2.2.1, .ref h_this_part, .int v_parts])), (h_this_put, .inl (cI, 300, .inl v_put)), (h_this_text, .inl (cI, 300, .inl v_text)), (h_this_value, .inl (cI, 300, .inl z4.2.2.2.2.2)), (h_this_part, .inl (cI, 300, .inl v_part))]) hP hD hS hA [0, 1, 2, 3, 4] [] [0, 1, 2, 3, 4] rfl (by decide) rfl (by decide) (by decide) rfl (by decide) (fun hPc hDc hFc => rn_V (As := [.int x1]) (rest := []) C hK (c_Mo_look N h_this h_this_put h_this_text h_this_value h_this_part 0 v_puts v_bytes v_nameFrom v_names v_values v_behind v_parts v_put v_text v_value v_part x1 z4 hc_4 _) ⟨rfl, rfl⟩ m_466 ok_Mo_look ⟨by decide, by decide⟩ rfl rfl rfl hl.1 rfl (Nat.le_of_ble_eq_true rfl) d_Mo_address_19 ⟨by decide, by decide⟩ hS hPc hDc hFc) (fun H locs hP hD hS => ?_)
        refine lv_if_ne (tgt := 29) hx hb d_Mo_address_22 (by decide) (fun c_5 => ?_) (fun c_5 => ?_)
        · replace h := itF h c_5
          refine lv_aload_n hx hb d_Mo_address_29 rfl (lv_at hl 0 rfl) ?_
          refine lv_iload_n hx hb d_Mo_address_30 rfl (lv_at hl 2 rfl) ?_
          obtain ⟨z6, hc_6, h⟩ := bs h
          refine go_i (wr := []) (w1 := [(h_this, .inr (5, [.int 0, .ref h_this_put, .int v_puts, .ref h_this_text, .int v_bytes, .int z4.2.1, .int z4.2.2.1, .ref h_this_value, .int z4.2.2.2.1, .int z4.2.2.2.2.1, .ref h_this_part, .int z6.2.1])), (h_this_put, .inl (cI, 300, .inl v_put)), (h_this_text, .inl (cI, 300, .inl v_text)), (h_this_value, .inl (cI, 300, .inl z4.2.2.2.2.2)), (h_this_part, .inl (cI, 300, .inl z6.2.2))]) (ws2 := [(h_this, .inr (5, [.int 0, .ref h_this_put, .int v_puts, .ref h_this_text, .int v_bytes, .int z4.2.1, .int z4.2.2.1, .ref h_this_value, .int z4.2.2.2.1, .int z4.2.2.2.2.1, .ref h_this_part, .int z6.2.1])), (h_this_put, .inl (cI, 300, .inl v_put)), (h_this_text, .inl (cI, 300, .inl v_text)), (h_this_value, .inl (cI, 300, .inl z4.2.2.2.2.2)), (h_this_part, .inl (cI, 300, .inl z6.2.2))]) hP hD hS hA [0, 1, 2, 3, 4] [] [0, 1, 2, 3, 4] rfl (by decide) rfl (by decide) (by decide) rfl (by decide) (fun hPc hDc hFc => rn_V (As := [.int x2]) (rest := []) C hK (c_Mo_addressAt N h_this h_this_put h_this_text h_this_value h_this_part 0 v_puts v_bytes z4.2.1 z4.2.2.1 z4.2.2.2.1 z4.2.2.2.2.1 v_parts v_put v_text z4.2.2.2.2.2 v_part x2 z6 hc_6 _) ⟨rfl, rfl⟩ m_523 ok_Mo_addressAt ⟨by decide, by decide⟩ rfl rfl rfl hl.1 rfl (Nat.le_of_ble_eq_true rfl) d_Mo_address_31 ⟨by decide, by decide⟩ hS hPc hDc hFc) (fun H locs hP hD hS => ?_)
          refine lv_if_ge (tgt := 43) hx hb d_Mo_address_34 (by decide) (fun c_7 => ?_) (fun c_7 => ?_)
          · replace h := itT h c_7
            refine lv_aload_n hx hb d_Mo_address_43 rfl (lv_at hl 0 rfl) ?_
            refine va_get (D := (dC, dI)) (ci := 5) (v := .ref h_this_part) (C := R_Mo) (T := F_Mo) (N := 12) hx hb hts in_Mo hown hK.1 hP 0 rfl rfl 10 (by decide) (hts _ m_427) (fun _ h9 => h9) rfl d_Mo_address_44 ?_
            refine lv_aload_n hx hb d_Mo_address_47 rfl (lv_at hl 0 rfl) ?_
            refine va_get (D := (dC, dI)) (ci := 5) (v := .int z6.2.1) (C := R_Mo) (T := F_Mo) (N := 12) hx hb hts in_Mo hown hK.1 hP 0 rfl rfl 11 (by decide) (hts _ m_428) (fun _ h9 => h9) rfl d_Mo_address_48 ?_
            refine lv_iload_n hx hb d_Mo_address_51 rfl (lv_at hl 3 rfl) ?_
            obtain ⟨z8, hc_8, h⟩ := bs h
            refine go_l (wr := [(h_this, .inr (5, [.int 0, .ref h_this_put, .int v_puts, .ref h_this_text, .int v_bytes, .int z4.2.1, .int z4.2.2.1, .ref h_this_value, .int z4.2.2.2.1, .int z4.2.2.2.2.1, .ref h_this_part, .int z6.2.1])), (h_this_put, .inl (cI, 300, .inl v_put)), (h_this_text, .inl (cI, 300, .inl v_text)), (h_this_value, .inl (cI, 300, .inl z4.2.2.2.2.2))]) (w1 := [(h_this_part, .inl (cI, 300, .inl z6.2.2))]) (ws2 := [(h_this, .inr (5, [.int 0, .ref h_this_put, .int v_puts, .ref h_this_text, .int v_bytes, .int z4.2.1, .int z4.2.2.1, .ref h_this_value, .int z4.2.2.2.1, .int z4.2.2.2.2.1, .ref h_this_part, .int z6.2.1])), (h_this_put, .inl (cI, 300, .inl v_put)), (h_this_text, .inl (cI, 300, .inl v_text)), (h_this_value, .inl (cI, 300, .inl z4.2.2.2.2.2)), (h_this_part, .inl (cI, 300, .inl z6.2.2))]) hP hD hS hA [4] [0, 1, 2, 3] [0, 1, 2, 3, 4] rfl (by decide) rfl (by decide) (by decide) rfl (by decide) (fun hPc hDc hFc => rn_S (As := [.ref h_this_part, .int z6.2.1, .int x3]) (rest := []) C hK (c_Mo_eight N h_this_part z6.2.2 z6.2.1 x3 z8 hc_8 _) ⟨rfl, rfl⟩ m_516 ok_Mo_eight ⟨by decide, by decide⟩ hl.1 rfl (Nat.le_of_ble_eq_true rfl) d_Mo_address_52 ⟨by decide, by decide⟩ hS hPc hDc hFc) (fun H locs hP hD hS => ?_)
            obtain rfl := Option.some.inj h
            exact W.lret (v := z8) hx hb hr (fun t ht hW => ⟨⟨z8, (), rfl, rfl, by rw [ht]; exact hP, hD⟩, hS.F ht⟩) hS.2.2 d_Mo_address_55 hlk
          · replace h := itF h c_7
            refine lv_ldc2 (v := (-1)) hx hb hown (hts _ m_515) d_Mo_address_37 ?_
            refine lv_goto (tgt := 55) hx hb d_Mo_address_40 (by decide) ?_
            obtain rfl := Option.some.inj h
            exact W.lret (v := (-1)) hx hb hr (fun t ht hW => ⟨⟨(-1), (), rfl, rfl, by rw [ht]; exact hP, hD⟩, hS.F ht⟩) hS.2.2 d_Mo_address_55 hlk
        · replace h := itT h c_5
          refine lv_ldc2 (v := (-1)) hx hb hown (hts _ m_515) d_Mo_address_25 ?_
          obtain rfl := Option.some.inj h
          exact W.lret (v := (-1)) hx hb hr (fun t ht hW => ⟨⟨(-1), (), rfl, rfl, by rw [ht]; exact hP, hD⟩, hS.F ht⟩) hS.2.2 d_Mo_address_28 hlk
set_option maxHeartbeats 4000000 in
set_option maxRecDepth 100000 in
theorem c_Mo_part {l : Launch} {dC : Nat → ClassId} {dI : Nat → Nat → Nat} {cB cI : ClassId} {aK aV : Nat → Nat} (N : Nat) (h_this h_this_put h_this_text h_this_value h_this_part : Nat) (v_thrownCode : Int32) (v_puts : Int32) (v_bytes : Int32) (v_nameFrom : Int32) (v_names : Int32) (v_values : Int32) (v_behind : Int32) (v_parts : Int32) (v_put : Nat → Int32) (v_text : Nat → Int32) (v_value : Nat → Int32) (v_part : Nat → Int32) (x1 : Int32) (x2 : Int32) (x3 : Int32) (z : Int32 × Int32 × Int32 × Int32 × Int32 × Int32 × Int32 × (Nat → Int32) × (Nat → Int32)) (h : f_Mo_part N x1 x2 x3 v_thrownCode v_bytes v_nameFrom v_names v_values v_behind v_parts v_text v_value v_part = some z) : Ci l y_Mo_part prog_7_method_22_code 5 (some .int) ({ frames := 4, cells := 0, slots := 0, locals := 89 }) (dC, dI) cB cI aK aV [.ref h_this, .int x1, .int x2, .int x3] [(h_this, .inr (5, [.int v_thrownCode, .ref h_this_put, .int v_puts, .ref h_this_text, .int v_bytes, .int v_nameFrom, .int v_names, .ref h_this_value, .int v_values, .int v_behind, .ref h_this_part, .int v_parts])), (h_this_put, .inl (cI, 300, .inl v_put)), (h_this_text, .inl (cI, 300, .inl v_text)), (h_this_value, .inl (cI, 300, .inl v_value)), (h_this_part, .inl (cI, 300, .inl v_part))] (fun A => (Qi (dC, dI) [(h_this, .inr (5, [.int z.2.1, .ref h_this_put, .int v_puts, .ref h_this_text, .int v_bytes, .int z.2.2.1, .int z.2.2.2.1, .ref h_this_value, .int z.2.2.2.2.1, .int z.2.2.2.2.2.1, .ref h_this_part, .int z.2.2.2.2.2.2.1])), (h_this_put, .inl (cI, 300, .inl v_put)), (h_this_text, .inl (cI, 300, .inl v_text)), (h_this_value, .inl (cI, 300, .inl z.2.2.2.2.2.2.2.1)), (h_this_part, .inl (cI, 300, .inl z.2.2.2.2.2.2.2.2))] A z.1)) := by
  refine Ci_of (by decide) (Nat.le_of_ble_eq_true rfl) (fun p e s m below meth c A C hK hnm hA hP hD ls hl => ?_)
  obtain ⟨hx, hb, hr, hml, hown, hts, hlk⟩ := id C
  have hS : va_S A s.heap s.heap [] := va_S.rf
  have hl : lv_has ls 5 [(0, .ref h_this), (1, .int x1), (2, .int x2), (3, .int x3)] := hl
  rw [f_Mo_part] at h
  refine lv_aload_n hx hb d_Mo_part_0 rfl (lv_at hl 0 rfl) ?_
  refine lv_iconst (v := 0) hx hb d_Mo_part_1 (by decide) ?_
  refine va_put (D := (dC, dI)) (ci := 5) (v := .int 0) (ty := .int) (C := R_Mo) (T := F_Mo) (N := 12) hx hb hts in_Mo t_Mo t_Mo_ok n_Mo hown hK.1 hP hD hS 0 rfl rfl 0 (by decide) (hts _ m_417) (fun _ h9 => h9) rfl (by decide +kernel) rfl rfl (Nat.le_of_ble_eq_true rfl) d_Mo_part_2 (fun H locs hP hD hS => ?_)
  have hP : va_P (dC, dI) classes [(h_this, .inr (5, [.int 0, .ref h_this_put, .int v_puts, .ref h_this_text, .int v_bytes, .int v_nameFrom, .int v_names, .ref h_this_value, .int v_values, .int v_behind, .ref h_this_part, .int v_parts])), (h_this_put, .inl (cI, 300, .inl v_put)), (h_this_text, .inl (cI, 300, .inl v_text)), (h_this_value, .inl (cI, 300, .inl v_value)), (h_this_part, .inl (cI, 300, .inl v_part))] H := hP
  have hD : va_D A [(h_this, .inr (5, [.int 0, .ref h_this_put, .int v_puts, .ref h_this_text, .int v_bytes, .int v_nameFrom, .int v_names, .ref h_this_value, .int v_values, .int v_behind, .ref h_this_part, .int v_parts])), (h_this_put, .inl (cI, 300, .inl v_put)), (h_this_text, .inl (cI, 300, .inl v_text)), (h_this_value, .inl (cI, 300, .inl v_value)), (h_this_part, .inl (cI, 300, .inl v_part))] := hD
  refine lv_iload_n hx hb d_Mo_part_5 rfl (lv_at hl 1 rfl) ?_
  refine lv_if_lt (tgt := 21) hx hb d_Mo_part_6 (by decide) (fun c_1 => ?_) (fun c_1 => ?_)
  · replace h := itT h c_1
    refine lv_iconst (v := (-1)) hx hb d_Mo_part_21 (by decide) ?_
    obtain rfl := Option.some.inj h
    exact W.iret (v := (-1)) hx hb hr (fun t ht hW => ⟨⟨(-1), (), rfl, rfl, by rw [ht]; exact hP, hD⟩, hS.F ht⟩) hS.2.2 d_Mo_part_22 hlk
  · replace h := itF h c_1
    refine lv_iload_n hx hb d_Mo_part_9 rfl (lv_at hl 2 rfl) ?_
    refine lv_if_lt (tgt := 21) hx hb d_Mo_part_10 (by decide) (fun c_2 => ?_) (fun c_2 => ?_)
    · replace h := itT h c_2
      refine lv_iconst (v := (-1)) hx hb d_Mo_part_21 (by decide) ?_
      obtain rfl := Option.some.inj h
      exact W.iret (v := (-1)) hx hb hr (fun t ht hW => ⟨⟨(-1), (), rfl, rfl, by rw [ht]; exact hP, hD⟩, hS.F ht⟩) hS.2.2 d_Mo_part_22 hlk
    · replace h := itF h c_2
      refine lv_aload_n hx hb d_Mo_part_13 rfl (lv_at hl 0 rfl) ?_
      refine lv_iload_n hx hb d_Mo_part_14 rfl (lv_at hl 1 rfl) ?_
      obtain ⟨z3, hc_3, h⟩ := bs h
      refine go_i (wr := []) (w1 := [(h_this, .inr (5, [.int 0, .ref h_this_put, .int v_puts, .ref h_this_text, .int v_bytes, .int z3.2.1, .int z3.2.2.1, .ref h_this_value, .int z3.2.2.2.1, .int z3.2.2.2.2.1, .ref h_this_part, .int v_parts])), (h_this_put, .inl (cI, 300, .inl v_put)), (h_this_text, .inl (cI, 300, .inl v_text)), (h_this_value, .inl (cI, 300, .inl z3.2.2.2.2.2)), (h_this_part, .inl (cI, 300, .inl v_part))]) (ws2 := [(h_this, .inr (5, [.int 0, .ref h_this_put, .int v_puts, .ref h_this_text, .int v_bytes, .int z3.2.1, .int z3.2.2.1, .ref h_this_value, .int z3.2.2.2.1, .int z3.2.2.2.2.1, .ref h_this_part, .int v_parts])), (h_this_put, .inl (cI, 300, .inl v_put)), (h_this_text, .inl (cI, 300, .inl v_text)), (h_this_value, .inl (cI, 300, .inl z3.2.2.2.2.2)), (h_this_part, .inl (cI, 300, .inl v_part))]) hP hD hS hA [0, 1, 2, 3, 4] [] [0, 1, 2, 3, 4] rfl (by decide) rfl (by decide) (by decide) rfl (by decide) (fun hPc hDc hFc => rn_V (As := [.int x1]) (rest := []) C hK (c_Mo_look N h_this h_this_put h_this_text h_this_value h_this_part 0 v_puts v_bytes v_nameFrom v_names v_values v_behind v_parts v_put v_text v_value v_part x1 z3 hc_3 _) ⟨rfl, rfl⟩ m_466 ok_Mo_look ⟨by decide, by decide⟩ rfl rfl rfl hl.1 rfl (Nat.le_of_ble_eq_true rfl) d_Mo_part_15 ⟨by decide, by decide⟩ hS hPc hDc hFc) (fun H locs hP hD hS => ?_)
      refine lv_if_ne (tgt := 23) hx hb d_Mo_part_18 (by decide) (fun c_4 => ?_) (fun c_4 => ?_)
      · replace h := itF h c_4
        refine lv_aload_n hx hb d_Mo_part_23 rfl (lv_at hl 0 rfl) ?_
        refine lv_iload_n hx hb d_Mo_part_24 rfl (lv_at hl 2 rfl) ?_
        obtain ⟨z5, hc_5, h⟩ := bs h
        refine go_i (wr := []) (w1 := [(h_this, .inr (5, [.int 0, .ref h_this_put, .int v_puts, .ref h_this_text, .int v_bytes, .int z3.2.1, .int z3.2.2.1, .ref h_this_value, .int z3.2.2.2.1, .int z3.2.2.2.2.1, .ref h_this_part, .int z5.2.1])), (h_this_put, .inl (cI, 300, .inl v_put)), (h_this_text, .inl (cI, 300, .inl v_text)), (h_this_value, .inl (cI, 300, .inl z3.2.2.2.2.2)), (h_this_part, .inl (cI, 300, .inl z5.2.2))]) (ws2 := [(h_this, .inr (5, [.int 0, .ref h_this_put, .int v_puts, .ref h_this_text, .int v_bytes, .int z3.2.1, .int z3.2.2.1, .ref h_this_value, .int z3.2.2.2.1, .int z3.2.2.2.2.1, .ref h_this_part, .int z5.2.1])), (h_this_put, .inl (cI, 300, .inl v_put)), (h_this_text, .inl (cI, 300, .inl v_text)), (h_this_value, .inl (cI, 300, .inl z3.2.2.2.2.2)), (h_this_part, .inl (cI, 300, .inl z5.2.2))]) hP hD hS hA [0, 1, 2, 3, 4] [] [0, 1, 2, 3, 4] rfl (by decide) rfl (by decide) (by decide) rfl (by decide) (fun hPc hDc hFc => rn_V (As := [.int x2]) (rest := []) C hK (c_Mo_addressAt N h_this h_this_put h_this_text h_this_value h_this_part 0 v_puts v_bytes z3.2.1 z3.2.2.1 z3.2.2.2.1 z3.2.2.2.2.1 v_parts v_put v_text z3.2.2.2.2.2 v_part x2 z5 hc_5 _) ⟨rfl, rfl⟩ m_523 ok_Mo_addressAt ⟨by decide, by decide⟩ rfl rfl rfl hl.1 rfl (Nat.le_of_ble_eq_true rfl) d_Mo_part_25 ⟨by decide, by decide⟩ hS hPc hDc hFc) (fun H locs hP hD hS => ?_)
        refine lv_istore (lv' := [(4, .int z5.1), (0, .ref h_this), (1, .int x1), (2, .int x2), (3, .int x3)]) hx hb d_Mo_part_28 hl (by decide) rfl (fun ls hl => ?_)
        refine lv_iload hx hb d_Mo_part_30 (lv_at hl 0 rfl) ?_
        refine lv_if_ge (tgt := 39) hx hb d_Mo_part_32 (by decide) (fun c_6 => ?_) (fun c_6 => ?_)
        · replace h := itT h c_6
          refine lv_iload_n hx hb d_Mo_part_39 rfl (lv_at hl 4 rfl) ?_
          refine lv_if_ne (tgt := 50) hx hb d_Mo_part_40 (by decide) (fun c_7 => ?_) (fun c_7 => ?_)
          · replace h := itF h c_7
            refine lv_iload_n hx hb d_Mo_part_50 rfl (lv_at hl 4 rfl) ?_
            refine lv_iconst (v := 1) hx hb d_Mo_part_51 (by decide) ?_
            refine lv_icmp_ne (tgt := 60) hx hb d_Mo_part_52 (by decide) (fun c_8 => ?_) (fun c_8 => ?_)
            · replace h := itF h c_8
              refine lv_iconst (v := (-1)) hx hb d_Mo_part_60 (by decide) ?_
              obtain rfl := Option.some.inj h
              exact W.iret (v := (-1)) hx hb hr (fun t ht hW => ⟨⟨(-1), (), rfl, rfl, by rw [ht]; exact hP, hD⟩, hS.F ht⟩) hS.2.2 d_Mo_part_61 hlk
            · replace h := itT h c_8
              refine lv_iload hx hb d_Mo_part_55 (lv_at hl 0 rfl) ?_
              refine lv_goto (tgt := 61) hx hb d_Mo_part_57 (by decide) ?_
              obtain rfl := Option.some.inj h
              exact W.iret (v := z5.1) hx hb hr (fun t ht hW => ⟨⟨z5.1, (), rfl, rfl, by rw [ht]; exact hP, hD⟩, hS.F ht⟩) hS.2.2 d_Mo_part_61 hlk
          · replace h := itT h c_7
            refine lv_aload_n hx hb d_Mo_part_43 rfl (lv_at hl 1 rfl) ?_
            refine va_get (D := (dC, dI)) (ci := 5) (v := .int z5.2.1) (C := R_Mo) (T := F_Mo) (N := 12) hx hb hts in_Mo hown hK.1 hP 0 rfl rfl 11 (by decide) (hts _ m_428) (fun _ h9 => h9) rfl d_Mo_part_44 ?_
            refine lv_goto (tgt := 61) hx hb d_Mo_part_47 (by decide) ?_
            obtain rfl := Option.some.inj h
            exact W.iret (v := z5.2.1) hx hb hr (fun t ht hW => ⟨⟨z5.2.1, (), rfl, rfl, by rw [ht]; exact hP, hD⟩, hS.F ht⟩) hS.2.2 d_Mo_part_61 hlk
        · replace h := itF h c_6
          refine lv_iconst (v := (-1)) hx hb d_Mo_part_35 (by decide) ?_
          refine lv_goto (tgt := 61) hx hb d_Mo_part_36 (by decide) ?_
          obtain rfl := Option.some.inj h
          exact W.iret (v := (-1)) hx hb hr (fun t ht hW => ⟨⟨(-1), (), rfl, rfl, by rw [ht]; exact hP, hD⟩, hS.F ht⟩) hS.2.2 d_Mo_part_61 hlk
      · replace h := itT h c_4
        refine lv_iconst (v := (-1)) hx hb d_Mo_part_21 (by decide) ?_
        obtain rfl := Option.some.inj h
        exact W.iret (v := (-1)) hx hb hr (fun t ht hW => ⟨⟨(-1), (), rfl, rfl, by rw [ht]; exact hP, hD⟩, hS.F ht⟩) hS.2.2 d_Mo_part_22 hlk
set_option maxHeartbeats 4000000 in
set_option maxRecDepth 100000 in
theorem c_Mo_low {l : Launch} {dC : Nat → ClassId} {dI : Nat → Nat → Nat} {cB cI : ClassId} {aK aV : Nat → Nat} (N : Nat) (x0 : Int32) (z : Int32) (h : f_Mo_low N x0 = some z) : Ci l y_Mo_low prog_7_method_23_code 1 (some .int) ({ frames := 0, cells := 0, slots := 0, locals := 0 }) (dC, dI) cB cI aK aV [.int x0] [] (fun A => (Qi (dC, dI) [] A z)) := by
  refine Ci_of (by decide) (Nat.le_of_ble_eq_true rfl) (fun p e s m below meth c A C hK hnm hA hP hD ls hl => ?_)
  obtain ⟨hx, hb, hr, hml, hown, hts, hlk⟩ := id C
  have hS : va_S A s.heap s.heap [] := va_S.rf
  have hl : lv_has ls 1 [(0, .int x0)] := hl
  rw [f_Mo_low] at h
  refine lv_iload_n hx hb d_Mo_low_0 rfl (lv_at hl 0 rfl) ?_
  refine lv_bipush (v := 65) hx hb d_Mo_low_1 (by decide) ?_
  refine lv_icmp_lt (tgt := 19) hx hb d_Mo_low_3 (by decide) (fun c_1 => ?_) (fun c_1 => ?_)
  · replace h := itT h c_1
    refine lv_iload_n hx hb d_Mo_low_19 rfl (lv_at hl 0 rfl) ?_
    obtain rfl := Option.some.inj h
    exact W.iret (v := x0) hx hb hr (fun t ht hW => ⟨⟨x0, (), rfl, rfl, by rw [ht]; exact hP, hD⟩, hS.F ht⟩) hS.2.2 d_Mo_low_20 hlk
  · replace h := itF h c_1
    refine lv_iload_n hx hb d_Mo_low_6 rfl (lv_at hl 0 rfl) ?_
    refine lv_bipush (v := 90) hx hb d_Mo_low_7 (by decide) ?_
    refine lv_icmp_gt (tgt := 19) hx hb d_Mo_low_9 (by decide) (fun c_2 => ?_) (fun c_2 => ?_)
    · replace h := itT h c_2
      refine lv_iload_n hx hb d_Mo_low_19 rfl (lv_at hl 0 rfl) ?_
      obtain rfl := Option.some.inj h
      exact W.iret (v := x0) hx hb hr (fun t ht hW => ⟨⟨x0, (), rfl, rfl, by rw [ht]; exact hP, hD⟩, hS.F ht⟩) hS.2.2 d_Mo_low_20 hlk
    · replace h := itF h c_2
      refine lv_iload_n hx hb d_Mo_low_12 rfl (lv_at hl 0 rfl) ?_
      refine lv_bipush (v := 32) hx hb d_Mo_low_13 (by decide) ?_
      refine lv_iadd hx hb d_Mo_low_15 ?_
      refine lv_goto (tgt := 20) hx hb d_Mo_low_16 (by decide) ?_
      obtain rfl := Option.some.inj h
      exact W.iret (v := x0 + 32) hx hb hr (fun t ht hW => ⟨⟨x0 + 32, (), rfl, rfl, by rw [ht]; exact hP, hD⟩, hS.F ht⟩) hS.2.2 d_Mo_low_20 hlk
set_option maxHeartbeats 4000000 in
set_option maxRecDepth 100000 in
theorem k_Mo_find_69 {p : Program} {l : Launch} {e : Env} {s : State} {m : MethodId} {args : Array Value} {below : List Frame} {meth : Method} {c : Code} {dC : Nat → ClassId} {dI : Nat → Nat → Nat} {cB cI : ClassId} {aK aV : Nat → Nat} {A : Nat → Prop} (C : cx p s m args meth c R_Mo prog_7_method_24_code 8 (some .int)) (hK : kx (dC, dI) cB cI aK aV A s) (hA : ∀ q : Nat, s.heap.size ≤ q → A q) (N : Nat) (h_this h_this_put h_this_text h_this_value h_this_part : Nat) (v_puts : Int32) (v_parts : Int32) (v_put : Nat → Int32) (v_part : Nat → Int32) (v_bytes : Int32) (v_text : Nat → Int32) (z : Int32 × Int32 × Int32 × Int32 × Int32 × Int32 × (Nat → Int32)) (r41 : Int32 → Int32 → Int32 → Int32 → Int32 → Int32 → Int32 → Int32 → (Nat → Int32) → Option (Int32 × Int32 × Int32 × Int32 × Int32 × Int32 × (Nat → Int32))) (hr41 : ∀ (x3 : Int32) (x4 : Int32) (x5 : Int32) (v_thrownCode : Int32) (v_nameFrom : Int32) (v_names : Int32) (v_values : Int32) (v_behind : Int32) (v_value : Nat → Int32), r41 x3 x4 x5 v_thrownCode v_nameFrom v_names v_values v_behind v_value = some z → ∀ (H : Heap) (locs : List Loc), va_P (dC, dI) classes [(h_this, .inr (5, [.int v_thrownCode, .ref h_this_put, .int v_puts, .ref h_this_text, .int v_bytes, .int v_nameFrom, .int v_names, .ref h_this_value, .int v_values, .int v_behind, .ref h_this_part, .int v_parts])), (h_this_put, .inl (cI, 300, .inl v_put)), (h_this_text, .inl (cI, 300, .inl v_text)), (h_this_value, .inl (cI, 300, .inl v_value)), (h_this_part, .inl (cI, 300, .inl v_part))] H → va_D A [(h_this, .inr (5, [.int v_thrownCode, .ref h_this_put, .int v_puts, .ref h_this_text, .int v_bytes, .int v_nameFrom, .int v_names, .ref h_this_value, .int v_values, .int v_behind, .ref h_this_part, .int v_parts])), (h_this_put, .inl (cI, 300, .inl v_put)), (h_this_text, .inl (cI, 300, .inl v_text)), (h_this_value, .inl (cI, 300, .inl v_value)), (h_this_part, .inl (cI, 300, .inl v_part))] → va_S A s.heap H locs → ∀ ls : Array Slot, lv_has ls 8 [(0, .ref h_this), (3, .int x3), (4, .int x4), (5, .int x5)] → W p l e ({ frames := 3, cells := 0, slots := 0, locals := 69 }) s m args below meth c H locs 0 0 (MQ below (Qi (dC, dI) [(h_this, .inr (5, [.int z.2.1, .ref h_this_put, .int v_puts, .ref h_this_text, .int v_bytes, .int z.2.2.1, .int z.2.2.2.1, .ref h_this_value, .int z.2.2.2.2.1, .int z.2.2.2.2.2.1, .ref h_this_part, .int v_parts])), (h_this_put, .inl (cI, 300, .inl v_put)), (h_this_text, .inl (cI, 300, .inl v_text)), (h_this_value, .inl (cI, 300, .inl z.2.2.2.2.2.2)), (h_this_part, .inl (cI, 300, .inl v_part))] A z.1) args s 0 0 A) (F0 m 41 ls [])) :
    ∀ (n : Nat), ∀ (x3 : Int32) (x4 : Int32) (x5 : Int32) (x6 : Int32) (x7 : Int32) (v_thrownCode : Int32) (v_nameFrom : Int32) (v_names : Int32) (v_values : Int32) (v_behind : Int32) (v_value : Nat → Int32), f_Mo_find_69 N r41 v_bytes v_text n x3 x4 x5 x6 x7 v_thrownCode v_nameFrom v_names v_values v_behind v_value = some z → ∀ (H : Heap) (locs : List Loc), va_P (dC, dI) classes [(h_this, .inr (5, [.int v_thrownCode, .ref h_this_put, .int v_puts, .ref h_this_text, .int v_bytes, .int v_nameFrom, .int v_names, .ref h_this_value, .int v_values, .int v_behind, .ref h_this_part, .int v_parts])), (h_this_put, .inl (cI, 300, .inl v_put)), (h_this_text, .inl (cI, 300, .inl v_text)), (h_this_value, .inl (cI, 300, .inl v_value)), (h_this_part, .inl (cI, 300, .inl v_part))] H → va_D A [(h_this, .inr (5, [.int v_thrownCode, .ref h_this_put, .int v_puts, .ref h_this_text, .int v_bytes, .int v_nameFrom, .int v_names, .ref h_this_value, .int v_values, .int v_behind, .ref h_this_part, .int v_parts])), (h_this_put, .inl (cI, 300, .inl v_put)), (h_this_text, .inl (cI, 300, .inl v_text)), (h_this_value, .inl (cI, 300, .inl v_value)), (h_this_part, .inl (cI, 300, .inl v_part))] → va_S A s.heap H locs → ∀ ls : Array Slot, lv_has ls 8 [(0, .ref h_this), (3, .int x3), (4, .int x4), (5, .int x5), (6, .int x6), (7, .int x7)] → W p l e ({ frames := 3, cells := 0, slots := 0, locals := 69 }) s m args below meth c H locs 0 0 (MQ below (Qi (dC, dI) [(h_this, .inr (5, [.int z.2.1, .ref h_this_put, .int v_puts, .ref h_this_text, .int v_bytes, .int z.2.2.1, .int z.2.2.2.1, .ref h_this_value, .int z.2.2.2.2.1, .int z.2.2.2.2.2.1, .ref h_this_part, .int v_parts])), (h_this_put, .inl (cI, 300, .inl v_put)), (h_this_text, .inl (cI, 300, .inl v_text)), (h_this_value, .inl (cI, 300, .inl z.2.2.2.2.2.2)), (h_this_part, .inl (cI, 300, .inl v_part))] A z.1) args s 0 0 A) (F0 m 69 ls []) := by
  obtain ⟨hx, hb, hr, hml, hown, hts, hlk⟩ := id C
  intro n
  induction n with
  | zero =>
    intro x3 x4 x5 x6 x7 v_thrownCode v_nameFrom v_names v_values v_behind v_value h
    rw [f_Mo_find_69] at h
    cases h
  | succ n ih =>
    intro x3 x4 x5 x6 x7 v_thrownCode v_nameFrom v_names v_values v_behind v_value h H locs hP hD hS ls hl
    rw [f_Mo_find_69] at h
    refine lv_iload hx hb d_Mo_find_69 (lv_at hl 5 rfl) ?_
    refine lv_iload hx hb d_Mo_find_71 (lv_at hl 2 rfl) ?_
    refine lv_icmp_ge (tgt := 124) hx hb d_Mo_find_73 (by decide) (fun c_4 => ?_) (fun c_4 => ?_)
    · replace h := itT h c_4
      refine lv_iload hx hb d_Mo_find_124 (lv_at hl 4 rfl) ?_
      refine lv_if_eq (tgt := 132) hx hb d_Mo_find_126 (by decide) (fun c_5 => ?_) (fun c_5 => ?_)
      · replace h := itT h c_5
        refine lv_iinc (v := x5 + 1) (lv' := [(5, .int (x5 + 1)), (0, .ref h_this), (3, .int x3), (4, .int x4), (6, .int x6), (7, .int x7)]) hx hb d_Mo_find_132 hl (k := 3) rfl rfl (by decide) rfl (fun ls hl => ?_)
        refine lv_goto (tgt := 41) hx hb d_Mo_find_135 (by decide) ?_
        exact hr41 x3 x4 (x5 + 1) v_thrownCode v_nameFrom v_names v_values v_behind v_value h _ _ hP hD hS _ (lv_sub hl [1, 2, 3, 0] rfl)
      · replace h := itF h c_5
        refine lv_iload hx hb d_Mo_find_129 (lv_at hl 3 rfl) ?_
        obtain rfl := Option.some.inj h
        exact W.iret (v := x5) hx hb hr (fun t ht hW => ⟨⟨x5, (), rfl, rfl, by rw [ht]; exact hP, hD⟩, hS.F ht⟩) hS.2.2 d_Mo_find_131 hlk
    · replace h := itF h c_4
      refine lv_iload hx hb d_Mo_find_76 (lv_at hl 4 rfl) ?_
      refine lv_if_eq (tgt := 124) hx hb d_Mo_find_78 (by decide) (fun c_6 => ?_) (fun c_6 => ?_)
      · replace h := itT h c_6
        refine lv_iload hx hb d_Mo_find_124 (lv_at hl 4 rfl) ?_
        refine lv_if_eq (tgt := 132) hx hb d_Mo_find_126 (by decide) (fun c_7 => ?_) (fun c_7 => ?_)
        · replace h := itT h c_7
          refine lv_iinc (v := x5 + 1) (lv' := [(5, .int (x5 + 1)), (0, .ref h_this), (3, .int x3), (4, .int x4), (6, .int x6), (7, .int x7)]) hx hb d_Mo_find_132 hl (k := 3) rfl rfl (by decide) rfl (fun ls hl => ?_)
          refine lv_goto (tgt := 41) hx hb d_Mo_find_135 (by decide) ?_
          exact hr41 x3 x4 (x5 + 1) v_thrownCode v_nameFrom v_names v_values v_behind v_value h _ _ hP hD hS _ (lv_sub hl [1, 2, 3, 0] rfl)
        · replace h := itF h c_7
          refine lv_iload hx hb d_Mo_find_129 (lv_at hl 3 rfl) ?_
          obtain rfl := Option.some.inj h
          exact W.iret (v := x5) hx hb hr (fun t ht hW => ⟨⟨x5, (), rfl, rfl, by rw [ht]; exact hP, hD⟩, hS.F ht⟩) hS.2.2 d_Mo_find_131 hlk
      · replace h := itF h c_6
        refine lv_aload_n hx hb d_Mo_find_81 rfl (lv_at hl 0 rfl) ?_
        refine va_get (D := (dC, dI)) (ci := 5) (v := .ref h_this_text) (C := R_Mo) (T := F_Mo) (N := 12) hx hb hts in_Mo hown hK.1 hP 0 rfl rfl 3 (by decide) (hts _ m_420) (fun _ h9 => h9) rfl d_Mo_find_82 ?_
        refine lv_aload_n hx hb d_Mo_find_85 rfl (lv_at hl 0 rfl) ?_
        refine va_get (D := (dC, dI)) (ci := 5) (v := .int v_nameFrom) (C := R_Mo) (T := F_Mo) (N := 12) hx hb hts in_Mo hown hK.1 hP 0 rfl rfl 5 (by decide) (hts _ m_422) (fun _ h9 => h9) rfl d_Mo_find_86 ?_
        refine lv_iload hx hb d_Mo_find_89 (lv_at hl 5 rfl) ?_
        refine lv_iadd hx hb d_Mo_find_91 ?_
        obtain ⟨g_8, h⟩ := grd h
        refine va_iald hx hb hK.1 hP 2 1 rfl rfl (inB_in g_8) d_Mo_find_92 ?_
        obtain ⟨z9, hc_9, h⟩ := bs h
        refine go_i (wr := [(h_this, .inr (5, [.int v_thrownCode, .ref h_this_put, .int v_puts, .ref h_this_text, .int v_bytes, .int v_nameFrom, .int v_names, .ref h_this_value, .int v_values, .int v_behind, .ref h_this_part, .int v_parts])), (h_this_put, .inl (cI, 300, .inl v_put)), (h_this_text, .inl (cI, 300, .inl v_text)), (h_this_value, .inl (cI, 300, .inl v_value)), (h_this_part, .inl (cI, 300, .inl v_part))]) (w1 := []) (ws2 := [(h_this, .inr (5, [.int v_thrownCode, .ref h_this_put, .int v_puts, .ref h_this_text, .int v_bytes, .int v_nameFrom, .int v_names, .ref h_this_value, .int v_values, .int v_behind, .ref h_this_part, .int v_parts])), (h_this_put, .inl (cI, 300, .inl v_put)), (h_this_text, .inl (cI, 300, .inl v_text)), (h_this_value, .inl (cI, 300, .inl v_value)), (h_this_part, .inl (cI, 300, .inl v_part))]) hP hD hS hA [] [0, 1, 2, 3, 4] [0, 1, 2, 3, 4] rfl (by decide) rfl (by decide) (by decide) rfl (by decide) (fun hPc hDc hFc => rn_S (As := [.int (v_text (v_nameFrom + x7).toNatClampNeg)]) (rest := []) C hK (c_Mo_low N (v_text (v_nameFrom + x7).toNatClampNeg) z9 hc_9 _) ⟨rfl, rfl⟩ m_535 ok_Mo_low ⟨by decide, by decide⟩ hl.1 rfl (Nat.le_of_ble_eq_true rfl) d_Mo_find_93 ⟨by decide, by decide⟩ hS hPc hDc hFc) (fun H locs hP hD hS => ?_)
        refine lv_aload_n hx hb d_Mo_find_96 rfl (lv_at hl 0 rfl) ?_
        refine va_get (D := (dC, dI)) (ci := 5) (v := .ref h_this_text) (C := R_Mo) (T := F_Mo) (N := 12) hx hb hts in_Mo hown hK.1 hP 0 rfl rfl 3 (by decide) (hts _ m_420) (fun _ h9 => h9) rfl d_Mo_find_97 ?_
        refine lv_iload_n hx hb d_Mo_find_100 rfl (lv_at hl 1 rfl) ?_
        refine lv_iload hx hb d_Mo_find_101 (lv_at hl 5 rfl) ?_
        refine lv_iadd hx hb d_Mo_find_103 ?_
        obtain ⟨g_10, h⟩ := grd h
        refine va_iald hx hb hK.1 hP 2 1 rfl rfl (inB_in g_10) d_Mo_find_104 ?_
        obtain ⟨z11, hc_11, h⟩ := bs h
        refine go_i (wr := [(h_this, .inr (5, [.int v_thrownCode, .ref h_this_put, .int v_puts, .ref h_this_text, .int v_bytes, .int v_nameFrom, .int v_names, .ref h_this_value, .int v_values, .int v_behind, .ref h_this_part, .int v_parts])), (h_this_put, .inl (cI, 300, .inl v_put)), (h_this_text, .inl (cI, 300, .inl v_text)), (h_this_value, .inl (cI, 300, .inl v_value)), (h_this_part, .inl (cI, 300, .inl v_part))]) (w1 := []) (ws2 := [(h_this, .inr (5, [.int v_thrownCode, .ref h_this_put, .int v_puts, .ref h_this_text, .int v_bytes, .int v_nameFrom, .int v_names, .ref h_this_value, .int v_values, .int v_behind, .ref h_this_part, .int v_parts])), (h_this_put, .inl (cI, 300, .inl v_put)), (h_this_text, .inl (cI, 300, .inl v_text)), (h_this_value, .inl (cI, 300, .inl v_value)), (h_this_part, .inl (cI, 300, .inl v_part))]) hP hD hS hA [] [0, 1, 2, 3, 4] [0, 1, 2, 3, 4] rfl (by decide) rfl (by decide) (by decide) rfl (by decide) (fun hPc hDc hFc => rn_S (As := [.int (v_text (x3 + x7).toNatClampNeg)]) (rest := [.int z9]) C hK (c_Mo_low N (v_text (x3 + x7).toNatClampNeg) z11 hc_11 _) ⟨rfl, rfl⟩ m_535 ok_Mo_low ⟨by decide, by decide⟩ hl.1 rfl (Nat.le_of_ble_eq_true rfl) d_Mo_find_105 ⟨by decide, by decide⟩ hS hPc hDc hFc) (fun H locs hP hD hS => ?_)
        refine lv_icmp_ne (tgt := 115) hx hb d_Mo_find_108 (by decide) (fun c_12 => ?_) (fun c_12 => ?_)
        · replace h := itF h c_12
          refine lv_iconst (v := 0) hx hb d_Mo_find_115 (by decide) ?_
          refine lv_istore (lv' := [(6, .int 0), (0, .ref h_this), (3, .int x3), (4, .int x4), (5, .int x5), (7, .int x7)]) hx hb d_Mo_find_116 hl (by decide) rfl (fun ls hl => ?_)
          refine lv_iinc (v := x7 + 1) (lv' := [(7, .int (x7 + 1)), (6, .int 0), (0, .ref h_this), (3, .int x3), (4, .int x4), (5, .int x5)]) hx hb d_Mo_find_118 hl (k := 5) rfl rfl (by decide) rfl (fun ls hl => ?_)
          refine lv_goto (tgt := 69) hx hb d_Mo_find_121 (by decide) ?_
          exact ih x3 x4 x5 0 (x7 + 1) v_thrownCode v_nameFrom v_names v_values v_behind v_value h _ _ hP hD hS _ (lv_sub hl [2, 3, 4, 5, 1, 0] rfl)
        · replace h := itT h c_12
          refine lv_iconst (v := 1) hx hb d_Mo_find_111 (by decide) ?_
          refine lv_goto (tgt := 116) hx hb d_Mo_find_112 (by decide) ?_
          refine lv_istore (lv' := [(6, .int 1), (0, .ref h_this), (3, .int x3), (4, .int x4), (5, .int x5), (7, .int x7)]) hx hb d_Mo_find_116 hl (by decide) rfl (fun ls hl => ?_)
          refine lv_iinc (v := x7 + 1) (lv' := [(7, .int (x7 + 1)), (6, .int 1), (0, .ref h_this), (3, .int x3), (4, .int x4), (5, .int x5)]) hx hb d_Mo_find_118 hl (k := 5) rfl rfl (by decide) rfl (fun ls hl => ?_)
          refine lv_goto (tgt := 69) hx hb d_Mo_find_121 (by decide) ?_
          exact ih x3 x4 x5 1 (x7 + 1) v_thrownCode v_nameFrom v_names v_values v_behind v_value h _ _ hP hD hS _ (lv_sub hl [2, 3, 4, 5, 1, 0] rfl)
set_option maxHeartbeats 4000000 in
set_option maxRecDepth 100000 in
theorem k_Mo_find_41 {p : Program} {l : Launch} {e : Env} {s : State} {m : MethodId} {args : Array Value} {below : List Frame} {meth : Method} {c : Code} {dC : Nat → ClassId} {dI : Nat → Nat → Nat} {cB cI : ClassId} {aK aV : Nat → Nat} {A : Nat → Prop} (C : cx p s m args meth c R_Mo prog_7_method_24_code 8 (some .int)) (hK : kx (dC, dI) cB cI aK aV A s) (hA : ∀ q : Nat, s.heap.size ≤ q → A q) (N : Nat) (h_this h_this_put h_this_text h_this_value h_this_part : Nat) (v_puts : Int32) (v_parts : Int32) (v_put : Nat → Int32) (v_part : Nat → Int32) (v_bytes : Int32) (v_text : Nat → Int32) (z : Int32 × Int32 × Int32 × Int32 × Int32 × Int32 × (Nat → Int32)) :
    ∀ (n : Nat), ∀ (x3 : Int32) (x4 : Int32) (x5 : Int32) (v_thrownCode : Int32) (v_nameFrom : Int32) (v_names : Int32) (v_values : Int32) (v_behind : Int32) (v_value : Nat → Int32), f_Mo_find_41 N v_bytes v_text n x3 x4 x5 v_thrownCode v_nameFrom v_names v_values v_behind v_value = some z → ∀ (H : Heap) (locs : List Loc), va_P (dC, dI) classes [(h_this, .inr (5, [.int v_thrownCode, .ref h_this_put, .int v_puts, .ref h_this_text, .int v_bytes, .int v_nameFrom, .int v_names, .ref h_this_value, .int v_values, .int v_behind, .ref h_this_part, .int v_parts])), (h_this_put, .inl (cI, 300, .inl v_put)), (h_this_text, .inl (cI, 300, .inl v_text)), (h_this_value, .inl (cI, 300, .inl v_value)), (h_this_part, .inl (cI, 300, .inl v_part))] H → va_D A [(h_this, .inr (5, [.int v_thrownCode, .ref h_this_put, .int v_puts, .ref h_this_text, .int v_bytes, .int v_nameFrom, .int v_names, .ref h_this_value, .int v_values, .int v_behind, .ref h_this_part, .int v_parts])), (h_this_put, .inl (cI, 300, .inl v_put)), (h_this_text, .inl (cI, 300, .inl v_text)), (h_this_value, .inl (cI, 300, .inl v_value)), (h_this_part, .inl (cI, 300, .inl v_part))] → va_S A s.heap H locs → ∀ ls : Array Slot, lv_has ls 8 [(0, .ref h_this), (3, .int x3), (4, .int x4), (5, .int x5)] → W p l e ({ frames := 3, cells := 0, slots := 0, locals := 69 }) s m args below meth c H locs 0 0 (MQ below (Qi (dC, dI) [(h_this, .inr (5, [.int z.2.1, .ref h_this_put, .int v_puts, .ref h_this_text, .int v_bytes, .int z.2.2.1, .int z.2.2.2.1, .ref h_this_value, .int z.2.2.2.2.1, .int z.2.2.2.2.2.1, .ref h_this_part, .int v_parts])), (h_this_put, .inl (cI, 300, .inl v_put)), (h_this_text, .inl (cI, 300, .inl v_text)), (h_this_value, .inl (cI, 300, .inl z.2.2.2.2.2.2)), (h_this_part, .inl (cI, 300, .inl v_part))] A z.1) args s 0 0 A) (F0 m 41 ls []) := by
  obtain ⟨hx, hb, hr, hml, hown, hts, hlk⟩ := id C
  intro n
  induction n with
  | zero =>
    intro x3 x4 x5 v_thrownCode v_nameFrom v_names v_values v_behind v_value h
    rw [f_Mo_find_41] at h
    cases h
  | succ n ih =>
    intro x3 x4 x5 v_thrownCode v_nameFrom v_names v_values v_behind v_value h H locs hP hD hS ls hl
    rw [f_Mo_find_41] at h
    refine lv_aload_n hx hb d_Mo_find_41 rfl (lv_at hl 0 rfl) ?_
    refine lv_iload hx hb d_Mo_find_42 (lv_at hl 3 rfl) ?_
    obtain ⟨z1, hc_1, h⟩ := bs h
    refine go_i (wr := []) (w1 := [(h_this, .inr (5, [.int v_thrownCode, .ref h_this_put, .int v_puts, .ref h_this_text, .int v_bytes, .int z1.2.1, .int z1.2.2.1, .ref h_this_value, .int z1.2.2.2.1, .int z1.2.2.2.2.1, .ref h_this_part, .int v_parts])), (h_this_put, .inl (cI, 300, .inl v_put)), (h_this_text, .inl (cI, 300, .inl v_text)), (h_this_value, .inl (cI, 300, .inl z1.2.2.2.2.2)), (h_this_part, .inl (cI, 300, .inl v_part))]) (ws2 := [(h_this, .inr (5, [.int v_thrownCode, .ref h_this_put, .int v_puts, .ref h_this_text, .int v_bytes, .int z1.2.1, .int z1.2.2.1, .ref h_this_value, .int z1.2.2.2.1, .int z1.2.2.2.2.1, .ref h_this_part, .int v_parts])), (h_this_put, .inl (cI, 300, .inl v_put)), (h_this_text, .inl (cI, 300, .inl v_text)), (h_this_value, .inl (cI, 300, .inl z1.2.2.2.2.2)), (h_this_part, .inl (cI, 300, .inl v_part))]) hP hD hS hA [0, 1, 2, 3, 4] [] [0, 1, 2, 3, 4] rfl (by decide) rfl (by decide) (by decide) rfl (by decide) (fun hPc hDc hFc => rn_V (As := [.int x5]) (rest := []) C hK (c_Mo_look N h_this h_this_put h_this_text h_this_value h_this_part v_thrownCode v_puts v_bytes v_nameFrom v_names v_values v_behind v_parts v_put v_text v_value v_part x5 z1 hc_1 _) ⟨rfl, rfl⟩ m_466 ok_Mo_look ⟨by decide, by decide⟩ rfl rfl rfl hl.1 rfl (Nat.le_of_ble_eq_true rfl) d_Mo_find_44 ⟨by decide, by decide⟩ hS hPc hDc hFc) (fun H locs hP hD hS => ?_)
    refine lv_if_eq (tgt := 138) hx hb d_Mo_find_47 (by decide) (fun c_2 => ?_) (fun c_2 => ?_)
    · replace h := itT h c_2
      refine lv_iconst (v := (-1)) hx hb d_Mo_find_138 (by decide) ?_
      obtain rfl := Option.some.inj h
      exact W.iret (v := (-1)) hx hb hr (fun t ht hW => ⟨⟨(-1), (), rfl, rfl, by rw [ht]; exact hP, hD⟩, hS.F ht⟩) hS.2.2 d_Mo_find_139 hlk
    · replace h := itF h c_2
      refine lv_aload_n hx hb d_Mo_find_50 rfl (lv_at hl 0 rfl) ?_
      refine va_get (D := (dC, dI)) (ci := 5) (v := .int z1.2.2.1) (C := R_Mo) (T := F_Mo) (N := 12) hx hb hts in_Mo hown hK.1 hP 0 rfl rfl 6 (by decide) (hts _ m_423) (fun _ h9 => h9) rfl d_Mo_find_51 ?_
      refine lv_iload hx hb d_Mo_find_54 (lv_at hl 2 rfl) ?_
      refine lv_icmp_ne (tgt := 63) hx hb d_Mo_find_56 (by decide) (fun c_3 => ?_) (fun c_3 => ?_)
      · replace h := itF h c_3
        refine lv_iconst (v := 0) hx hb d_Mo_find_63 (by decide) ?_
        refine lv_istore (lv' := [(6, .int 0), (0, .ref h_this), (3, .int x3), (4, .int x4), (5, .int x5)]) hx hb d_Mo_find_64 hl (by decide) rfl (fun ls hl => ?_)
        refine lv_iconst (v := 0) hx hb d_Mo_find_66 (by decide) ?_
        refine lv_istore (lv' := [(7, .int 0), (6, .int 0), (0, .ref h_this), (3, .int x3), (4, .int x4), (5, .int x5)]) hx hb d_Mo_find_67 hl (by decide) rfl (fun ls hl => ?_)
        exact k_Mo_find_69 C hK hA N h_this h_this_put h_this_text h_this_value h_this_part v_puts v_parts v_put v_part v_bytes v_text z (f_Mo_find_41 N v_bytes v_text n) ih N x3 x4 x5 0 0 v_thrownCode z1.2.1 z1.2.2.1 z1.2.2.2.1 z1.2.2.2.2.1 z1.2.2.2.2.2 h _ _ hP hD hS _ (lv_sub hl [2, 3, 4, 5, 1, 0] rfl)
      · replace h := itT h c_3
        refine lv_iconst (v := 1) hx hb d_Mo_find_59 (by decide) ?_
        refine lv_goto (tgt := 64) hx hb d_Mo_find_60 (by decide) ?_
        refine lv_istore (lv' := [(6, .int 1), (0, .ref h_this), (3, .int x3), (4, .int x4), (5, .int x5)]) hx hb d_Mo_find_64 hl (by decide) rfl (fun ls hl => ?_)
        refine lv_iconst (v := 0) hx hb d_Mo_find_66 (by decide) ?_
        refine lv_istore (lv' := [(7, .int 0), (6, .int 1), (0, .ref h_this), (3, .int x3), (4, .int x4), (5, .int x5)]) hx hb d_Mo_find_67 hl (by decide) rfl (fun ls hl => ?_)
        exact k_Mo_find_69 C hK hA N h_this h_this_put h_this_text h_this_value h_this_part v_puts v_parts v_put v_part v_bytes v_text z (f_Mo_find_41 N v_bytes v_text n) ih N x3 x4 x5 1 0 v_thrownCode z1.2.1 z1.2.2.1 z1.2.2.2.1 z1.2.2.2.2.1 z1.2.2.2.2.2 h _ _ hP hD hS _ (lv_sub hl [2, 3, 4, 5, 1, 0] rfl)
set_option maxHeartbeats 4000000 in
set_option maxRecDepth 100000 in
theorem c_Mo_find {l : Launch} {dC : Nat → ClassId} {dI : Nat → Nat → Nat} {cB cI : ClassId} {aK aV : Nat → Nat} (N : Nat) (h_this h_this_put h_this_text h_this_value h_this_part : Nat) (v_thrownCode : Int32) (v_puts : Int32) (v_bytes : Int32) (v_nameFrom : Int32) (v_names : Int32) (v_values : Int32) (v_behind : Int32) (v_parts : Int32) (v_put : Nat → Int32) (v_text : Nat → Int32) (v_value : Nat → Int32) (v_part : Nat → Int32) (x1 : Int32) (x2 : Int32) (z : Int32 × Int32 × Int32 × Int32 × Int32 × Int32 × (Nat → Int32)) (h : f_Mo_find N x1 x2 v_thrownCode v_bytes v_nameFrom v_names v_values v_behind v_text v_value = some z) : Ci l y_Mo_find prog_7_method_24_code 8 (some .int) ({ frames := 3, cells := 0, slots := 0, locals := 69 }) (dC, dI) cB cI aK aV [.ref h_this, .int x1, .int x2] [(h_this, .inr (5, [.int v_thrownCode, .ref h_this_put, .int v_puts, .ref h_this_text, .int v_bytes, .int v_nameFrom, .int v_names, .ref h_this_value, .int v_values, .int v_behind, .ref h_this_part, .int v_parts])), (h_this_put, .inl (cI, 300, .inl v_put)), (h_this_text, .inl (cI, 300, .inl v_text)), (h_this_value, .inl (cI, 300, .inl v_value)), (h_this_part, .inl (cI, 300, .inl v_part))] (fun A => (Qi (dC, dI) [(h_this, .inr (5, [.int z.2.1, .ref h_this_put, .int v_puts, .ref h_this_text, .int v_bytes, .int z.2.2.1, .int z.2.2.2.1, .ref h_this_value, .int z.2.2.2.2.1, .int z.2.2.2.2.2.1, .ref h_this_part, .int v_parts])), (h_this_put, .inl (cI, 300, .inl v_put)), (h_this_text, .inl (cI, 300, .inl v_text)), (h_this_value, .inl (cI, 300, .inl z.2.2.2.2.2.2)), (h_this_part, .inl (cI, 300, .inl v_part))] A z.1)) := by
  refine Ci_of (by decide) (Nat.le_of_ble_eq_true rfl) (fun p e s m below meth c A C hK hnm hA hP hD ls hl => ?_)
  obtain ⟨hx, hb, hr, hml, hown, hts, hlk⟩ := id C
  have hS : va_S A s.heap s.heap [] := va_S.rf
  have hl : lv_has ls 8 [(0, .ref h_this), (1, .int x1), (2, .int x2)] := hl
  rw [f_Mo_find] at h
  refine lv_aload_n hx hb d_Mo_find_0 rfl (lv_at hl 0 rfl) ?_
  refine lv_iconst (v := 0) hx hb d_Mo_find_1 (by decide) ?_
  refine va_put (D := (dC, dI)) (ci := 5) (v := .int 0) (ty := .int) (C := R_Mo) (T := F_Mo) (N := 12) hx hb hts in_Mo t_Mo t_Mo_ok n_Mo hown hK.1 hP hD hS 0 rfl rfl 0 (by decide) (hts _ m_417) (fun _ h9 => h9) rfl (by decide +kernel) rfl rfl (Nat.le_of_ble_eq_true rfl) d_Mo_find_2 (fun H locs hP hD hS => ?_)
  have hP : va_P (dC, dI) classes [(h_this, .inr (5, [.int 0, .ref h_this_put, .int v_puts, .ref h_this_text, .int v_bytes, .int v_nameFrom, .int v_names, .ref h_this_value, .int v_values, .int v_behind, .ref h_this_part, .int v_parts])), (h_this_put, .inl (cI, 300, .inl v_put)), (h_this_text, .inl (cI, 300, .inl v_text)), (h_this_value, .inl (cI, 300, .inl v_value)), (h_this_part, .inl (cI, 300, .inl v_part))] H := hP
  have hD : va_D A [(h_this, .inr (5, [.int 0, .ref h_this_put, .int v_puts, .ref h_this_text, .int v_bytes, .int v_nameFrom, .int v_names, .ref h_this_value, .int v_values, .int v_behind, .ref h_this_part, .int v_parts])), (h_this_put, .inl (cI, 300, .inl v_put)), (h_this_text, .inl (cI, 300, .inl v_text)), (h_this_value, .inl (cI, 300, .inl v_value)), (h_this_part, .inl (cI, 300, .inl v_part))] := hD
  refine lv_iload_n hx hb d_Mo_find_5 rfl (lv_at hl 2 rfl) ?_
  refine lv_if_lt (tgt := 17) hx hb d_Mo_find_6 (by decide) (fun c_13 => ?_) (fun c_13 => ?_)
  · replace h := itT h c_13
    refine lv_iconst (v := (-1)) hx hb d_Mo_find_17 (by decide) ?_
    obtain rfl := Option.some.inj h
    exact W.iret (v := (-1)) hx hb hr (fun t ht hW => ⟨⟨(-1), (), rfl, rfl, by rw [ht]; exact hP, hD⟩, hS.F ht⟩) hS.2.2 d_Mo_find_18 hlk
  · replace h := itF h c_13
    refine lv_aload_n hx hb d_Mo_find_9 rfl (lv_at hl 0 rfl) ?_
    refine lv_iload_n hx hb d_Mo_find_10 rfl (lv_at hl 2 rfl) ?_
    obtain ⟨z14, hc_14, h⟩ := bs h
    refine go_i (wr := []) (w1 := [(h_this, .inr (5, [.int 0, .ref h_this_put, .int v_puts, .ref h_this_text, .int v_bytes, .int z14.2.1, .int z14.2.2.1, .ref h_this_value, .int z14.2.2.2.1, .int z14.2.2.2.2.1, .ref h_this_part, .int v_parts])), (h_this_put, .inl (cI, 300, .inl v_put)), (h_this_text, .inl (cI, 300, .inl v_text)), (h_this_value, .inl (cI, 300, .inl z14.2.2.2.2.2)), (h_this_part, .inl (cI, 300, .inl v_part))]) (ws2 := [(h_this, .inr (5, [.int 0, .ref h_this_put, .int v_puts, .ref h_this_text, .int v_bytes, .int z14.2.1, .int z14.2.2.1, .ref h_this_value, .int z14.2.2.2.1, .int z14.2.2.2.2.1, .ref h_this_part, .int v_parts])), (h_this_put, .inl (cI, 300, .inl v_put)), (h_this_text, .inl (cI, 300, .inl v_text)), (h_this_value, .inl (cI, 300, .inl z14.2.2.2.2.2)), (h_this_part, .inl (cI, 300, .inl v_part))]) hP hD hS hA [0, 1, 2, 3, 4] [] [0, 1, 2, 3, 4] rfl (by decide) rfl (by decide) (by decide) rfl (by decide) (fun hPc hDc hFc => rn_V (As := [.int x2]) (rest := []) C hK (c_Mo_look N h_this h_this_put h_this_text h_this_value h_this_part 0 v_puts v_bytes v_nameFrom v_names v_values v_behind v_parts v_put v_text v_value v_part x2 z14 hc_14 _) ⟨rfl, rfl⟩ m_466 ok_Mo_look ⟨by decide, by decide⟩ rfl rfl rfl hl.1 rfl (Nat.le_of_ble_eq_true rfl) d_Mo_find_11 ⟨by decide, by decide⟩ hS hPc hDc hFc) (fun H locs hP hD hS => ?_)
    refine lv_if_ne (tgt := 19) hx hb d_Mo_find_14 (by decide) (fun c_15 => ?_) (fun c_15 => ?_)
    · replace h := itF h c_15
      refine lv_aload_n hx hb d_Mo_find_19 rfl (lv_at hl 0 rfl) ?_
      refine va_get (D := (dC, dI)) (ci := 5) (v := .int z14.2.1) (C := R_Mo) (T := F_Mo) (N := 12) hx hb hts in_Mo hown hK.1 hP 0 rfl rfl 5 (by decide) (hts _ m_422) (fun _ h9 => h9) rfl d_Mo_find_20 ?_
      refine lv_istore_n (lv' := [(3, .int z14.2.1), (0, .ref h_this), (1, .int x1), (2, .int x2)]) hx hb d_Mo_find_23 rfl hl (by decide) rfl (fun ls hl => ?_)
      refine lv_aload_n hx hb d_Mo_find_24 rfl (lv_at hl 1 rfl) ?_
      refine va_get (D := (dC, dI)) (ci := 5) (v := .int z14.2.2.1) (C := R_Mo) (T := F_Mo) (N := 12) hx hb hts in_Mo hown hK.1 hP 0 rfl rfl 6 (by decide) (hts _ m_423) (fun _ h9 => h9) rfl d_Mo_find_25 ?_
      refine lv_istore (lv' := [(4, .int z14.2.2.1), (3, .int z14.2.1), (0, .ref h_this), (1, .int x1), (2, .int x2)]) hx hb d_Mo_find_28 hl (by decide) rfl (fun ls hl => ?_)
      refine lv_iload_n hx hb d_Mo_find_30 rfl (lv_at hl 3 rfl) ?_
      refine lv_if_ge (tgt := 38) hx hb d_Mo_find_31 (by decide) (fun c_16 => ?_) (fun c_16 => ?_)
      · replace h := itT h c_16
        refine lv_iload_n hx hb d_Mo_find_38 rfl (lv_at hl 3 rfl) ?_
        refine lv_istore (lv' := [(5, .int x1), (4, .int z14.2.2.1), (3, .int z14.2.1), (0, .ref h_this), (1, .int x1), (2, .int x2)]) hx hb d_Mo_find_39 hl (by decide) rfl (fun ls hl => ?_)
        exact k_Mo_find_41 C hK hA N h_this h_this_put h_this_text h_this_value h_this_part v_puts v_parts v_put v_part v_bytes v_text z N z14.2.1 z14.2.2.1 x1 0 z14.2.1 z14.2.2.1 z14.2.2.2.1 z14.2.2.2.2.1 z14.2.2.2.2.2 h _ _ hP hD hS _ (lv_sub hl [3, 2, 1, 0] rfl)
      · replace h := itF h c_16
        refine lv_iconst (v := 0) hx hb d_Mo_find_34 (by decide) ?_
        refine lv_goto (tgt := 39) hx hb d_Mo_find_35 (by decide) ?_
        refine lv_istore (lv' := [(5, .int 0), (4, .int z14.2.2.1), (3, .int z14.2.1), (0, .ref h_this), (1, .int x1), (2, .int x2)]) hx hb d_Mo_find_39 hl (by decide) rfl (fun ls hl => ?_)
        exact k_Mo_find_41 C hK hA N h_this h_this_put h_this_text h_this_value h_this_part v_puts v_parts v_put v_part v_bytes v_text z N z14.2.1 z14.2.2.1 0 0 z14.2.1 z14.2.2.1 z14.2.2.2.1 z14.2.2.2.2.1 z14.2.2.2.2.2 h _ _ hP hD hS _ (lv_sub hl [3, 2, 1, 0] rfl)
    · replace h := itT h c_15
      refine lv_iconst (v := (-1)) hx hb d_Mo_find_17 (by decide) ?_
      obtain rfl := Option.some.inj h
      exact W.iret (v := (-1)) hx hb hr (fun t ht hW => ⟨⟨(-1), (), rfl, rfl, by rw [ht]; exact hP, hD⟩, hS.F ht⟩) hS.2.2 d_Mo_find_18 hlk
set_option maxHeartbeats 4000000 in
set_option maxRecDepth 100000 in
theorem k_Mo_count_44 {p : Program} {l : Launch} {e : Env} {s : State} {m : MethodId} {args : Array Value} {below : List Frame} {meth : Method} {c : Code} {dC : Nat → ClassId} {dI : Nat → Nat → Nat} {cB cI : ClassId} {aK aV : Nat → Nat} {A : Nat → Prop} (C : cx p s m args meth c R_Mo prog_7_method_25_code 6 (some .int)) (hK : kx (dC, dI) cB cI aK aV A s) (hA : ∀ q : Nat, s.heap.size ≤ q → A q) (N : Nat) (h_this h_this_put h_this_text h_this_value h_this_part : Nat) (v_put : Nat → Int32) (x1 : Int32) (v_puts : Int32) (v_bytes : Int32) (v_text : Nat → Int32) (z : Int32 × Int32 × Int32 × Int32 × Int32 × Int32 × Int32 × (Nat → Int32) × (Nat → Int32)) :
    ∀ (n : Nat), ∀ (x2 : Int32) (x4 : Int32) (x5 : Int32) (v_thrownCode : Int32) (v_nameFrom : Int32) (v_names : Int32) (v_values : Int32) (v_behind : Int32) (v_parts : Int32) (v_value : Nat → Int32) (v_part : Nat → Int32), f_Mo_count_44 N x1 v_puts v_bytes v_text n x2 x4 x5 v_thrownCode v_nameFrom v_names v_values v_behind v_parts v_value v_part = some z → ∀ (H : Heap) (locs : List Loc), va_P (dC, dI) classes [(h_this, .inr (5, [.int v_thrownCode, .ref h_this_put, .int v_puts, .ref h_this_text, .int v_bytes, .int v_nameFrom, .int v_names, .ref h_this_value, .int v_values, .int v_behind, .ref h_this_part, .int v_parts])), (h_this_put, .inl (cI, 300, .inl v_put)), (h_this_text, .inl (cI, 300, .inl v_text)), (h_this_value, .inl (cI, 300, .inl v_value)), (h_this_part, .inl (cI, 300, .inl v_part))] H → va_D A [(h_this, .inr (5, [.int v_thrownCode, .ref h_this_put, .int v_puts, .ref h_this_text, .int v_bytes, .int v_nameFrom, .int v_names, .ref h_this_value, .int v_values, .int v_behind, .ref h_this_part, .int v_parts])), (h_this_put, .inl (cI, 300, .inl v_put)), (h_this_text, .inl (cI, 300, .inl v_text)), (h_this_value, .inl (cI, 300, .inl v_value)), (h_this_part, .inl (cI, 300, .inl v_part))] → va_S A s.heap H locs → ∀ ls : Array Slot, lv_has ls 6 [(0, .ref h_this), (1, .int x1), (2, .int x2), (4, .int x4), (5, .int x5)] → W p l e ({ frames := 5, cells := 0, slots := 0, locals := 109 }) s m args below meth c H locs 0 0 (MQ below (Qi (dC, dI) [(h_this, .inr (5, [.int z.2.1, .ref h_this_put, .int v_puts, .ref h_this_text, .int v_bytes, .int z.2.2.1, .int z.2.2.2.1, .ref h_this_value, .int z.2.2.2.2.1, .int z.2.2.2.2.2.1, .ref h_this_part, .int z.2.2.2.2.2.2.1])), (h_this_put, .inl (cI, 300, .inl v_put)), (h_this_text, .inl (cI, 300, .inl v_text)), (h_this_value, .inl (cI, 300, .inl z.2.2.2.2.2.2.2.1)), (h_this_part, .inl (cI, 300, .inl z.2.2.2.2.2.2.2.2))] A z.1) args s 0 0 A) (F0 m 44 ls []) := by
  obtain ⟨hx, hb, hr, hml, hown, hts, hlk⟩ := id C
  intro n
  induction n with
  | zero =>
    intro x2 x4 x5 v_thrownCode v_nameFrom v_names v_values v_behind v_parts v_value v_part h
    rw [f_Mo_count_44] at h
    cases h
  | succ n ih =>
    intro x2 x4 x5 v_thrownCode v_nameFrom v_names v_values v_behind v_parts v_value v_part h H locs hP hD hS ls hl
    rw [f_Mo_count_44] at h
    refine lv_iload hx hb d_Mo_count_44 (lv_at hl 4 rfl) ?_
    refine lv_iload_n hx hb d_Mo_count_46 rfl (lv_at hl 2 rfl) ?_
    refine lv_icmp_ge (tgt := 68) hx hb d_Mo_count_47 (by decide) (fun c_1 => ?_) (fun c_1 => ?_)
    · replace h := itT h c_1
      refine lv_iload_n hx hb d_Mo_count_68 rfl (lv_at hl 1 rfl) ?_
      refine lv_iconst (v := 3) hx hb d_Mo_count_69 (by decide) ?_
      refine lv_icmp_ne (tgt := 78) hx hb d_Mo_count_70 (by decide) (fun c_2 => ?_) (fun c_2 => ?_)
      · replace h := itF h c_2
        refine lv_iconst (v := (-1)) hx hb d_Mo_count_78 (by decide) ?_
        obtain rfl := Option.some.inj h
        exact W.iret (v := (-1)) hx hb hr (fun t ht hW => ⟨⟨(-1), (), rfl, rfl, by rw [ht]; exact hP, hD⟩, hS.F ht⟩) hS.2.2 d_Mo_count_79 hlk
      · replace h := itT h c_2
        refine lv_iload hx hb d_Mo_count_73 (lv_at hl 3 rfl) ?_
        refine lv_goto (tgt := 79) hx hb d_Mo_count_75 (by decide) ?_
        obtain rfl := Option.some.inj h
        exact W.iret (v := x4) hx hb hr (fun t ht hW => ⟨⟨x4, (), rfl, rfl, by rw [ht]; exact hP, hD⟩, hS.F ht⟩) hS.2.2 d_Mo_count_79 hlk
    · replace h := itF h c_1
      refine lv_iload hx hb d_Mo_count_50 (lv_at hl 3 rfl) ?_
      refine lv_aload_n hx hb d_Mo_count_52 rfl (lv_at hl 0 rfl) ?_
      refine lv_iload hx hb d_Mo_count_53 (lv_at hl 4 rfl) ?_
      refine lv_iconst (v := 2) hx hb d_Mo_count_55 (by decide) ?_
      obtain ⟨z3, hc_3, h⟩ := bs h
      refine go_i (wr := []) (w1 := [(h_this, .inr (5, [.int z3.2.1, .ref h_this_put, .int v_puts, .ref h_this_text, .int v_bytes, .int z3.2.2.1, .int z3.2.2.2.1, .ref h_this_value, .int z3.2.2.2.2.1, .int z3.2.2.2.2.2.1, .ref h_this_part, .int z3.2.2.2.2.2.2.1])), (h_this_put, .inl (cI, 300, .inl v_put)), (h_this_text, .inl (cI, 300, .inl v_text)), (h_this_value, .inl (cI, 300, .inl z3.2.2.2.2.2.2.2.1)), (h_this_part, .inl (cI, 300, .inl z3.2.2.2.2.2.2.2.2))]) (ws2 := [(h_this, .inr (5, [.int z3.2.1, .ref h_this_put, .int v_puts, .ref h_this_text, .int v_bytes, .int z3.2.2.1, .int z3.2.2.2.1, .ref h_this_value, .int z3.2.2.2.2.1, .int z3.2.2.2.2.2.1, .ref h_this_part, .int z3.2.2.2.2.2.2.1])), (h_this_put, .inl (cI, 300, .inl v_put)), (h_this_text, .inl (cI, 300, .inl v_text)), (h_this_value, .inl (cI, 300, .inl z3.2.2.2.2.2.2.2.1)), (h_this_part, .inl (cI, 300, .inl z3.2.2.2.2.2.2.2.2))]) hP hD hS hA [0, 1, 2, 3, 4] [] [0, 1, 2, 3, 4] rfl (by decide) rfl (by decide) (by decide) rfl (by decide) (fun hPc hDc hFc => rn_V (As := [.int x5, .int 2]) (rest := [.int x4]) C hK (c_Mo_field N h_this h_this_put h_this_text h_this_value h_this_part v_thrownCode v_puts v_bytes v_nameFrom v_names v_values v_behind v_parts v_put v_text v_value v_part x5 2 z3 hc_3 _) ⟨rfl, rfl⟩ m_542 ok_Mo_field ⟨by decide, by decide⟩ rfl rfl rfl hl.1 rfl (Nat.le_of_ble_eq_true rfl) d_Mo_count_56 ⟨by decide, by decide⟩ hS hPc hDc hFc) (fun H locs hP hD hS => ?_)
      refine lv_iadd hx hb d_Mo_count_59 ?_
      refine lv_istore (lv' := [(4, .int (x4 + z3.1)), (0, .ref h_this), (1, .int x1), (2, .int x2), (5, .int x5)]) hx hb d_Mo_count_60 hl (by decide) rfl (fun ls hl => ?_)
      refine lv_iinc (v := x5 + 1) (lv' := [(5, .int (x5 + 1)), (4, .int (x4 + z3.1)), (0, .ref h_this), (1, .int x1), (2, .int x2)]) hx hb d_Mo_count_62 hl (k := 4) rfl rfl (by decide) rfl (fun ls hl => ?_)
      refine lv_goto (tgt := 44) hx hb d_Mo_count_65 (by decide) ?_
      exact ih x2 (x4 + z3.1) (x5 + 1) z3.2.1 z3.2.2.1 z3.2.2.2.1 z3.2.2.2.2.1 z3.2.2.2.2.2.1 z3.2.2.2.2.2.2.1 z3.2.2.2.2.2.2.2.1 z3.2.2.2.2.2.2.2.2 h _ _ hP hD hS _ (lv_sub hl [2, 3, 4, 1, 0] rfl)
set_option maxHeartbeats 4000000 in
set_option maxRecDepth 100000 in
theorem c_Mo_count {l : Launch} {dC : Nat → ClassId} {dI : Nat → Nat → Nat} {cB cI : ClassId} {aK aV : Nat → Nat} (N : Nat) (h_this h_this_put h_this_text h_this_value h_this_part : Nat) (v_thrownCode : Int32) (v_puts : Int32) (v_bytes : Int32) (v_nameFrom : Int32) (v_names : Int32) (v_values : Int32) (v_behind : Int32) (v_parts : Int32) (v_put : Nat → Int32) (v_text : Nat → Int32) (v_value : Nat → Int32) (v_part : Nat → Int32) (x1 : Int32) (z : Int32 × Int32 × Int32 × Int32 × Int32 × Int32 × Int32 × (Nat → Int32) × (Nat → Int32)) (h : f_Mo_count N x1 v_thrownCode v_puts v_bytes v_nameFrom v_names v_values v_behind v_parts v_text v_value v_part = some z) : Ci l y_Mo_count prog_7_method_25_code 6 (some .int) ({ frames := 5, cells := 0, slots := 0, locals := 109 }) (dC, dI) cB cI aK aV [.ref h_this, .int x1] [(h_this, .inr (5, [.int v_thrownCode, .ref h_this_put, .int v_puts, .ref h_this_text, .int v_bytes, .int v_nameFrom, .int v_names, .ref h_this_value, .int v_values, .int v_behind, .ref h_this_part, .int v_parts])), (h_this_put, .inl (cI, 300, .inl v_put)), (h_this_text, .inl (cI, 300, .inl v_text)), (h_this_value, .inl (cI, 300, .inl v_value)), (h_this_part, .inl (cI, 300, .inl v_part))] (fun A => (Qi (dC, dI) [(h_this, .inr (5, [.int z.2.1, .ref h_this_put, .int v_puts, .ref h_this_text, .int v_bytes, .int z.2.2.1, .int z.2.2.2.1, .ref h_this_value, .int z.2.2.2.2.1, .int z.2.2.2.2.2.1, .ref h_this_part, .int z.2.2.2.2.2.2.1])), (h_this_put, .inl (cI, 300, .inl v_put)), (h_this_text, .inl (cI, 300, .inl v_text)), (h_this_value, .inl (cI, 300, .inl z.2.2.2.2.2.2.2.1)), (h_this_part, .inl (cI, 300, .inl z.2.2.2.2.2.2.2.2))] A z.1)) := by
  refine Ci_of (by decide) (Nat.le_of_ble_eq_true rfl) (fun p e s m below meth c A C hK hnm hA hP hD ls hl => ?_)
  obtain ⟨hx, hb, hr, hml, hown, hts, hlk⟩ := id C
  have hS : va_S A s.heap s.heap [] := va_S.rf
  have hl : lv_has ls 6 [(0, .ref h_this), (1, .int x1)] := hl
  rw [f_Mo_count] at h
  refine lv_aload_n hx hb d_Mo_count_0 rfl (lv_at hl 0 rfl) ?_
  refine lv_iconst (v := 0) hx hb d_Mo_count_1 (by decide) ?_
  refine va_put (D := (dC, dI)) (ci := 5) (v := .int 0) (ty := .int) (C := R_Mo) (T := F_Mo) (N := 12) hx hb hts in_Mo t_Mo t_Mo_ok n_Mo hown hK.1 hP hD hS 0 rfl rfl 0 (by decide) (hts _ m_417) (fun _ h9 => h9) rfl (by decide +kernel) rfl rfl (Nat.le_of_ble_eq_true rfl) d_Mo_count_2 (fun H locs hP hD hS => ?_)
  have hP : va_P (dC, dI) classes [(h_this, .inr (5, [.int 0, .ref h_this_put, .int v_puts, .ref h_this_text, .int v_bytes, .int v_nameFrom, .int v_names, .ref h_this_value, .int v_values, .int v_behind, .ref h_this_part, .int v_parts])), (h_this_put, .inl (cI, 300, .inl v_put)), (h_this_text, .inl (cI, 300, .inl v_text)), (h_this_value, .inl (cI, 300, .inl v_value)), (h_this_part, .inl (cI, 300, .inl v_part))] H := hP
  have hD : va_D A [(h_this, .inr (5, [.int 0, .ref h_this_put, .int v_puts, .ref h_this_text, .int v_bytes, .int v_nameFrom, .int v_names, .ref h_this_value, .int v_values, .int v_behind, .ref h_this_part, .int v_parts])), (h_this_put, .inl (cI, 300, .inl v_put)), (h_this_text, .inl (cI, 300, .inl v_text)), (h_this_value, .inl (cI, 300, .inl v_value)), (h_this_part, .inl (cI, 300, .inl v_part))] := hD
  refine lv_iload_n hx hb d_Mo_count_5 rfl (lv_at hl 1 rfl) ?_
  refine lv_if_ne (tgt := 14) hx hb d_Mo_count_6 (by decide) (fun c_4 => ?_) (fun c_4 => ?_)
  · replace h := itF h c_4
    refine lv_aload_n hx hb d_Mo_count_14 rfl (lv_at hl 0 rfl) ?_
    obtain ⟨z5, hc_5, h⟩ := bs h
    refine go_i (wr := []) (w1 := [(h_this, .inr (5, [.int 0, .ref h_this_put, .int v_puts, .ref h_this_text, .int v_bytes, .int z5.2.1, .int z5.2.2.1, .ref h_this_value, .int z5.2.2.2.1, .int z5.2.2.2.2.1, .ref h_this_part, .int v_parts])), (h_this_put, .inl (cI, 300, .inl v_put)), (h_this_text, .inl (cI, 300, .inl v_text)), (h_this_value, .inl (cI, 300, .inl z5.2.2.2.2.2)), (h_this_part, .inl (cI, 300, .inl v_part))]) (ws2 := [(h_this, .inr (5, [.int 0, .ref h_this_put, .int v_puts, .ref h_this_text, .int v_bytes, .int z5.2.1, .int z5.2.2.1, .ref h_this_value, .int z5.2.2.2.1, .int z5.2.2.2.2.1, .ref h_this_part, .int v_parts])), (h_this_put, .inl (cI, 300, .inl v_put)), (h_this_text, .inl (cI, 300, .inl v_text)), (h_this_value, .inl (cI, 300, .inl z5.2.2.2.2.2)), (h_this_part, .inl (cI, 300, .inl v_part))]) hP hD hS hA [0, 1, 2, 3, 4] [] [0, 1, 2, 3, 4] rfl (by decide) rfl (by decide) (by decide) rfl (by decide) (fun hPc hDc hFc => rn_V (As := []) (rest := []) C hK (c_Mo_fields N h_this h_this_put h_this_text h_this_value h_this_part 0 v_puts v_bytes v_nameFrom v_names v_values v_behind v_parts v_put v_text v_value v_part z5 hc_5 _) ⟨rfl, rfl⟩ m_462 ok_Mo_fields ⟨by decide, by decide⟩ rfl rfl rfl hl.1 rfl (Nat.le_of_ble_eq_true rfl) d_Mo_count_15 ⟨by decide, by decide⟩ hS hPc hDc hFc) (fun H locs hP hD hS => ?_)
    refine lv_istore_n (lv' := [(2, .int z5.1), (0, .ref h_this), (1, .int x1)]) hx hb d_Mo_count_18 rfl hl (by decide) rfl (fun ls hl => ?_)
    refine lv_aload_n hx hb d_Mo_count_19 rfl (lv_at hl 1 rfl) ?_
    refine va_get (D := (dC, dI)) (ci := 5) (v := .int z5.2.2.2.2.1) (C := R_Mo) (T := F_Mo) (N := 12) hx hb hts in_Mo hown hK.1 hP 0 rfl rfl 9 (by decide) (hts _ m_426) (fun _ h9 => h9) rfl d_Mo_count_20 ?_
    refine lv_istore_n (lv' := [(3, .int z5.2.2.2.2.1), (2, .int z5.1), (0, .ref h_this), (1, .int x1)]) hx hb d_Mo_count_23 rfl hl (by decide) rfl (fun ls hl => ?_)
    refine lv_iload_n hx hb d_Mo_count_24 rfl (lv_at hl 3 rfl) ?_
    refine lv_iconst (v := 1) hx hb d_Mo_count_25 (by decide) ?_
    refine lv_icmp_ne (tgt := 31) hx hb d_Mo_count_26 (by decide) (fun c_6 => ?_) (fun c_6 => ?_)
    · replace h := itF h c_6
      refine lv_iload_n hx hb d_Mo_count_31 rfl (lv_at hl 3 rfl) ?_
      refine lv_iconst (v := 2) hx hb d_Mo_count_32 (by decide) ?_
      refine lv_icmp_ne (tgt := 38) hx hb d_Mo_count_33 (by decide) (fun c_7 => ?_) (fun c_7 => ?_)
      · replace h := itF h c_7
        refine lv_iconst (v := 0) hx hb d_Mo_count_38 (by decide) ?_
        refine lv_istore (lv' := [(4, .int 0), (3, .int z5.2.2.2.2.1), (2, .int z5.1), (0, .ref h_this), (1, .int x1)]) hx hb d_Mo_count_39 hl (by decide) rfl (fun ls hl => ?_)
        refine lv_iconst (v := 0) hx hb d_Mo_count_41 (by decide) ?_
        refine lv_istore (lv' := [(5, .int 0), (4, .int 0), (3, .int z5.2.2.2.2.1), (2, .int z5.1), (0, .ref h_this), (1, .int x1)]) hx hb d_Mo_count_42 hl (by decide) rfl (fun ls hl => ?_)
        exact k_Mo_count_44 C hK hA N h_this h_this_put h_this_text h_this_value h_this_part v_put x1 v_puts v_bytes v_text z N z5.1 0 0 0 z5.2.1 z5.2.2.1 z5.2.2.2.1 z5.2.2.2.2.1 v_parts z5.2.2.2.2.2 v_part h _ _ hP hD hS _ (lv_sub hl [4, 5, 3, 1, 0] rfl)
      · replace h := itT h c_7
        refine lv_iload_n hx hb d_Mo_count_36 rfl (lv_at hl 0 rfl) ?_
        obtain rfl := Option.some.inj h
        exact W.iret (v := z5.2.2.2.2.1) hx hb hr (fun t ht hW => ⟨⟨z5.2.2.2.2.1, (), rfl, rfl, by rw [ht]; exact hP, hD⟩, hS.F ht⟩) hS.2.2 d_Mo_count_37 hlk
    · replace h := itT h c_6
      refine lv_iload_n hx hb d_Mo_count_29 rfl (lv_at hl 1 rfl) ?_
      obtain rfl := Option.some.inj h
      exact W.iret (v := z5.1) hx hb hr (fun t ht hW => ⟨⟨z5.1, (), rfl, rfl, by rw [ht]; exact hP, hD⟩, hS.F ht⟩) hS.2.2 d_Mo_count_30 hlk
  · replace h := itT h c_4
    refine lv_aload_n hx hb d_Mo_count_9 rfl (lv_at hl 0 rfl) ?_
    refine va_get (D := (dC, dI)) (ci := 5) (v := .int v_puts) (C := R_Mo) (T := F_Mo) (N := 12) hx hb hts in_Mo hown hK.1 hP 0 rfl rfl 2 (by decide) (hts _ m_419) (fun _ h9 => h9) rfl d_Mo_count_10 ?_
    obtain rfl := Option.some.inj h
    exact W.iret (v := v_puts) hx hb hr (fun t ht hW => ⟨⟨v_puts, (), rfl, rfl, by rw [ht]; exact hP, hD⟩, hS.F ht⟩) hS.2.2 d_Mo_count_13 hlk
