/-! THE CONSTRUCTORS, printed by wip/whole/gen/gen_ctor.py -/
theorem wi1 : Cond.instanceMethod Lib.objectInit ∈ T0 := T0_1 26 (by decide +kernel) rfl
theorem wi2 : Cond.code Lib.objectInit ⟨#[0xb1]⟩ 1 none ∈ T0 := T0_1 27 (by decide +kernel) rfl
theorem wa_int : Cond.arrayClass .int ∈ T0 := T0_1 151 (by decide +kernel) rfl
theorem wa_long : Cond.arrayClass .long ∈ T0 := T0_2 67 (by decide +kernel) rfl
theorem wa_byte : Cond.arrayClass .byte ∈ T0 := T0_1 44 (by decide +kernel) rfl
theorem wa_boolean : Cond.arrayClass .boolean ∈ T0 := T0_2 17 (by decide +kernel) rfl
theorem mi0_init : Cond.instanceMethod y0_init ∈ T0 := T0_2 71 (by decide +kernel) rfl
theorem ma0_init : MFa y0_init c0_init 2 none 1 := ⟨T0_2 72 (by decide +kernel) rfl, T0_1 7 (by decide +kernel) rfl, by decide +kernel, by decide +kernel, by decide +kernel⟩
theorem wini0 : Cond.initialized (RN 0) ∈ T0 := T0_1 7 (by decide +kernel) rfl
theorem wins0 : Cond.instantiable (RN 0) (nf 0) ∈ T0 := T0_2 69 (by decide +kernel) rfl
theorem d0_init_0 : decode c0_init 0 = .ok (.aload_n 0, 1) := by decide +kernel
theorem lo0_3 : Cond.methodLink (RN 0) 3 Lib.objectInit ∈ T0 := T0_2 73 (by decide +kernel) rfl
theorem d0_init_1 : decode c0_init 1 = .ok (.invokespecial 3, 3) := by decide +kernel
theorem d0_init_4 : decode c0_init 4 = .ok (.aload_n 0, 1) := by decide +kernel
theorem d0_init_5 : decode c0_init 5 = .ok (.iconst 0, 1) := by decide +kernel
theorem d0_init_6 : decode c0_init 6 = .ok (.putfield 9, 3) := by decide +kernel
theorem d0_init_9 : decode c0_init 9 = .ok (.aload_n 0, 1) := by decide +kernel
theorem d0_init_10 : decode c0_init 10 = .ok (.iconst 0, 1) := by decide +kernel
theorem d0_init_11 : decode c0_init 11 = .ok (.putfield 15, 3) := by decide +kernel
theorem d0_init_14 : decode c0_init 14 = .ok (.aload_n 0, 1) := by decide +kernel
theorem d0_init_15 : decode c0_init 15 = .ok (.iconst 0, 1) := by decide +kernel
theorem d0_init_16 : decode c0_init 16 = .ok (.putfield 19, 3) := by decide +kernel
theorem d0_init_19 : decode c0_init 19 = .ok (.aload_n 0, 1) := by decide +kernel
theorem d0_init_20 : decode c0_init 20 = .ok (.bipush 8, 2) := by decide +kernel
theorem d0_init_22 : decode c0_init 22 = .ok (.newarray .int, 2) := by decide +kernel
theorem lp0_22 : Cond.fieldLink (RN 0) 22 (RN 0) (FT 0 4).2.1 (FT 0 4).2.2.1 ∈ T0 := T0_2 81 (by decide +kernel) rfl
theorem d0_init_24 : decode c0_init 24 = .ok (.putfield 22, 3) := by decide +kernel
theorem d0_init_27 : decode c0_init 27 = .ok (.aload_n 0, 1) := by decide +kernel
theorem d0_init_28 : decode c0_init 28 = .ok (.bipush 8, 2) := by decide +kernel
theorem d0_init_30 : decode c0_init 30 = .ok (.newarray .int, 2) := by decide +kernel
theorem lp0_26 : Cond.fieldLink (RN 0) 26 (RN 0) (FT 0 5).2.1 (FT 0 5).2.2.1 ∈ T0 := T0_2 83 (by decide +kernel) rfl
theorem d0_init_32 : decode c0_init 32 = .ok (.putfield 26, 3) := by decide +kernel
theorem d0_init_35 : decode c0_init 35 = .ok (.aload_n 0, 1) := by decide +kernel
theorem d0_init_36 : decode c0_init 36 = .ok (.bipush 8, 2) := by decide +kernel
theorem d0_init_38 : decode c0_init 38 = .ok (.newarray .int, 2) := by decide +kernel
theorem lp0_29 : Cond.fieldLink (RN 0) 29 (RN 0) (FT 0 6).2.1 (FT 0 6).2.2.1 ∈ T0 := T0_2 84 (by decide +kernel) rfl
theorem d0_init_40 : decode c0_init 40 = .ok (.putfield 29, 3) := by decide +kernel
theorem d0_init_43 : decode c0_init 43 = .ok (.aload_n 0, 1) := by decide +kernel
theorem d0_init_44 : decode c0_init 44 = .ok (.sipush 2304, 3) := by decide +kernel
theorem d0_init_47 : decode c0_init 47 = .ok (.newarray .int, 2) := by decide +kernel
theorem lp0_32 : Cond.fieldLink (RN 0) 32 (RN 0) (FT 0 7).2.1 (FT 0 7).2.2.1 ∈ T0 := T0_2 85 (by decide +kernel) rfl
theorem d0_init_49 : decode c0_init 49 = .ok (.putfield 32, 3) := by decide +kernel
theorem d0_init_52 : decode c0_init 52 = .ok (.aload_n 0, 1) := by decide +kernel
theorem d0_init_53 : decode c0_init 53 = .ok (.sipush 256, 3) := by decide +kernel
theorem d0_init_56 : decode c0_init 56 = .ok (.newarray .int, 2) := by decide +kernel
theorem lp0_35 : Cond.fieldLink (RN 0) 35 (RN 0) (FT 0 8).2.1 (FT 0 8).2.2.1 ∈ T0 := T0_2 86 (by decide +kernel) rfl
theorem d0_init_58 : decode c0_init 58 = .ok (.putfield 35, 3) := by decide +kernel
theorem d0_init_61 : decode c0_init 61 = .ok (.aload_n 0, 1) := by decide +kernel
theorem d0_init_62 : decode c0_init 62 = .ok (.aload_n 1, 1) := by decide +kernel
theorem lp0_38 : Cond.fieldLink (RN 0) 38 (RN 0) (FT 0 0).2.1 (FT 0 0).2.2.1 ∈ T0 := T0_2 74 (by decide +kernel) rfl
theorem d0_init_63 : decode c0_init 63 = .ok (.putfield 38, 3) := by decide +kernel
theorem d0_init_66 : decode c0_init 66 = .ok (.return_, 1) := by decide +kernel
theorem mi1_init : Cond.instanceMethod y1_init ∈ T0 := T0_2 109 (by decide +kernel) rfl
theorem ma1_init : MFa y1_init c1_init 2 none 1 := ⟨T0_2 110 (by decide +kernel) rfl, T0_1 8 (by decide +kernel) rfl, by decide +kernel, by decide +kernel, by decide +kernel⟩
theorem wini1 : Cond.initialized (RN 1) ∈ T0 := T0_1 8 (by decide +kernel) rfl
theorem wins1 : Cond.instantiable (RN 1) (nf 1) ∈ T0 := T0_2 107 (by decide +kernel) rfl
theorem d1_init_0 : decode c1_init 0 = .ok (.aload_n 0, 1) := by decide +kernel
theorem lo1_3 : Cond.methodLink (RN 1) 3 Lib.objectInit ∈ T0 := T0_2 111 (by decide +kernel) rfl
theorem d1_init_1 : decode c1_init 1 = .ok (.invokespecial 3, 3) := by decide +kernel
theorem d1_init_4 : decode c1_init 4 = .ok (.aload_n 0, 1) := by decide +kernel
theorem d1_init_5 : decode c1_init 5 = .ok (.iconst 0, 1) := by decide +kernel
theorem d1_init_6 : decode c1_init 6 = .ok (.putfield 9, 3) := by decide +kernel
theorem d1_init_9 : decode c1_init 9 = .ok (.aload_n 0, 1) := by decide +kernel
theorem d1_init_10 : decode c1_init 10 = .ok (.sipush 256, 3) := by decide +kernel
theorem d1_init_13 : decode c1_init 13 = .ok (.newarray .int, 2) := by decide +kernel
theorem lp1_15 : Cond.fieldLink (RN 1) 15 (RN 1) (FT 1 2).2.1 (FT 1 2).2.2.1 ∈ T0 := T0_2 115 (by decide +kernel) rfl
theorem d1_init_15 : decode c1_init 15 = .ok (.putfield 15, 3) := by decide +kernel
theorem d1_init_18 : decode c1_init 18 = .ok (.aload_n 0, 1) := by decide +kernel
theorem d1_init_19 : decode c1_init 19 = .ok (.sipush 256, 3) := by decide +kernel
theorem d1_init_22 : decode c1_init 22 = .ok (.newarray .int, 2) := by decide +kernel
theorem lp1_19 : Cond.fieldLink (RN 1) 19 (RN 1) (FT 1 3).2.1 (FT 1 3).2.2.1 ∈ T0 := T0_2 116 (by decide +kernel) rfl
theorem d1_init_24 : decode c1_init 24 = .ok (.putfield 19, 3) := by decide +kernel
theorem d1_init_27 : decode c1_init 27 = .ok (.aload_n 0, 1) := by decide +kernel
theorem d1_init_28 : decode c1_init 28 = .ok (.aload_n 1, 1) := by decide +kernel
theorem lp1_22 : Cond.fieldLink (RN 1) 22 (RN 1) (FT 1 0).2.1 (FT 1 0).2.2.1 ∈ T0 := T0_2 112 (by decide +kernel) rfl
theorem d1_init_29 : decode c1_init 29 = .ok (.putfield 22, 3) := by decide +kernel
theorem d1_init_32 : decode c1_init 32 = .ok (.return_, 1) := by decide +kernel
theorem mi2_init : Cond.instanceMethod y2_init ∈ T0 := T0_1 54 (by decide +kernel) rfl
theorem ma2_init : MFa y2_init c2_init 1 none 0 := ⟨T0_1 55 (by decide +kernel) rfl, T0_1 4 (by decide +kernel) rfl, by decide +kernel, by decide +kernel, by decide +kernel⟩
theorem wini2 : Cond.initialized (RN 2) ∈ T0 := T0_1 4 (by decide +kernel) rfl
theorem wins2 : Cond.instantiable (RN 2) (nf 2) ∈ T0 := T0_1 52 (by decide +kernel) rfl
theorem d2_init_0 : decode c2_init 0 = .ok (.aload_n 0, 1) := by decide +kernel
theorem lo2_3 : Cond.methodLink (RN 2) 3 Lib.objectInit ∈ T0 := T0_1 56 (by decide +kernel) rfl
theorem d2_init_1 : decode c2_init 1 = .ok (.invokespecial 3, 3) := by decide +kernel
theorem d2_init_4 : decode c2_init 4 = .ok (.aload_n 0, 1) := by decide +kernel
theorem d2_init_5 : decode c2_init 5 = .ok (.iconst 0, 1) := by decide +kernel
theorem d2_init_6 : decode c2_init 6 = .ok (.putfield 9, 3) := by decide +kernel
theorem d2_init_9 : decode c2_init 9 = .ok (.aload_n 0, 1) := by decide +kernel
theorem d2_init_10 : decode c2_init 10 = .ok (.iconst 0, 1) := by decide +kernel
theorem d2_init_11 : decode c2_init 11 = .ok (.putfield 15, 3) := by decide +kernel
theorem d2_init_14 : decode c2_init 14 = .ok (.aload_n 0, 1) := by decide +kernel
theorem d2_init_15 : decode c2_init 15 = .ok (.iconst 0, 1) := by decide +kernel
theorem d2_init_16 : decode c2_init 16 = .ok (.putfield 18, 3) := by decide +kernel
theorem d2_init_19 : decode c2_init 19 = .ok (.aload_n 0, 1) := by decide +kernel
theorem d2_init_20 : decode c2_init 20 = .ok (.iconst 0, 1) := by decide +kernel
theorem d2_init_21 : decode c2_init 21 = .ok (.putfield 21, 3) := by decide +kernel
theorem d2_init_24 : decode c2_init 24 = .ok (.aload_n 0, 1) := by decide +kernel
theorem d2_init_25 : decode c2_init 25 = .ok (.iconst 0, 1) := by decide +kernel
theorem d2_init_26 : decode c2_init 26 = .ok (.putfield 24, 3) := by decide +kernel
theorem d2_init_29 : decode c2_init 29 = .ok (.aload_n 0, 1) := by decide +kernel
theorem d2_init_30 : decode c2_init 30 = .ok (.iconst 0, 1) := by decide +kernel
theorem d2_init_31 : decode c2_init 31 = .ok (.putfield 27, 3) := by decide +kernel
theorem d2_init_34 : decode c2_init 34 = .ok (.aload_n 0, 1) := by decide +kernel
theorem d2_init_35 : decode c2_init 35 = .ok (.iconst 0, 1) := by decide +kernel
theorem d2_init_36 : decode c2_init 36 = .ok (.putfield 30, 3) := by decide +kernel
theorem d2_init_39 : decode c2_init 39 = .ok (.aload_n 0, 1) := by decide +kernel
theorem d2_init_40 : decode c2_init 40 = .ok (.iconst 0, 1) := by decide +kernel
theorem d2_init_41 : decode c2_init 41 = .ok (.putfield 33, 3) := by decide +kernel
theorem d2_init_44 : decode c2_init 44 = .ok (.aload_n 0, 1) := by decide +kernel
theorem d2_init_45 : decode c2_init 45 = .ok (.iconst 0, 1) := by decide +kernel
theorem d2_init_46 : decode c2_init 46 = .ok (.putfield 36, 3) := by decide +kernel
theorem d2_init_49 : decode c2_init 49 = .ok (.aload_n 0, 1) := by decide +kernel
theorem d2_init_50 : decode c2_init 50 = .ok (.iconst 0, 1) := by decide +kernel
theorem d2_init_51 : decode c2_init 51 = .ok (.putfield 39, 3) := by decide +kernel
theorem d2_init_54 : decode c2_init 54 = .ok (.aload_n 0, 1) := by decide +kernel
theorem d2_init_55 : decode c2_init 55 = .ok (.bipush 8, 2) := by decide +kernel
theorem d2_init_57 : decode c2_init 57 = .ok (.newarray .int, 2) := by decide +kernel
theorem lp2_42 : Cond.fieldLink (RN 2) 42 (RN 2) (FT 2 10).2.1 (FT 2 10).2.2.1 ∈ T0 := T0_1 96 (by decide +kernel) rfl
theorem d2_init_59 : decode c2_init 59 = .ok (.putfield 42, 3) := by decide +kernel
theorem d2_init_62 : decode c2_init 62 = .ok (.aload_n 0, 1) := by decide +kernel
theorem d2_init_63 : decode c2_init 63 = .ok (.bipush 8, 2) := by decide +kernel
theorem d2_init_65 : decode c2_init 65 = .ok (.newarray .int, 2) := by decide +kernel
theorem lp2_46 : Cond.fieldLink (RN 2) 46 (RN 2) (FT 2 11).2.1 (FT 2 11).2.2.1 ∈ T0 := T0_1 102 (by decide +kernel) rfl
theorem d2_init_67 : decode c2_init 67 = .ok (.putfield 46, 3) := by decide +kernel
theorem d2_init_70 : decode c2_init 70 = .ok (.aload_n 0, 1) := by decide +kernel
theorem d2_init_71 : decode c2_init 71 = .ok (.bipush 8, 2) := by decide +kernel
theorem d2_init_73 : decode c2_init 73 = .ok (.newarray .int, 2) := by decide +kernel
theorem lp2_49 : Cond.fieldLink (RN 2) 49 (RN 2) (FT 2 12).2.1 (FT 2 12).2.2.1 ∈ T0 := T0_1 106 (by decide +kernel) rfl
theorem d2_init_75 : decode c2_init 75 = .ok (.putfield 49, 3) := by decide +kernel
theorem d2_init_78 : decode c2_init 78 = .ok (.aload_n 0, 1) := by decide +kernel
theorem d2_init_79 : decode c2_init 79 = .ok (.bipush 8, 2) := by decide +kernel
theorem d2_init_81 : decode c2_init 81 = .ok (.newarray .int, 2) := by decide +kernel
theorem lp2_52 : Cond.fieldLink (RN 2) 52 (RN 2) (FT 2 13).2.1 (FT 2 13).2.2.1 ∈ T0 := T0_1 110 (by decide +kernel) rfl
theorem d2_init_83 : decode c2_init 83 = .ok (.putfield 52, 3) := by decide +kernel
theorem d2_init_86 : decode c2_init 86 = .ok (.aload_n 0, 1) := by decide +kernel
theorem d2_init_87 : decode c2_init 87 = .ok (.bipush 30, 2) := by decide +kernel
theorem d2_init_89 : decode c2_init 89 = .ok (.newarray .int, 2) := by decide +kernel
theorem lp2_55 : Cond.fieldLink (RN 2) 55 (RN 2) (FT 2 14).2.1 (FT 2 14).2.2.1 ∈ T0 := T0_1 113 (by decide +kernel) rfl
theorem d2_init_91 : decode c2_init 91 = .ok (.putfield 55, 3) := by decide +kernel
theorem d2_init_94 : decode c2_init 94 = .ok (.aload_n 0, 1) := by decide +kernel
theorem d2_init_95 : decode c2_init 95 = .ok (.bipush 30, 2) := by decide +kernel
theorem d2_init_97 : decode c2_init 97 = .ok (.newarray .int, 2) := by decide +kernel
theorem lp2_58 : Cond.fieldLink (RN 2) 58 (RN 2) (FT 2 15).2.1 (FT 2 15).2.2.1 ∈ T0 := T0_1 114 (by decide +kernel) rfl
theorem d2_init_99 : decode c2_init 99 = .ok (.putfield 58, 3) := by decide +kernel
theorem d2_init_102 : decode c2_init 102 = .ok (.aload_n 0, 1) := by decide +kernel
theorem d2_init_103 : decode c2_init 103 = .ok (.bipush 30, 2) := by decide +kernel
theorem d2_init_105 : decode c2_init 105 = .ok (.newarray .int, 2) := by decide +kernel
theorem lp2_61 : Cond.fieldLink (RN 2) 61 (RN 2) (FT 2 16).2.1 (FT 2 16).2.2.1 ∈ T0 := T0_1 115 (by decide +kernel) rfl
theorem d2_init_107 : decode c2_init 107 = .ok (.putfield 61, 3) := by decide +kernel
theorem d2_init_110 : decode c2_init 110 = .ok (.return_, 1) := by decide +kernel
theorem mi3_init : Cond.instanceMethod y3_init ∈ T0 := T0_2 21 (by decide +kernel) rfl
theorem ma3_init : MFa y3_init c3_init 2 none 1 := ⟨T0_2 22 (by decide +kernel) rfl, T0_1 6 (by decide +kernel) rfl, by decide +kernel, by decide +kernel, by decide +kernel⟩
theorem wini3 : Cond.initialized (RN 3) ∈ T0 := T0_1 6 (by decide +kernel) rfl
theorem wins3 : Cond.instantiable (RN 3) (nf 3) ∈ T0 := T0_2 19 (by decide +kernel) rfl
theorem d3_init_0 : decode c3_init 0 = .ok (.aload_n 0, 1) := by decide +kernel
theorem lo3_5 : Cond.methodLink (RN 3) 5 Lib.objectInit ∈ T0 := T0_2 23 (by decide +kernel) rfl
theorem d3_init_1 : decode c3_init 1 = .ok (.invokespecial 5, 3) := by decide +kernel
theorem d3_init_4 : decode c3_init 4 = .ok (.aload_n 0, 1) := by decide +kernel
theorem d3_init_5 : decode c3_init 5 = .ok (.iconst 0, 1) := by decide +kernel
theorem d3_init_6 : decode c3_init 6 = .ok (.putfield 11, 3) := by decide +kernel
theorem d3_init_9 : decode c3_init 9 = .ok (.aload_n 0, 1) := by decide +kernel
theorem d3_init_10 : decode c3_init 10 = .ok (.iconst 0, 1) := by decide +kernel
theorem d3_init_11 : decode c3_init 11 = .ok (.putfield 15, 3) := by decide +kernel
theorem d3_init_14 : decode c3_init 14 = .ok (.aload_n 0, 1) := by decide +kernel
theorem d3_init_15 : decode c3_init 15 = .ok (.lconst 0, 1) := by decide +kernel
theorem d3_init_16 : decode c3_init 16 = .ok (.putfield 19, 3) := by decide +kernel
theorem d3_init_19 : decode c3_init 19 = .ok (.aload_n 0, 1) := by decide +kernel
theorem d3_init_20 : decode c3_init 20 = .ok (.lconst 0, 1) := by decide +kernel
theorem d3_init_21 : decode c3_init 21 = .ok (.putfield 23, 3) := by decide +kernel
theorem d3_init_24 : decode c3_init 24 = .ok (.aload_n 0, 1) := by decide +kernel
theorem d3_init_25 : decode c3_init 25 = .ok (.bipush 8, 2) := by decide +kernel
theorem d3_init_27 : decode c3_init 27 = .ok (.newarray .int, 2) := by decide +kernel
theorem lp3_26 : Cond.fieldLink (RN 3) 26 (RN 3) (FT 3 5).2.1 (FT 3 5).2.2.1 ∈ T0 := T0_2 32 (by decide +kernel) rfl
theorem d3_init_29 : decode c3_init 29 = .ok (.putfield 26, 3) := by decide +kernel
theorem d3_init_32 : decode c3_init 32 = .ok (.aload_n 0, 1) := by decide +kernel
theorem d3_init_33 : decode c3_init 33 = .ok (.sipush 256, 3) := by decide +kernel
theorem d3_init_36 : decode c3_init 36 = .ok (.newarray .int, 2) := by decide +kernel
theorem lp3_30 : Cond.fieldLink (RN 3) 30 (RN 3) (FT 3 6).2.1 (FT 3 6).2.2.1 ∈ T0 := T0_2 33 (by decide +kernel) rfl
theorem d3_init_38 : decode c3_init 38 = .ok (.putfield 30, 3) := by decide +kernel
theorem d3_init_41 : decode c3_init 41 = .ok (.aload_n 0, 1) := by decide +kernel
theorem d3_init_42 : decode c3_init 42 = .ok (.sipush 256, 3) := by decide +kernel
theorem d3_init_45 : decode c3_init 45 = .ok (.newarray .int, 2) := by decide +kernel
theorem lp3_33 : Cond.fieldLink (RN 3) 33 (RN 3) (FT 3 7).2.1 (FT 3 7).2.2.1 ∈ T0 := T0_2 34 (by decide +kernel) rfl
theorem d3_init_47 : decode c3_init 47 = .ok (.putfield 33, 3) := by decide +kernel
theorem d3_init_50 : decode c3_init 50 = .ok (.aload_n 0, 1) := by decide +kernel
theorem d3_init_51 : decode c3_init 51 = .ok (.sipush 256, 3) := by decide +kernel
theorem d3_init_54 : decode c3_init 54 = .ok (.newarray .int, 2) := by decide +kernel
theorem lp3_36 : Cond.fieldLink (RN 3) 36 (RN 3) (FT 3 8).2.1 (FT 3 8).2.2.1 ∈ T0 := T0_2 35 (by decide +kernel) rfl
theorem d3_init_56 : decode c3_init 56 = .ok (.putfield 36, 3) := by decide +kernel
theorem d3_init_59 : decode c3_init 59 = .ok (.aload_n 0, 1) := by decide +kernel
theorem d3_init_60 : decode c3_init 60 = .ok (.sipush 256, 3) := by decide +kernel
theorem d3_init_63 : decode c3_init 63 = .ok (.newarray .int, 2) := by decide +kernel
theorem lp3_39 : Cond.fieldLink (RN 3) 39 (RN 3) (FT 3 9).2.1 (FT 3 9).2.2.1 ∈ T0 := T0_2 36 (by decide +kernel) rfl
theorem d3_init_65 : decode c3_init 65 = .ok (.putfield 39, 3) := by decide +kernel
theorem d3_init_68 : decode c3_init 68 = .ok (.aload_n 0, 1) := by decide +kernel
theorem d3_init_69 : decode c3_init 69 = .ok (.sipush 256, 3) := by decide +kernel
theorem d3_init_72 : decode c3_init 72 = .ok (.newarray .long, 2) := by decide +kernel
theorem lp3_42 : Cond.fieldLink (RN 3) 42 (RN 3) (FT 3 10).2.1 (FT 3 10).2.2.1 ∈ T0 := T0_2 37 (by decide +kernel) rfl
theorem d3_init_74 : decode c3_init 74 = .ok (.putfield 42, 3) := by decide +kernel
theorem d3_init_77 : decode c3_init 77 = .ok (.aload_n 0, 1) := by decide +kernel
theorem d3_init_78 : decode c3_init 78 = .ok (.sipush 256, 3) := by decide +kernel
theorem d3_init_81 : decode c3_init 81 = .ok (.newarray .long, 2) := by decide +kernel
theorem lp3_46 : Cond.fieldLink (RN 3) 46 (RN 3) (FT 3 11).2.1 (FT 3 11).2.2.1 ∈ T0 := T0_2 38 (by decide +kernel) rfl
theorem d3_init_83 : decode c3_init 83 = .ok (.putfield 46, 3) := by decide +kernel
theorem d3_init_86 : decode c3_init 86 = .ok (.aload_n 0, 1) := by decide +kernel
theorem d3_init_87 : decode c3_init 87 = .ok (.sipush 256, 3) := by decide +kernel
theorem d3_init_90 : decode c3_init 90 = .ok (.newarray .long, 2) := by decide +kernel
theorem lp3_49 : Cond.fieldLink (RN 3) 49 (RN 3) (FT 3 12).2.1 (FT 3 12).2.2.1 ∈ T0 := T0_2 39 (by decide +kernel) rfl
theorem d3_init_92 : decode c3_init 92 = .ok (.putfield 49, 3) := by decide +kernel
theorem d3_init_95 : decode c3_init 95 = .ok (.aload_n 0, 1) := by decide +kernel
theorem d3_init_96 : decode c3_init 96 = .ok (.aload_n 1, 1) := by decide +kernel
theorem lp3_52 : Cond.fieldLink (RN 3) 52 (RN 3) (FT 3 0).2.1 (FT 3 0).2.2.1 ∈ T0 := T0_2 24 (by decide +kernel) rfl
theorem d3_init_97 : decode c3_init 97 = .ok (.putfield 52, 3) := by decide +kernel
theorem d3_init_100 : decode c3_init 100 = .ok (.return_, 1) := by decide +kernel
theorem mi4_init : Cond.instanceMethod y4_init ∈ T0 := T0_1 48 (by decide +kernel) rfl
theorem ma4_init : MFa y4_init c4_init 2 none 1 := ⟨T0_1 49 (by decide +kernel) rfl, T0_1 3 (by decide +kernel) rfl, by decide +kernel, by decide +kernel, by decide +kernel⟩
theorem wini4 : Cond.initialized (RN 4) ∈ T0 := T0_1 3 (by decide +kernel) rfl
theorem wins4 : Cond.instantiable (RN 4) (nf 4) ∈ T0 := T0_1 46 (by decide +kernel) rfl
theorem d4_init_0 : decode c4_init 0 = .ok (.aload_n 0, 1) := by decide +kernel
theorem lo4_3 : Cond.methodLink (RN 4) 3 Lib.objectInit ∈ T0 := T0_1 50 (by decide +kernel) rfl
theorem d4_init_1 : decode c4_init 1 = .ok (.invokespecial 3, 3) := by decide +kernel
theorem d4_init_4 : decode c4_init 4 = .ok (.aload_n 0, 1) := by decide +kernel
theorem wc4_9 : Cond.classLink (RN 4) 9 (RN 2) ∈ T0 := T0_1 51 (by decide +kernel) rfl
theorem d4_init_5 : decode c4_init 5 = .ok (.new 9, 3) := by decide +kernel
theorem d4_init_8 : decode c4_init 8 = .ok (.dup, 1) := by decide +kernel
theorem lm4_11 : LkM 4 11 y2_init := Or.inr ⟨"TeethingParish", NW_1 53 (by decide +kernel) rfl⟩
theorem d4_init_9 : decode c4_init 9 = .ok (.invokespecial 11, 3) := by decide +kernel
theorem lp4_12 : Cond.fieldLink (RN 4) 12 (RN 4) (FT 4 1).2.1 (FT 4 1).2.2.1 ∈ T0 := T0_1 153 (by decide +kernel) rfl
theorem d4_init_12 : decode c4_init 12 = .ok (.putfield 12, 3) := by decide +kernel
theorem d4_init_15 : decode c4_init 15 = .ok (.aload_n 0, 1) := by decide +kernel
theorem d4_init_16 : decode c4_init 16 = .ok (.iconst 0, 1) := by decide +kernel
theorem d4_init_17 : decode c4_init 17 = .ok (.putfield 18, 3) := by decide +kernel
theorem d4_init_20 : decode c4_init 20 = .ok (.aload_n 0, 1) := by decide +kernel
theorem d4_init_21 : decode c4_init 21 = .ok (.iconst (-1), 1) := by decide +kernel
theorem d4_init_22 : decode c4_init 22 = .ok (.putfield 22, 3) := by decide +kernel
theorem d4_init_25 : decode c4_init 25 = .ok (.aload_n 0, 1) := by decide +kernel
theorem d4_init_26 : decode c4_init 26 = .ok (.iconst 0, 1) := by decide +kernel
theorem d4_init_27 : decode c4_init 27 = .ok (.putfield 25, 3) := by decide +kernel
theorem d4_init_30 : decode c4_init 30 = .ok (.aload_n 0, 1) := by decide +kernel
theorem d4_init_31 : decode c4_init 31 = .ok (.iconst 0, 1) := by decide +kernel
theorem d4_init_32 : decode c4_init 32 = .ok (.putfield 28, 3) := by decide +kernel
theorem d4_init_35 : decode c4_init 35 = .ok (.aload_n 0, 1) := by decide +kernel
theorem d4_init_36 : decode c4_init 36 = .ok (.iconst 0, 1) := by decide +kernel
theorem d4_init_37 : decode c4_init 37 = .ok (.putfield 31, 3) := by decide +kernel
theorem d4_init_40 : decode c4_init 40 = .ok (.aload_n 0, 1) := by decide +kernel
theorem d4_init_41 : decode c4_init 41 = .ok (.aload_n 1, 1) := by decide +kernel
theorem lp4_34 : Cond.fieldLink (RN 4) 34 (RN 4) (FT 4 0).2.1 (FT 4 0).2.2.1 ∈ T0 := T0_1 152 (by decide +kernel) rfl
theorem d4_init_42 : decode c4_init 42 = .ok (.putfield 34, 3) := by decide +kernel
theorem d4_init_45 : decode c4_init 45 = .ok (.return_, 1) := by decide +kernel
theorem mi5_init : Cond.instanceMethod y5_init ∈ T0 := T0_2 162 (by decide +kernel) rfl
theorem ma5_init : MFa y5_init c5_init 1 none 0 := ⟨T0_2 163 (by decide +kernel) rfl, T0_1 10 (by decide +kernel) rfl, by decide +kernel, by decide +kernel, by decide +kernel⟩
theorem wini5 : Cond.initialized (RN 5) ∈ T0 := T0_1 10 (by decide +kernel) rfl
theorem wins5 : Cond.instantiable (RN 5) (nf 5) ∈ T0 := T0_2 160 (by decide +kernel) rfl
theorem d5_init_0 : decode c5_init 0 = .ok (.aload_n 0, 1) := by decide +kernel
theorem lo5_3 : Cond.methodLink (RN 5) 3 Lib.objectInit ∈ T0 := T0_2 164 (by decide +kernel) rfl
theorem d5_init_1 : decode c5_init 1 = .ok (.invokespecial 3, 3) := by decide +kernel
theorem d5_init_4 : decode c5_init 4 = .ok (.aload_n 0, 1) := by decide +kernel
theorem d5_init_5 : decode c5_init 5 = .ok (.iconst 0, 1) := by decide +kernel
theorem d5_init_6 : decode c5_init 6 = .ok (.putfield 9, 3) := by decide +kernel
theorem d5_init_9 : decode c5_init 9 = .ok (.aload_n 0, 1) := by decide +kernel
theorem d5_init_10 : decode c5_init 10 = .ok (.iconst 0, 1) := by decide +kernel
theorem d5_init_11 : decode c5_init 11 = .ok (.putfield 15, 3) := by decide +kernel
theorem d5_init_14 : decode c5_init 14 = .ok (.aload_n 0, 1) := by decide +kernel
theorem d5_init_15 : decode c5_init 15 = .ok (.iconst 0, 1) := by decide +kernel
theorem d5_init_16 : decode c5_init 16 = .ok (.putfield 19, 3) := by decide +kernel
theorem d5_init_19 : decode c5_init 19 = .ok (.aload_n 0, 1) := by decide +kernel
theorem d5_init_20 : decode c5_init 20 = .ok (.bipush 60, 2) := by decide +kernel
theorem d5_init_22 : decode c5_init 22 = .ok (.newarray .long, 2) := by decide +kernel
theorem lp5_22 : Cond.fieldLink (RN 5) 22 (RN 5) (FT 5 3).2.1 (FT 5 3).2.2.1 ∈ T0 := T0_2 173 (by decide +kernel) rfl
theorem d5_init_24 : decode c5_init 24 = .ok (.putfield 22, 3) := by decide +kernel
theorem d5_init_27 : decode c5_init 27 = .ok (.return_, 1) := by decide +kernel
theorem mi6_init : Cond.instanceMethod y6_init ∈ T0 := T0_2 130 (by decide +kernel) rfl
theorem ma6_init : MFa y6_init c6_init 2 none 1 := ⟨T0_2 131 (by decide +kernel) rfl, T0_1 9 (by decide +kernel) rfl, by decide +kernel, by decide +kernel, by decide +kernel⟩
theorem wini6 : Cond.initialized (RN 6) ∈ T0 := T0_1 9 (by decide +kernel) rfl
theorem wins6 : Cond.instantiable (RN 6) (nf 6) ∈ T0 := T0_2 128 (by decide +kernel) rfl
theorem d6_init_0 : decode c6_init 0 = .ok (.aload_n 0, 1) := by decide +kernel
theorem lo6_3 : Cond.methodLink (RN 6) 3 Lib.objectInit ∈ T0 := T0_2 132 (by decide +kernel) rfl
theorem d6_init_1 : decode c6_init 1 = .ok (.invokespecial 3, 3) := by decide +kernel
theorem d6_init_4 : decode c6_init 4 = .ok (.aload_n 0, 1) := by decide +kernel
theorem d6_init_5 : decode c6_init 5 = .ok (.iconst 0, 1) := by decide +kernel
theorem d6_init_6 : decode c6_init 6 = .ok (.putfield 9, 3) := by decide +kernel
theorem d6_init_9 : decode c6_init 9 = .ok (.aload_n 0, 1) := by decide +kernel
theorem d6_init_10 : decode c6_init 10 = .ok (.iconst (-1), 1) := by decide +kernel
theorem d6_init_11 : decode c6_init 11 = .ok (.putfield 15, 3) := by decide +kernel
theorem d6_init_14 : decode c6_init 14 = .ok (.aload_n 0, 1) := by decide +kernel
theorem d6_init_15 : decode c6_init 15 = .ok (.iconst 0, 1) := by decide +kernel
theorem d6_init_16 : decode c6_init 16 = .ok (.putfield 18, 3) := by decide +kernel
theorem d6_init_19 : decode c6_init 19 = .ok (.aload_n 0, 1) := by decide +kernel
theorem d6_init_20 : decode c6_init 20 = .ok (.bipush 108, 2) := by decide +kernel
theorem d6_init_22 : decode c6_init 22 = .ok (.newarray .int, 2) := by decide +kernel
theorem lp6_21 : Cond.fieldLink (RN 6) 21 (RN 6) (FT 6 5).2.1 (FT 6 5).2.2.1 ∈ T0 := T0_2 143 (by decide +kernel) rfl
theorem d6_init_24 : decode c6_init 24 = .ok (.putfield 21, 3) := by decide +kernel
theorem d6_init_27 : decode c6_init 27 = .ok (.aload_n 0, 1) := by decide +kernel
theorem d6_init_28 : decode c6_init 28 = .ok (.bipush 21, 2) := by decide +kernel
theorem d6_init_30 : decode c6_init 30 = .ok (.newarray .int, 2) := by decide +kernel
theorem lp6_25 : Cond.fieldLink (RN 6) 25 (RN 6) (FT 6 6).2.1 (FT 6 6).2.2.1 ∈ T0 := T0_2 144 (by decide +kernel) rfl
theorem d6_init_32 : decode c6_init 32 = .ok (.putfield 25, 3) := by decide +kernel
theorem d6_init_35 : decode c6_init 35 = .ok (.aload_n 0, 1) := by decide +kernel
theorem d6_init_36 : decode c6_init 36 = .ok (.aload_n 1, 1) := by decide +kernel
theorem lp6_28 : Cond.fieldLink (RN 6) 28 (RN 6) (FT 6 0).2.1 (FT 6 0).2.2.1 ∈ T0 := T0_2 135 (by decide +kernel) rfl
theorem d6_init_37 : decode c6_init 37 = .ok (.putfield 28, 3) := by decide +kernel
theorem d6_init_40 : decode c6_init 40 = .ok (.aload_n 0, 1) := by decide +kernel
theorem wc6_32 : Cond.classLink (RN 6) 32 (RN 8) ∈ T0 := T0_2 133 (by decide +kernel) rfl
theorem d6_init_41 : decode c6_init 41 = .ok (.new 32, 3) := by decide +kernel
theorem d6_init_44 : decode c6_init 44 = .ok (.dup, 1) := by decide +kernel
theorem d6_init_45 : decode c6_init 45 = .ok (.aload_n 1, 1) := by decide +kernel
theorem lm6_34 : LkM 6 34 y8_init := Or.inr ⟨"TeethingParish", NW_2 134 (by decide +kernel) rfl⟩
theorem d6_init_46 : decode c6_init 46 = .ok (.invokespecial 34, 3) := by decide +kernel
theorem lp6_37 : Cond.fieldLink (RN 6) 37 (RN 6) (FT 6 1).2.1 (FT 6 1).2.2.1 ∈ T0 := T0_2 136 (by decide +kernel) rfl
theorem d6_init_49 : decode c6_init 49 = .ok (.putfield 37, 3) := by decide +kernel
theorem d6_init_52 : decode c6_init 52 = .ok (.return_, 1) := by decide +kernel
theorem mi7_init : Cond.instanceMethod y7_init ∈ T0 := T0_1 31 (by decide +kernel) rfl
theorem ma7_init : MFa y7_init c7_init 1 none 0 := ⟨T0_1 32 (by decide +kernel) rfl, T0_1 2 (by decide +kernel) rfl, by decide +kernel, by decide +kernel, by decide +kernel⟩
theorem wini7 : Cond.initialized (RN 7) ∈ T0 := T0_1 2 (by decide +kernel) rfl
theorem wins7 : Cond.instantiable (RN 7) (nf 7) ∈ T0 := T0_1 29 (by decide +kernel) rfl
theorem d7_init_0 : decode c7_init 0 = .ok (.aload_n 0, 1) := by decide +kernel
theorem lo7_3 : Cond.methodLink (RN 7) 3 Lib.objectInit ∈ T0 := T0_1 33 (by decide +kernel) rfl
theorem d7_init_1 : decode c7_init 1 = .ok (.invokespecial 3, 3) := by decide +kernel
theorem d7_init_4 : decode c7_init 4 = .ok (.aload_n 0, 1) := by decide +kernel
theorem d7_init_5 : decode c7_init 5 = .ok (.sipush 700, 3) := by decide +kernel
theorem d7_init_8 : decode c7_init 8 = .ok (.newarray .byte, 2) := by decide +kernel
theorem lp7_9 : Cond.fieldLink (RN 7) 9 (RN 7) (FT 7 0).2.1 (FT 7 0).2.2.1 ∈ T0 := T0_1 34 (by decide +kernel) rfl
theorem d7_init_10 : decode c7_init 10 = .ok (.putfield 9, 3) := by decide +kernel
theorem d7_init_13 : decode c7_init 13 = .ok (.aload_n 0, 1) := by decide +kernel
theorem d7_init_14 : decode c7_init 14 = .ok (.iconst 0, 1) := by decide +kernel
theorem d7_init_15 : decode c7_init 15 = .ok (.putfield 15, 3) := by decide +kernel
theorem d7_init_18 : decode c7_init 18 = .ok (.return_, 1) := by decide +kernel
theorem mi8_init : Cond.instanceMethod y8_init ∈ T0 := T0_1 185 (by decide +kernel) rfl
theorem ma8_init : MFa y8_init c8_init 2 none 1 := ⟨T0_1 186 (by decide +kernel) rfl, T0_1 5 (by decide +kernel) rfl, by decide +kernel, by decide +kernel, by decide +kernel⟩
theorem wini8 : Cond.initialized (RN 8) ∈ T0 := T0_1 5 (by decide +kernel) rfl
theorem wins8 : Cond.instantiable (RN 8) (nf 8) ∈ T0 := T0_1 183 (by decide +kernel) rfl
theorem d8_init_0 : decode c8_init 0 = .ok (.aload_n 0, 1) := by decide +kernel
theorem lo8_3 : Cond.methodLink (RN 8) 3 Lib.objectInit ∈ T0 := T0_1 187 (by decide +kernel) rfl
theorem d8_init_1 : decode c8_init 1 = .ok (.invokespecial 3, 3) := by decide +kernel
theorem d8_init_4 : decode c8_init 4 = .ok (.aload_n 0, 1) := by decide +kernel
theorem d8_init_5 : decode c8_init 5 = .ok (.iconst 0, 1) := by decide +kernel
theorem d8_init_6 : decode c8_init 6 = .ok (.putfield 9, 3) := by decide +kernel
theorem d8_init_9 : decode c8_init 9 = .ok (.aload_n 0, 1) := by decide +kernel
theorem d8_init_10 : decode c8_init 10 = .ok (.iconst 0, 1) := by decide +kernel
theorem d8_init_11 : decode c8_init 11 = .ok (.putfield 15, 3) := by decide +kernel
theorem d8_init_14 : decode c8_init 14 = .ok (.aload_n 0, 1) := by decide +kernel
theorem d8_init_15 : decode c8_init 15 = .ok (.iconst 0, 1) := by decide +kernel
theorem d8_init_16 : decode c8_init 16 = .ok (.putfield 18, 3) := by decide +kernel
theorem d8_init_19 : decode c8_init 19 = .ok (.aload_n 0, 1) := by decide +kernel
theorem d8_init_20 : decode c8_init 20 = .ok (.iconst 0, 1) := by decide +kernel
theorem d8_init_21 : decode c8_init 21 = .ok (.putfield 21, 3) := by decide +kernel
theorem d8_init_24 : decode c8_init 24 = .ok (.aload_n 0, 1) := by decide +kernel
theorem d8_init_25 : decode c8_init 25 = .ok (.bipush 8, 2) := by decide +kernel
theorem d8_init_27 : decode c8_init 27 = .ok (.newarray .int, 2) := by decide +kernel
theorem lp8_24 : Cond.fieldLink (RN 8) 24 (RN 8) (FT 8 5).2.1 (FT 8 5).2.2.1 ∈ T0 := T0_1 197 (by decide +kernel) rfl
theorem d8_init_29 : decode c8_init 29 = .ok (.putfield 24, 3) := by decide +kernel
theorem d8_init_32 : decode c8_init 32 = .ok (.aload_n 0, 1) := by decide +kernel
theorem d8_init_33 : decode c8_init 33 = .ok (.bipush 8, 2) := by decide +kernel
theorem d8_init_35 : decode c8_init 35 = .ok (.newarray .int, 2) := by decide +kernel
theorem lp8_28 : Cond.fieldLink (RN 8) 28 (RN 8) (FT 8 6).2.1 (FT 8 6).2.2.1 ∈ T0 := T0_1 199 (by decide +kernel) rfl
theorem d8_init_37 : decode c8_init 37 = .ok (.putfield 28, 3) := by decide +kernel
theorem d8_init_40 : decode c8_init 40 = .ok (.aload_n 0, 1) := by decide +kernel
theorem d8_init_41 : decode c8_init 41 = .ok (.bipush 8, 2) := by decide +kernel
theorem d8_init_43 : decode c8_init 43 = .ok (.newarray .int, 2) := by decide +kernel
theorem lp8_31 : Cond.fieldLink (RN 8) 31 (RN 8) (FT 8 7).2.1 (FT 8 7).2.2.1 ∈ T0 := T0_1 202 (by decide +kernel) rfl
theorem d8_init_45 : decode c8_init 45 = .ok (.putfield 31, 3) := by decide +kernel
theorem d8_init_48 : decode c8_init 48 = .ok (.aload_n 0, 1) := by decide +kernel
theorem d8_init_49 : decode c8_init 49 = .ok (.bipush 8, 2) := by decide +kernel
theorem d8_init_51 : decode c8_init 51 = .ok (.newarray .int, 2) := by decide +kernel
theorem lp8_34 : Cond.fieldLink (RN 8) 34 (RN 8) (FT 8 8).2.1 (FT 8 8).2.2.1 ∈ T0 := T0_1 204 (by decide +kernel) rfl
theorem d8_init_53 : decode c8_init 53 = .ok (.putfield 34, 3) := by decide +kernel
theorem d8_init_56 : decode c8_init 56 = .ok (.aload_n 0, 1) := by decide +kernel
theorem d8_init_57 : decode c8_init 57 = .ok (.bipush 8, 2) := by decide +kernel
theorem d8_init_59 : decode c8_init 59 = .ok (.newarray .int, 2) := by decide +kernel
theorem lp8_37 : Cond.fieldLink (RN 8) 37 (RN 8) (FT 8 9).2.1 (FT 8 9).2.2.1 ∈ T0 := T0_1 205 (by decide +kernel) rfl
theorem d8_init_61 : decode c8_init 61 = .ok (.putfield 37, 3) := by decide +kernel
theorem d8_init_64 : decode c8_init 64 = .ok (.aload_n 0, 1) := by decide +kernel
theorem d8_init_65 : decode c8_init 65 = .ok (.bipush 8, 2) := by decide +kernel
theorem d8_init_67 : decode c8_init 67 = .ok (.newarray .int, 2) := by decide +kernel
theorem lp8_40 : Cond.fieldLink (RN 8) 40 (RN 8) (FT 8 10).2.1 (FT 8 10).2.2.1 ∈ T0 := T0_1 207 (by decide +kernel) rfl
theorem d8_init_69 : decode c8_init 69 = .ok (.putfield 40, 3) := by decide +kernel
theorem d8_init_72 : decode c8_init 72 = .ok (.aload_n 0, 1) := by decide +kernel
theorem d8_init_73 : decode c8_init 73 = .ok (.bipush 12, 2) := by decide +kernel
theorem d8_init_75 : decode c8_init 75 = .ok (.newarray .int, 2) := by decide +kernel
theorem lp8_43 : Cond.fieldLink (RN 8) 43 (RN 8) (FT 8 11).2.1 (FT 8 11).2.2.1 ∈ T0 := T0_1 209 (by decide +kernel) rfl
theorem d8_init_77 : decode c8_init 77 = .ok (.putfield 43, 3) := by decide +kernel
theorem d8_init_80 : decode c8_init 80 = .ok (.aload_n 0, 1) := by decide +kernel
theorem d8_init_81 : decode c8_init 81 = .ok (.bipush 12, 2) := by decide +kernel
theorem d8_init_83 : decode c8_init 83 = .ok (.newarray .int, 2) := by decide +kernel
theorem lp8_46 : Cond.fieldLink (RN 8) 46 (RN 8) (FT 8 12).2.1 (FT 8 12).2.2.1 ∈ T0 := T0_1 211 (by decide +kernel) rfl
theorem d8_init_85 : decode c8_init 85 = .ok (.putfield 46, 3) := by decide +kernel
theorem d8_init_88 : decode c8_init 88 = .ok (.aload_n 0, 1) := by decide +kernel
theorem d8_init_89 : decode c8_init 89 = .ok (.bipush 12, 2) := by decide +kernel
theorem d8_init_91 : decode c8_init 91 = .ok (.newarray .int, 2) := by decide +kernel
theorem lp8_49 : Cond.fieldLink (RN 8) 49 (RN 8) (FT 8 13).2.1 (FT 8 13).2.2.1 ∈ T0 := T0_1 213 (by decide +kernel) rfl
theorem d8_init_93 : decode c8_init 93 = .ok (.putfield 49, 3) := by decide +kernel
theorem d8_init_96 : decode c8_init 96 = .ok (.aload_n 0, 1) := by decide +kernel
theorem d8_init_97 : decode c8_init 97 = .ok (.bipush 12, 2) := by decide +kernel
theorem d8_init_99 : decode c8_init 99 = .ok (.newarray .int, 2) := by decide +kernel
theorem lp8_52 : Cond.fieldLink (RN 8) 52 (RN 8) (FT 8 14).2.1 (FT 8 14).2.2.1 ∈ T0 := T0_1 215 (by decide +kernel) rfl
theorem d8_init_101 : decode c8_init 101 = .ok (.putfield 52, 3) := by decide +kernel
theorem d8_init_104 : decode c8_init 104 = .ok (.aload_n 0, 1) := by decide +kernel
theorem d8_init_105 : decode c8_init 105 = .ok (.bipush 12, 2) := by decide +kernel
theorem d8_init_107 : decode c8_init 107 = .ok (.newarray .int, 2) := by decide +kernel
theorem lp8_55 : Cond.fieldLink (RN 8) 55 (RN 8) (FT 8 15).2.1 (FT 8 15).2.2.1 ∈ T0 := T0_1 217 (by decide +kernel) rfl
theorem d8_init_109 : decode c8_init 109 = .ok (.putfield 55, 3) := by decide +kernel
theorem d8_init_112 : decode c8_init 112 = .ok (.aload_n 0, 1) := by decide +kernel
theorem d8_init_113 : decode c8_init 113 = .ok (.bipush 12, 2) := by decide +kernel
theorem d8_init_115 : decode c8_init 115 = .ok (.newarray .int, 2) := by decide +kernel
theorem lp8_58 : Cond.fieldLink (RN 8) 58 (RN 8) (FT 8 16).2.1 (FT 8 16).2.2.1 ∈ T0 := T0_1 219 (by decide +kernel) rfl
theorem d8_init_117 : decode c8_init 117 = .ok (.putfield 58, 3) := by decide +kernel
theorem d8_init_120 : decode c8_init 120 = .ok (.aload_n 0, 1) := by decide +kernel
theorem d8_init_121 : decode c8_init 121 = .ok (.aload_n 1, 1) := by decide +kernel
theorem lp8_61 : Cond.fieldLink (RN 8) 61 (RN 8) (FT 8 0).2.1 (FT 8 0).2.2.1 ∈ T0 := T0_1 188 (by decide +kernel) rfl
theorem d8_init_122 : decode c8_init 122 = .ok (.putfield 61, 3) := by decide +kernel
theorem d8_init_125 : decode c8_init 125 = .ok (.return_, 1) := by decide +kernel
theorem mi9_init : Cond.instanceMethod y9_init ∈ T0 := T0_1 23 (by decide +kernel) rfl
theorem ma9_init : MFa y9_init c9_init 2 none 0 := ⟨T0_1 24 (by decide +kernel) rfl, T0_1 1 (by decide +kernel) rfl, by decide +kernel, by decide +kernel, by decide +kernel⟩
theorem wini9 : Cond.initialized (RN 9) ∈ T0 := T0_1 1 (by decide +kernel) rfl
theorem wins9 : Cond.instantiable (RN 9) (nf 9) ∈ T0 := T0_1 21 (by decide +kernel) rfl
theorem d9_init_0 : decode c9_init 0 = .ok (.aload_n 0, 1) := by decide +kernel
theorem lo9_3 : Cond.methodLink (RN 9) 3 Lib.objectInit ∈ T0 := T0_1 25 (by decide +kernel) rfl
theorem d9_init_1 : decode c9_init 1 = .ok (.invokespecial 3, 3) := by decide +kernel
theorem d9_init_4 : decode c9_init 4 = .ok (.aload_n 0, 1) := by decide +kernel
theorem wc9_9 : Cond.classLink (RN 9) 9 (RN 7) ∈ T0 := T0_1 28 (by decide +kernel) rfl
theorem d9_init_5 : decode c9_init 5 = .ok (.new 9, 3) := by decide +kernel
theorem d9_init_8 : decode c9_init 8 = .ok (.dup, 1) := by decide +kernel
theorem lm9_11 : LkM 9 11 y7_init := Or.inr ⟨"TeethingParish", NW_1 30 (by decide +kernel) rfl⟩
theorem d9_init_9 : decode c9_init 9 = .ok (.invokespecial 11, 3) := by decide +kernel
theorem lp9_12 : Cond.fieldLink (RN 9) 12 (RN 9) (FT 9 0).2.1 (FT 9 0).2.2.1 ∈ T0 := T0_2 219 (by decide +kernel) rfl
theorem d9_init_12 : decode c9_init 12 = .ok (.putfield 12, 3) := by decide +kernel
theorem d9_init_15 : decode c9_init 15 = .ok (.aload_n 0, 1) := by decide +kernel
theorem wc9_16 : Cond.classLink (RN 9) 16 (RN 4) ∈ T0 := T0_1 45 (by decide +kernel) rfl
theorem d9_init_16 : decode c9_init 16 = .ok (.new 16, 3) := by decide +kernel
theorem d9_init_19 : decode c9_init 19 = .ok (.dup, 1) := by decide +kernel
theorem d9_init_20 : decode c9_init 20 = .ok (.aload_n 0, 1) := by decide +kernel
theorem d9_init_21 : decode c9_init 21 = .ok (.getfield 12, 3) := by decide +kernel
theorem lm9_18 : LkM 9 18 y4_init := Or.inr ⟨"TeethingParish", NW_1 47 (by decide +kernel) rfl⟩
theorem d9_init_24 : decode c9_init 24 = .ok (.invokespecial 18, 3) := by decide +kernel
theorem lp9_21 : Cond.fieldLink (RN 9) 21 (RN 9) (FT 9 1).2.1 (FT 9 1).2.2.1 ∈ T0 := T0_2 220 (by decide +kernel) rfl
theorem d9_init_27 : decode c9_init 27 = .ok (.putfield 21, 3) := by decide +kernel
theorem d9_init_30 : decode c9_init 30 = .ok (.aload_n 0, 1) := by decide +kernel
theorem wc9_25 : Cond.classLink (RN 9) 25 (RN 2) ∈ T0 := T0_1 177 (by decide +kernel) rfl
theorem d9_init_31 : decode c9_init 31 = .ok (.new 25, 3) := by decide +kernel
theorem d9_init_34 : decode c9_init 34 = .ok (.dup, 1) := by decide +kernel
theorem lm9_27 : LkM 9 27 y2_init := Or.inr ⟨"TeethingParish", NW_1 178 (by decide +kernel) rfl⟩
theorem d9_init_35 : decode c9_init 35 = .ok (.invokespecial 27, 3) := by decide +kernel
theorem lp9_28 : Cond.fieldLink (RN 9) 28 (RN 9) (FT 9 2).2.1 (FT 9 2).2.2.1 ∈ T0 := T0_2 221 (by decide +kernel) rfl
theorem d9_init_38 : decode c9_init 38 = .ok (.putfield 28, 3) := by decide +kernel
theorem d9_init_41 : decode c9_init 41 = .ok (.aload_n 0, 1) := by decide +kernel
theorem d9_init_42 : decode c9_init 42 = .ok (.iconst 3, 1) := by decide +kernel
theorem d9_init_43 : decode c9_init 43 = .ok (.anewarray 25, 3) := by decide +kernel
theorem lp9_32 : Cond.fieldLink (RN 9) 32 (RN 9) (FT 9 3).2.1 (FT 9 3).2.2.1 ∈ T0 := T0_2 222 (by decide +kernel) rfl
theorem d9_init_46 : decode c9_init 46 = .ok (.putfield 32, 3) := by decide +kernel
theorem d9_init_49 : decode c9_init 49 = .ok (.aload_n 0, 1) := by decide +kernel
theorem d9_init_50 : decode c9_init 50 = .ok (.iconst 3, 1) := by decide +kernel
theorem d9_init_51 : decode c9_init 51 = .ok (.newarray .boolean, 2) := by decide +kernel
theorem lp9_36 : Cond.fieldLink (RN 9) 36 (RN 9) (FT 9 4).2.1 (FT 9 4).2.2.1 ∈ T0 := T0_2 223 (by decide +kernel) rfl
theorem d9_init_53 : decode c9_init 53 = .ok (.putfield 36, 3) := by decide +kernel
theorem d9_init_56 : decode c9_init 56 = .ok (.aload_n 0, 1) := by decide +kernel
theorem d9_init_57 : decode c9_init 57 = .ok (.iconst 4, 1) := by decide +kernel
theorem wc9_40 : Cond.classLink (RN 9) 40 (RN 5) ∈ T0 := T0_1 180 (by decide +kernel) rfl
theorem d9_init_58 : decode c9_init 58 = .ok (.anewarray 40, 3) := by decide +kernel
theorem lp9_42 : Cond.fieldLink (RN 9) 42 (RN 9) (FT 9 5).2.1 (FT 9 5).2.2.1 ∈ T0 := T0_2 224 (by decide +kernel) rfl
theorem d9_init_61 : decode c9_init 61 = .ok (.putfield 42, 3) := by decide +kernel
theorem d9_init_64 : decode c9_init 64 = .ok (.aload_n 0, 1) := by decide +kernel
theorem wc9_46 : Cond.classLink (RN 9) 46 (RN 8) ∈ T0 := T0_1 182 (by decide +kernel) rfl
theorem d9_init_65 : decode c9_init 65 = .ok (.new 46, 3) := by decide +kernel
theorem d9_init_68 : decode c9_init 68 = .ok (.dup, 1) := by decide +kernel
theorem d9_init_69 : decode c9_init 69 = .ok (.aload_n 0, 1) := by decide +kernel
theorem d9_init_70 : decode c9_init 70 = .ok (.getfield 28, 3) := by decide +kernel
theorem lm9_48 : LkM 9 48 y8_init := Or.inr ⟨"TeethingParish", NW_1 184 (by decide +kernel) rfl⟩
theorem d9_init_73 : decode c9_init 73 = .ok (.invokespecial 48, 3) := by decide +kernel
theorem lp9_51 : Cond.fieldLink (RN 9) 51 (RN 9) (FT 9 6).2.1 (FT 9 6).2.2.1 ∈ T0 := T0_2 225 (by decide +kernel) rfl
theorem d9_init_76 : decode c9_init 76 = .ok (.putfield 51, 3) := by decide +kernel
theorem d9_init_79 : decode c9_init 79 = .ok (.aload_n 0, 1) := by decide +kernel
theorem d9_init_80 : decode c9_init 80 = .ok (.new 46, 3) := by decide +kernel
theorem d9_init_83 : decode c9_init 83 = .ok (.dup, 1) := by decide +kernel
theorem d9_init_84 : decode c9_init 84 = .ok (.aload_n 0, 1) := by decide +kernel
theorem d9_init_85 : decode c9_init 85 = .ok (.getfield 28, 3) := by decide +kernel
theorem d9_init_88 : decode c9_init 88 = .ok (.invokespecial 48, 3) := by decide +kernel
theorem lp9_55 : Cond.fieldLink (RN 9) 55 (RN 9) (FT 9 7).2.1 (FT 9 7).2.2.1 ∈ T0 := T0_2 226 (by decide +kernel) rfl
theorem d9_init_91 : decode c9_init 91 = .ok (.putfield 55, 3) := by decide +kernel
theorem d9_init_94 : decode c9_init 94 = .ok (.aload_n 0, 1) := by decide +kernel
theorem wc9_58 : Cond.classLink (RN 9) 58 (RN 3) ∈ T0 := T0_2 18 (by decide +kernel) rfl
theorem d9_init_95 : decode c9_init 95 = .ok (.new 58, 3) := by decide +kernel
theorem d9_init_98 : decode c9_init 98 = .ok (.dup, 1) := by decide +kernel
theorem d9_init_99 : decode c9_init 99 = .ok (.aload_n 0, 1) := by decide +kernel
theorem d9_init_100 : decode c9_init 100 = .ok (.getfield 28, 3) := by decide +kernel
theorem lm9_60 : LkM 9 60 y3_init := Or.inr ⟨"TeethingParish", NW_2 20 (by decide +kernel) rfl⟩
theorem d9_init_103 : decode c9_init 103 = .ok (.invokespecial 60, 3) := by decide +kernel
theorem lp9_61 : Cond.fieldLink (RN 9) 61 (RN 9) (FT 9 8).2.1 (FT 9 8).2.2.1 ∈ T0 := T0_2 227 (by decide +kernel) rfl
theorem d9_init_106 : decode c9_init 106 = .ok (.putfield 61, 3) := by decide +kernel
theorem d9_init_109 : decode c9_init 109 = .ok (.aload_n 0, 1) := by decide +kernel
theorem wc9_65 : Cond.classLink (RN 9) 65 (RN 0) ∈ T0 := T0_2 68 (by decide +kernel) rfl
theorem d9_init_110 : decode c9_init 110 = .ok (.new 65, 3) := by decide +kernel
theorem d9_init_113 : decode c9_init 113 = .ok (.dup, 1) := by decide +kernel
theorem d9_init_114 : decode c9_init 114 = .ok (.aload_n 0, 1) := by decide +kernel
theorem d9_init_115 : decode c9_init 115 = .ok (.getfield 28, 3) := by decide +kernel
theorem lm9_67 : LkM 9 67 y0_init := Or.inr ⟨"TeethingParish", NW_2 70 (by decide +kernel) rfl⟩
theorem d9_init_118 : decode c9_init 118 = .ok (.invokespecial 67, 3) := by decide +kernel
theorem lp9_68 : Cond.fieldLink (RN 9) 68 (RN 9) (FT 9 9).2.1 (FT 9 9).2.2.1 ∈ T0 := T0_2 228 (by decide +kernel) rfl
theorem d9_init_121 : decode c9_init 121 = .ok (.putfield 68, 3) := by decide +kernel
theorem d9_init_124 : decode c9_init 124 = .ok (.aload_n 0, 1) := by decide +kernel
theorem wc9_72 : Cond.classLink (RN 9) 72 (RN 1) ∈ T0 := T0_2 106 (by decide +kernel) rfl
theorem d9_init_125 : decode c9_init 125 = .ok (.new 72, 3) := by decide +kernel
theorem d9_init_128 : decode c9_init 128 = .ok (.dup, 1) := by decide +kernel
theorem d9_init_129 : decode c9_init 129 = .ok (.aload_n 0, 1) := by decide +kernel
theorem d9_init_130 : decode c9_init 130 = .ok (.getfield 28, 3) := by decide +kernel
theorem lm9_74 : LkM 9 74 y1_init := Or.inr ⟨"TeethingParish", NW_2 108 (by decide +kernel) rfl⟩
theorem d9_init_133 : decode c9_init 133 = .ok (.invokespecial 74, 3) := by decide +kernel
theorem lp9_75 : Cond.fieldLink (RN 9) 75 (RN 9) (FT 9 10).2.1 (FT 9 10).2.2.1 ∈ T0 := T0_2 229 (by decide +kernel) rfl
theorem d9_init_136 : decode c9_init 136 = .ok (.putfield 75, 3) := by decide +kernel
theorem d9_init_139 : decode c9_init 139 = .ok (.aload_n 0, 1) := by decide +kernel
theorem wc9_79 : Cond.classLink (RN 9) 79 (RN 6) ∈ T0 := T0_2 127 (by decide +kernel) rfl
theorem d9_init_140 : decode c9_init 140 = .ok (.new 79, 3) := by decide +kernel
theorem d9_init_143 : decode c9_init 143 = .ok (.dup, 1) := by decide +kernel
theorem d9_init_144 : decode c9_init 144 = .ok (.aload_n 0, 1) := by decide +kernel
theorem d9_init_145 : decode c9_init 145 = .ok (.getfield 28, 3) := by decide +kernel
theorem lm9_81 : LkM 9 81 y6_init := Or.inr ⟨"TeethingParish", NW_2 129 (by decide +kernel) rfl⟩
theorem d9_init_148 : decode c9_init 148 = .ok (.invokespecial 81, 3) := by decide +kernel
theorem lp9_82 : Cond.fieldLink (RN 9) 82 (RN 9) (FT 9 11).2.1 (FT 9 11).2.2.1 ∈ T0 := T0_2 230 (by decide +kernel) rfl
theorem d9_init_151 : decode c9_init 151 = .ok (.putfield 82, 3) := by decide +kernel
theorem d9_init_154 : decode c9_init 154 = .ok (.aload_n 0, 1) := by decide +kernel
theorem d9_init_155 : decode c9_init 155 = .ok (.bipush 16, 2) := by decide +kernel
theorem d9_init_157 : decode c9_init 157 = .ok (.newarray .int, 2) := by decide +kernel
theorem lp9_86 : Cond.fieldLink (RN 9) 86 (RN 9) (FT 9 12).2.1 (FT 9 12).2.2.1 ∈ T0 := T0_2 231 (by decide +kernel) rfl
theorem d9_init_159 : decode c9_init 159 = .ok (.putfield 86, 3) := by decide +kernel
theorem d9_init_162 : decode c9_init 162 = .ok (.aload_n 0, 1) := by decide +kernel
theorem d9_init_163 : decode c9_init 163 = .ok (.bipush 16, 2) := by decide +kernel
theorem d9_init_165 : decode c9_init 165 = .ok (.newarray .int, 2) := by decide +kernel
theorem lp9_90 : Cond.fieldLink (RN 9) 90 (RN 9) (FT 9 13).2.1 (FT 9 13).2.2.1 ∈ T0 := T0_2 232 (by decide +kernel) rfl
theorem d9_init_167 : decode c9_init 167 = .ok (.putfield 90, 3) := by decide +kernel
theorem d9_init_170 : decode c9_init 170 = .ok (.iconst 0, 1) := by decide +kernel
theorem d9_init_171 : decode c9_init 171 = .ok (.istore_n 1, 1) := by decide +kernel
theorem d9_init_172 : decode c9_init 172 = .ok (.iload_n 1, 1) := by decide +kernel
theorem d9_init_173 : decode c9_init 173 = .ok (.iconst 3, 1) := by decide +kernel
theorem d9_init_174 : decode c9_init 174 = .ok (.if_icmp .ge 22, 3) := by decide +kernel
theorem d9_init_177 : decode c9_init 177 = .ok (.aload_n 0, 1) := by decide +kernel
theorem d9_init_178 : decode c9_init 178 = .ok (.getfield 32, 3) := by decide +kernel
theorem d9_init_181 : decode c9_init 181 = .ok (.iload_n 1, 1) := by decide +kernel
theorem d9_init_182 : decode c9_init 182 = .ok (.new 25, 3) := by decide +kernel
theorem d9_init_185 : decode c9_init 185 = .ok (.dup, 1) := by decide +kernel
theorem d9_init_186 : decode c9_init 186 = .ok (.invokespecial 27, 3) := by decide +kernel
theorem d9_init_189 : decode c9_init 189 = .ok (.aastore, 1) := by decide +kernel
theorem d9_init_190 : decode c9_init 190 = .ok (.iinc 1 1, 3) := by decide +kernel
theorem d9_init_193 : decode c9_init 193 = .ok (.goto (-21), 3) := by decide +kernel
theorem d9_init_196 : decode c9_init 196 = .ok (.iconst 0, 1) := by decide +kernel
theorem d9_init_197 : decode c9_init 197 = .ok (.istore_n 1, 1) := by decide +kernel
theorem d9_init_198 : decode c9_init 198 = .ok (.iload_n 1, 1) := by decide +kernel
theorem d9_init_199 : decode c9_init 199 = .ok (.iconst 4, 1) := by decide +kernel
theorem d9_init_200 : decode c9_init 200 = .ok (.if_icmp .ge 22, 3) := by decide +kernel
theorem d9_init_203 : decode c9_init 203 = .ok (.aload_n 0, 1) := by decide +kernel
theorem d9_init_204 : decode c9_init 204 = .ok (.getfield 42, 3) := by decide +kernel
theorem d9_init_207 : decode c9_init 207 = .ok (.iload_n 1, 1) := by decide +kernel
theorem d9_init_208 : decode c9_init 208 = .ok (.new 40, 3) := by decide +kernel
theorem d9_init_211 : decode c9_init 211 = .ok (.dup, 1) := by decide +kernel
theorem lm9_93 : LkM 9 93 y5_init := Or.inr ⟨"TeethingParish", NW_2 161 (by decide +kernel) rfl⟩
theorem d9_init_212 : decode c9_init 212 = .ok (.invokespecial 93, 3) := by decide +kernel
theorem d9_init_215 : decode c9_init 215 = .ok (.aastore, 1) := by decide +kernel
theorem d9_init_216 : decode c9_init 216 = .ok (.iinc 1 1, 3) := by decide +kernel
theorem d9_init_219 : decode c9_init 219 = .ok (.goto (-21), 3) := by decide +kernel
theorem d9_init_222 : decode c9_init 222 = .ok (.aload_n 0, 1) := by decide +kernel
theorem d9_init_223 : decode c9_init 223 = .ok (.invokevirtual 94, 3) := by decide +kernel
theorem d9_init_226 : decode c9_init 226 = .ok (.return_, 1) := by decide +kernel
theorem mi10_init : Cond.instanceMethod y10_init ∈ T0 := T0_5 239 (by decide +kernel) rfl
theorem ma10_init : MFa y10_init c10_init 1 none 0 := ⟨T0_6 0 (by decide +kernel) rfl, T0_1 14 (by decide +kernel) rfl, by decide +kernel, by decide +kernel, by decide +kernel⟩
theorem wini10 : Cond.initialized (RN 10) ∈ T0 := T0_1 14 (by decide +kernel) rfl
theorem wins10 : Cond.instantiable (RN 10) (nf 10) ∈ T0 := T0_5 237 (by decide +kernel) rfl
theorem d10_init_0 : decode c10_init 0 = .ok (.aload_n 0, 1) := by decide +kernel
theorem lo10_3 : Cond.methodLink (RN 10) 3 Lib.objectInit ∈ T0 := T0_6 1 (by decide +kernel) rfl
theorem d10_init_1 : decode c10_init 1 = .ok (.invokespecial 3, 3) := by decide +kernel
theorem d10_init_4 : decode c10_init 4 = .ok (.aload_n 0, 1) := by decide +kernel
theorem d10_init_5 : decode c10_init 5 = .ok (.bipush 72, 2) := by decide +kernel
theorem d10_init_7 : decode c10_init 7 = .ok (.newarray .int, 2) := by decide +kernel
theorem lp10_9 : Cond.fieldLink (RN 10) 9 (RN 10) (FT 10 1).2.1 (FT 10 1).2.2.1 ∈ T0 := T0_6 2 (by decide +kernel) rfl
theorem d10_init_9 : decode c10_init 9 = .ok (.putfield 9, 3) := by decide +kernel
theorem d10_init_12 : decode c10_init 12 = .ok (.aload_n 0, 1) := by decide +kernel
theorem d10_init_13 : decode c10_init 13 = .ok (.sipush 216, 3) := by decide +kernel
theorem d10_init_16 : decode c10_init 16 = .ok (.newarray .int, 2) := by decide +kernel
theorem lp10_13 : Cond.fieldLink (RN 10) 13 (RN 10) (FT 10 2).2.1 (FT 10 2).2.2.1 ∈ T0 := T0_6 3 (by decide +kernel) rfl
theorem d10_init_18 : decode c10_init 18 = .ok (.putfield 13, 3) := by decide +kernel
theorem d10_init_21 : decode c10_init 21 = .ok (.aload_n 0, 1) := by decide +kernel
theorem d10_init_22 : decode c10_init 22 = .ok (.iconst 3, 1) := by decide +kernel
theorem d10_init_23 : decode c10_init 23 = .ok (.newarray .boolean, 2) := by decide +kernel
theorem lp10_16 : Cond.fieldLink (RN 10) 16 (RN 10) (FT 10 3).2.1 (FT 10 3).2.2.1 ∈ T0 := T0_6 4 (by decide +kernel) rfl
theorem d10_init_25 : decode c10_init 25 = .ok (.putfield 16, 3) := by decide +kernel
theorem d10_init_28 : decode c10_init 28 = .ok (.aload_n 0, 1) := by decide +kernel
theorem d10_init_29 : decode c10_init 29 = .ok (.sipush 700, 3) := by decide +kernel
theorem d10_init_32 : decode c10_init 32 = .ok (.newarray .byte, 2) := by decide +kernel
theorem lp10_20 : Cond.fieldLink (RN 10) 20 (RN 10) (FT 10 4).2.1 (FT 10 4).2.2.1 ∈ T0 := T0_6 5 (by decide +kernel) rfl
theorem d10_init_34 : decode c10_init 34 = .ok (.putfield 20, 3) := by decide +kernel
theorem d10_init_37 : decode c10_init 37 = .ok (.aload_n 0, 1) := by decide +kernel
theorem d10_init_38 : decode c10_init 38 = .ok (.iconst 5, 1) := by decide +kernel
theorem d10_init_39 : decode c10_init 39 = .ok (.newarray .int, 2) := by decide +kernel
theorem lp10_24 : Cond.fieldLink (RN 10) 24 (RN 10) (FT 10 6).2.1 (FT 10 6).2.2.1 ∈ T0 := T0_6 7 (by decide +kernel) rfl
theorem d10_init_41 : decode c10_init 41 = .ok (.putfield 24, 3) := by decide +kernel
theorem d10_init_44 : decode c10_init 44 = .ok (.aload_n 0, 1) := by decide +kernel
theorem d10_init_45 : decode c10_init 45 = .ok (.iconst (-1), 1) := by decide +kernel
theorem d10_init_46 : decode c10_init 46 = .ok (.putfield 27, 3) := by decide +kernel
theorem d10_init_49 : decode c10_init 49 = .ok (.aload_n 0, 1) := by decide +kernel
theorem d10_init_50 : decode c10_init 50 = .ok (.bipush 72, 2) := by decide +kernel
theorem d10_init_52 : decode c10_init 52 = .ok (.newarray .int, 2) := by decide +kernel
theorem lp10_31 : Cond.fieldLink (RN 10) 31 (RN 10) (FT 10 14).2.1 (FT 10 14).2.2.1 ∈ T0 := T0_6 15 (by decide +kernel) rfl
theorem d10_init_54 : decode c10_init 54 = .ok (.putfield 31, 3) := by decide +kernel
theorem d10_init_57 : decode c10_init 57 = .ok (.aload_n 0, 1) := by decide +kernel
theorem d10_init_58 : decode c10_init 58 = .ok (.bipush 8, 2) := by decide +kernel
theorem d10_init_60 : decode c10_init 60 = .ok (.newarray .int, 2) := by decide +kernel
theorem lp10_34 : Cond.fieldLink (RN 10) 34 (RN 10) (FT 10 15).2.1 (FT 10 15).2.2.1 ∈ T0 := T0_6 16 (by decide +kernel) rfl
theorem d10_init_62 : decode c10_init 62 = .ok (.putfield 34, 3) := by decide +kernel
theorem d10_init_65 : decode c10_init 65 = .ok (.aload_n 0, 1) := by decide +kernel
theorem d10_init_66 : decode c10_init 66 = .ok (.bipush 8, 2) := by decide +kernel
theorem d10_init_68 : decode c10_init 68 = .ok (.newarray .int, 2) := by decide +kernel
theorem lp10_37 : Cond.fieldLink (RN 10) 37 (RN 10) (FT 10 16).2.1 (FT 10 16).2.2.1 ∈ T0 := T0_6 17 (by decide +kernel) rfl
theorem d10_init_70 : decode c10_init 70 = .ok (.putfield 37, 3) := by decide +kernel
theorem d10_init_73 : decode c10_init 73 = .ok (.aload_n 0, 1) := by decide +kernel
theorem d10_init_74 : decode c10_init 74 = .ok (.bipush 8, 2) := by decide +kernel
theorem d10_init_76 : decode c10_init 76 = .ok (.newarray .int, 2) := by decide +kernel
theorem lp10_40 : Cond.fieldLink (RN 10) 40 (RN 10) (FT 10 17).2.1 (FT 10 17).2.2.1 ∈ T0 := T0_6 18 (by decide +kernel) rfl
theorem d10_init_78 : decode c10_init 78 = .ok (.putfield 40, 3) := by decide +kernel
theorem d10_init_81 : decode c10_init 81 = .ok (.aload_n 0, 1) := by decide +kernel
theorem d10_init_82 : decode c10_init 82 = .ok (.bipush 8, 2) := by decide +kernel
theorem d10_init_84 : decode c10_init 84 = .ok (.newarray .int, 2) := by decide +kernel
theorem lp10_43 : Cond.fieldLink (RN 10) 43 (RN 10) (FT 10 18).2.1 (FT 10 18).2.2.1 ∈ T0 := T0_6 19 (by decide +kernel) rfl
theorem d10_init_86 : decode c10_init 86 = .ok (.putfield 43, 3) := by decide +kernel
theorem d10_init_89 : decode c10_init 89 = .ok (.aload_n 0, 1) := by decide +kernel
theorem d10_init_90 : decode c10_init 90 = .ok (.bipush 8, 2) := by decide +kernel
theorem d10_init_92 : decode c10_init 92 = .ok (.newarray .int, 2) := by decide +kernel
theorem lp10_46 : Cond.fieldLink (RN 10) 46 (RN 10) (FT 10 23).2.1 (FT 10 23).2.2.1 ∈ T0 := T0_6 24 (by decide +kernel) rfl
theorem d10_init_94 : decode c10_init 94 = .ok (.putfield 46, 3) := by decide +kernel
theorem d10_init_97 : decode c10_init 97 = .ok (.aload_n 0, 1) := by decide +kernel
theorem d10_init_98 : decode c10_init 98 = .ok (.bipush 12, 2) := by decide +kernel
theorem d10_init_100 : decode c10_init 100 = .ok (.newarray .int, 2) := by decide +kernel
theorem lp10_49 : Cond.fieldLink (RN 10) 49 (RN 10) (FT 10 24).2.1 (FT 10 24).2.2.1 ∈ T0 := T0_6 25 (by decide +kernel) rfl
theorem d10_init_102 : decode c10_init 102 = .ok (.putfield 49, 3) := by decide +kernel
theorem d10_init_105 : decode c10_init 105 = .ok (.aload_n 0, 1) := by decide +kernel
theorem d10_init_106 : decode c10_init 106 = .ok (.bipush 12, 2) := by decide +kernel
theorem d10_init_108 : decode c10_init 108 = .ok (.newarray .int, 2) := by decide +kernel
theorem lp10_52 : Cond.fieldLink (RN 10) 52 (RN 10) (FT 10 25).2.1 (FT 10 25).2.2.1 ∈ T0 := T0_6 26 (by decide +kernel) rfl
theorem d10_init_110 : decode c10_init 110 = .ok (.putfield 52, 3) := by decide +kernel
theorem d10_init_113 : decode c10_init 113 = .ok (.aload_n 0, 1) := by decide +kernel
theorem d10_init_114 : decode c10_init 114 = .ok (.bipush 12, 2) := by decide +kernel
theorem d10_init_116 : decode c10_init 116 = .ok (.newarray .int, 2) := by decide +kernel
theorem lp10_55 : Cond.fieldLink (RN 10) 55 (RN 10) (FT 10 26).2.1 (FT 10 26).2.2.1 ∈ T0 := T0_6 27 (by decide +kernel) rfl
theorem d10_init_118 : decode c10_init 118 = .ok (.putfield 55, 3) := by decide +kernel
theorem d10_init_121 : decode c10_init 121 = .ok (.aload_n 0, 1) := by decide +kernel
theorem d10_init_122 : decode c10_init 122 = .ok (.bipush 8, 2) := by decide +kernel
theorem d10_init_124 : decode c10_init 124 = .ok (.newarray .int, 2) := by decide +kernel
theorem lp10_58 : Cond.fieldLink (RN 10) 58 (RN 10) (FT 10 28).2.1 (FT 10 28).2.2.1 ∈ T0 := T0_6 29 (by decide +kernel) rfl
theorem d10_init_126 : decode c10_init 126 = .ok (.putfield 58, 3) := by decide +kernel
theorem d10_init_129 : decode c10_init 129 = .ok (.aload_n 0, 1) := by decide +kernel
theorem d10_init_130 : decode c10_init 130 = .ok (.sipush 256, 3) := by decide +kernel
theorem d10_init_133 : decode c10_init 133 = .ok (.newarray .int, 2) := by decide +kernel
theorem lp10_61 : Cond.fieldLink (RN 10) 61 (RN 10) (FT 10 29).2.1 (FT 10 29).2.2.1 ∈ T0 := T0_6 30 (by decide +kernel) rfl
theorem d10_init_135 : decode c10_init 135 = .ok (.putfield 61, 3) := by decide +kernel
theorem d10_init_138 : decode c10_init 138 = .ok (.aload_n 0, 1) := by decide +kernel
theorem d10_init_139 : decode c10_init 139 = .ok (.sipush 256, 3) := by decide +kernel
theorem d10_init_142 : decode c10_init 142 = .ok (.newarray .int, 2) := by decide +kernel
theorem lp10_64 : Cond.fieldLink (RN 10) 64 (RN 10) (FT 10 30).2.1 (FT 10 30).2.2.1 ∈ T0 := T0_6 31 (by decide +kernel) rfl
theorem d10_init_144 : decode c10_init 144 = .ok (.putfield 64, 3) := by decide +kernel
theorem d10_init_147 : decode c10_init 147 = .ok (.aload_n 0, 1) := by decide +kernel
theorem d10_init_148 : decode c10_init 148 = .ok (.sipush 3328, 3) := by decide +kernel
theorem d10_init_151 : decode c10_init 151 = .ok (.newarray .int, 2) := by decide +kernel
theorem lp10_67 : Cond.fieldLink (RN 10) 67 (RN 10) (FT 10 31).2.1 (FT 10 31).2.2.1 ∈ T0 := T0_6 32 (by decide +kernel) rfl
theorem d10_init_153 : decode c10_init 153 = .ok (.putfield 67, 3) := by decide +kernel
theorem d10_init_156 : decode c10_init 156 = .ok (.aload_n 0, 1) := by decide +kernel
theorem d10_init_157 : decode c10_init 157 = .ok (.sipush 3328, 3) := by decide +kernel
theorem d10_init_160 : decode c10_init 160 = .ok (.newarray .long, 2) := by decide +kernel
theorem lp10_70 : Cond.fieldLink (RN 10) 70 (RN 10) (FT 10 32).2.1 (FT 10 32).2.2.1 ∈ T0 := T0_6 33 (by decide +kernel) rfl
theorem d10_init_162 : decode c10_init 162 = .ok (.putfield 70, 3) := by decide +kernel
theorem d10_init_165 : decode c10_init 165 = .ok (.aload_n 0, 1) := by decide +kernel
theorem d10_init_166 : decode c10_init 166 = .ok (.bipush 8, 2) := by decide +kernel
theorem d10_init_168 : decode c10_init 168 = .ok (.newarray .int, 2) := by decide +kernel
theorem lp10_74 : Cond.fieldLink (RN 10) 74 (RN 10) (FT 10 33).2.1 (FT 10 33).2.2.1 ∈ T0 := T0_6 34 (by decide +kernel) rfl
theorem d10_init_170 : decode c10_init 170 = .ok (.putfield 74, 3) := by decide +kernel
theorem d10_init_173 : decode c10_init 173 = .ok (.aload_n 0, 1) := by decide +kernel
theorem d10_init_174 : decode c10_init 174 = .ok (.sipush 2304, 3) := by decide +kernel
theorem d10_init_177 : decode c10_init 177 = .ok (.newarray .int, 2) := by decide +kernel
theorem lp10_77 : Cond.fieldLink (RN 10) 77 (RN 10) (FT 10 37).2.1 (FT 10 37).2.2.1 ∈ T0 := T0_6 38 (by decide +kernel) rfl
theorem d10_init_179 : decode c10_init 179 = .ok (.putfield 77, 3) := by decide +kernel
theorem d10_init_182 : decode c10_init 182 = .ok (.aload_n 0, 1) := by decide +kernel
theorem d10_init_183 : decode c10_init 183 = .ok (.bipush 8, 2) := by decide +kernel
theorem d10_init_185 : decode c10_init 185 = .ok (.newarray .int, 2) := by decide +kernel
theorem lp10_80 : Cond.fieldLink (RN 10) 80 (RN 10) (FT 10 38).2.1 (FT 10 38).2.2.1 ∈ T0 := T0_6 39 (by decide +kernel) rfl
theorem d10_init_187 : decode c10_init 187 = .ok (.putfield 80, 3) := by decide +kernel
theorem d10_init_190 : decode c10_init 190 = .ok (.aload_n 0, 1) := by decide +kernel
theorem d10_init_191 : decode c10_init 191 = .ok (.bipush 108, 2) := by decide +kernel
theorem d10_init_193 : decode c10_init 193 = .ok (.newarray .int, 2) := by decide +kernel
theorem lp10_83 : Cond.fieldLink (RN 10) 83 (RN 10) (FT 10 39).2.1 (FT 10 39).2.2.1 ∈ T0 := T0_6 40 (by decide +kernel) rfl
theorem d10_init_195 : decode c10_init 195 = .ok (.putfield 83, 3) := by decide +kernel
theorem d10_init_198 : decode c10_init 198 = .ok (.aload_n 0, 1) := by decide +kernel
theorem d10_init_199 : decode c10_init 199 = .ok (.sipush 256, 3) := by decide +kernel
theorem d10_init_202 : decode c10_init 202 = .ok (.newarray .int, 2) := by decide +kernel
theorem lp10_86 : Cond.fieldLink (RN 10) 86 (RN 10) (FT 10 41).2.1 (FT 10 41).2.2.1 ∈ T0 := T0_6 42 (by decide +kernel) rfl
theorem d10_init_204 : decode c10_init 204 = .ok (.putfield 86, 3) := by decide +kernel
theorem d10_init_207 : decode c10_init 207 = .ok (.aload_n 0, 1) := by decide +kernel
theorem d10_init_208 : decode c10_init 208 = .ok (.bipush 32, 2) := by decide +kernel
theorem d10_init_210 : decode c10_init 210 = .ok (.newarray .int, 2) := by decide +kernel
theorem lp10_89 : Cond.fieldLink (RN 10) 89 (RN 10) (FT 10 42).2.1 (FT 10 42).2.2.1 ∈ T0 := T0_6 43 (by decide +kernel) rfl
theorem d10_init_212 : decode c10_init 212 = .ok (.putfield 89, 3) := by decide +kernel
theorem d10_init_215 : decode c10_init 215 = .ok (.aload_n 0, 1) := by decide +kernel
theorem d10_init_216 : decode c10_init 216 = .ok (.iconst 4, 1) := by decide +kernel
theorem d10_init_217 : decode c10_init 217 = .ok (.newarray .int, 2) := by decide +kernel
theorem d10_init_219 : decode c10_init 219 = .ok (.dup, 1) := by decide +kernel
theorem d10_init_220 : decode c10_init 220 = .ok (.iconst 0, 1) := by decide +kernel
theorem d10_init_221 : decode c10_init 221 = .ok (.iconst (-1), 1) := by decide +kernel
theorem d10_init_222 : decode c10_init 222 = .ok (.iastore, 1) := by decide +kernel
theorem d10_init_223 : decode c10_init 223 = .ok (.dup, 1) := by decide +kernel
theorem d10_init_224 : decode c10_init 224 = .ok (.iconst 1, 1) := by decide +kernel
theorem d10_init_225 : decode c10_init 225 = .ok (.iconst (-1), 1) := by decide +kernel
theorem d10_init_226 : decode c10_init 226 = .ok (.iastore, 1) := by decide +kernel
theorem d10_init_227 : decode c10_init 227 = .ok (.dup, 1) := by decide +kernel
theorem d10_init_228 : decode c10_init 228 = .ok (.iconst 2, 1) := by decide +kernel
theorem d10_init_229 : decode c10_init 229 = .ok (.iconst (-1), 1) := by decide +kernel
theorem d10_init_230 : decode c10_init 230 = .ok (.iastore, 1) := by decide +kernel
theorem d10_init_231 : decode c10_init 231 = .ok (.dup, 1) := by decide +kernel
theorem d10_init_232 : decode c10_init 232 = .ok (.iconst 3, 1) := by decide +kernel
theorem d10_init_233 : decode c10_init 233 = .ok (.iconst (-1), 1) := by decide +kernel
theorem d10_init_234 : decode c10_init 234 = .ok (.iastore, 1) := by decide +kernel
theorem lp10_92 : Cond.fieldLink (RN 10) 92 (RN 10) (FT 10 43).2.1 (FT 10 43).2.2.1 ∈ T0 := T0_6 44 (by decide +kernel) rfl
theorem d10_init_235 : decode c10_init 235 = .ok (.putfield 92, 3) := by decide +kernel
theorem d10_init_238 : decode c10_init 238 = .ok (.aload_n 0, 1) := by decide +kernel
theorem d10_init_239 : decode c10_init 239 = .ok (.iconst 4, 1) := by decide +kernel
theorem d10_init_240 : decode c10_init 240 = .ok (.newarray .int, 2) := by decide +kernel
theorem lp10_95 : Cond.fieldLink (RN 10) 95 (RN 10) (FT 10 44).2.1 (FT 10 44).2.2.1 ∈ T0 := T0_6 45 (by decide +kernel) rfl
theorem d10_init_242 : decode c10_init 242 = .ok (.putfield 95, 3) := by decide +kernel
theorem d10_init_245 : decode c10_init 245 = .ok (.aload_n 0, 1) := by decide +kernel
theorem d10_init_246 : decode c10_init 246 = .ok (.sipush 240, 3) := by decide +kernel
theorem d10_init_249 : decode c10_init 249 = .ok (.newarray .long, 2) := by decide +kernel
theorem lp10_98 : Cond.fieldLink (RN 10) 98 (RN 10) (FT 10 45).2.1 (FT 10 45).2.2.1 ∈ T0 := T0_6 46 (by decide +kernel) rfl
theorem d10_init_251 : decode c10_init 251 = .ok (.putfield 98, 3) := by decide +kernel
theorem d10_init_254 : decode c10_init 254 = .ok (.aload_n 0, 1) := by decide +kernel
theorem d10_init_255 : decode c10_init 255 = .ok (.bipush 60, 2) := by decide +kernel
theorem d10_init_257 : decode c10_init 257 = .ok (.newarray .long, 2) := by decide +kernel
theorem lp10_101 : Cond.fieldLink (RN 10) 101 (RN 10) (FT 10 46).2.1 (FT 10 46).2.2.1 ∈ T0 := T0_6 47 (by decide +kernel) rfl
theorem d10_init_259 : decode c10_init 259 = .ok (.putfield 101, 3) := by decide +kernel
theorem d10_init_262 : decode c10_init 262 = .ok (.return_, 1) := by decide +kernel
def rc1 (ρ : Rho) : Rho := (rset ρ 1 0 3)
set_option maxHeartbeats 4000000 in
theorem okc1 {l : Launch} {X : XT} {ρ : Rho} {D : Mem} {Q : Option Value → Nat → Rho → Mem → Prop} (hfr : Fr 1 ρ D) (h : Fr 3 (rc1 ρ) D → Q none 3 (rc1 ρ) D) : MOK l y7_init c7_init 1 none { frames := 1, cells := 1, slots := 700, locals := 20 } 1 700 X [vR X 1] 2 ρ D Q := by
  refine MOK_of 7 (by decide +kernel) rfl (lv := [(0, vR X 1)]) (Nat.le_of_ble_eq_true rfl) rfl (fun K hK F hnm => ?_)
  subst hK
  have hf0 : Fr 2 ρ D := hfr.mono (by decide)
  refine r_aload_nR F 0 rfl rfl d7_init_0 ?_
  refine r_objInit F lo7_3 wi1 wi2 ⟨Nat.le_of_ble_eq_true rfl, Nat.le_of_ble_eq_true rfl⟩ d7_init_1 ?_
  refine r_aload_nR F 0 rfl rfl d7_init_4 ?_
  refine r_sipush F (z := 700) (by decide) d7_init_5 ?_
  refine r_newB F (n := 2) (len := 700) wa_byte rfl rfl (Nat.le_of_ble_eq_true rfl) hf0 ⟨Nat.le_of_ble_eq_true rfl, Nat.le_of_ble_eq_true rfl⟩ d7_init_8 ?_
  have hf1 := (hf0.mono (m' := 3) (by decide))
  refine r_putR F hnm (j := 0) (by decide) (by decide) rfl rfl lp7_9 (fun _ => ⟨rfl, rfl⟩) ⟨rfl, by decide⟩ d7_init_10 ?_
  have hf2 := (hf1.rset (c := 1) (i := 0) (v := 2 + 1) (by decide) (by decide))
  refine r_aload_nR F 0 rfl rfl d7_init_13 ?_
  refine r_iconst F (z := 0) d7_init_14 ?_
  refine r_putI0 F (hfr.1 1 (Nat.le_refl _) 1).2 lf7_15 rfl rfl ⟨rfl, by decide⟩ d7_init_15 ?_
  exact r_vret F (h hf2) d7_init_18
def rc4 (ρ : Rho) : Rho := (rset (rset (rset (rset (rset (rset (rset ρ 4 10 6) 4 11 7) 4 12 8) 4 13 9) 4 14 10) 4 15 11) 4 16 12)
set_option maxHeartbeats 4000000 in
theorem okc4 {l : Launch} {X : XT} {ρ : Rho} {D : Mem} {Q : Option Value → Nat → Rho → Mem → Prop} (hfr : Fr 4 ρ D) (h : Fr 12 (rc4 ρ) D → Q none 12 (rc4 ρ) D) : MOK l y2_init c2_init 1 none { frames := 1, cells := 7, slots := 122, locals := 20 } 7 122 X [vR X 4] 5 ρ D Q := by
  refine MOK_of 2 (by decide +kernel) rfl (lv := [(0, vR X 4)]) (Nat.le_of_ble_eq_true rfl) rfl (fun K hK F hnm => ?_)
  subst hK
  have hf0 : Fr 5 ρ D := hfr.mono (by decide)
  refine r_aload_nR F 0 rfl rfl d2_init_0 ?_
  refine r_objInit F lo2_3 wi1 wi2 ⟨Nat.le_of_ble_eq_true rfl, Nat.le_of_ble_eq_true rfl⟩ d2_init_1 ?_
  refine r_aload_nR F 0 rfl rfl d2_init_4 ?_
  refine r_iconst F (z := 0) d2_init_5 ?_
  refine r_putI0 F (hfr.1 4 (Nat.le_refl _) 0).2 lf2_9 rfl rfl ⟨rfl, by decide⟩ d2_init_6 ?_
  refine r_aload_nR F 0 rfl rfl d2_init_9 ?_
  refine r_iconst F (z := 0) d2_init_10 ?_
  refine r_putI0 F (hfr.1 4 (Nat.le_refl _) 1).2 lf2_15 rfl rfl ⟨rfl, by decide⟩ d2_init_11 ?_
  refine r_aload_nR F 0 rfl rfl d2_init_14 ?_
  refine r_iconst F (z := 0) d2_init_15 ?_
  refine r_putI0 F (hfr.1 4 (Nat.le_refl _) 2).2 lf2_18 rfl rfl ⟨rfl, by decide⟩ d2_init_16 ?_
  refine r_aload_nR F 0 rfl rfl d2_init_19 ?_
  refine r_iconst F (z := 0) d2_init_20 ?_
  refine r_putI0 F (hfr.1 4 (Nat.le_refl _) 3).2 lf2_21 rfl rfl ⟨rfl, by decide⟩ d2_init_21 ?_
  refine r_aload_nR F 0 rfl rfl d2_init_24 ?_
  refine r_iconst F (z := 0) d2_init_25 ?_
  refine r_putI0 F (hfr.1 4 (Nat.le_refl _) 4).2 lf2_24 rfl rfl ⟨rfl, by decide⟩ d2_init_26 ?_
  refine r_aload_nR F 0 rfl rfl d2_init_29 ?_
  refine r_iconst F (z := 0) d2_init_30 ?_
  refine r_putI0 F (hfr.1 4 (Nat.le_refl _) 5).2 lf2_27 rfl rfl ⟨rfl, by decide⟩ d2_init_31 ?_
  refine r_aload_nR F 0 rfl rfl d2_init_34 ?_
  refine r_iconst F (z := 0) d2_init_35 ?_
  refine r_putI0 F (hfr.1 4 (Nat.le_refl _) 6).2 lf2_30 rfl rfl ⟨rfl, by decide⟩ d2_init_36 ?_
  refine r_aload_nR F 0 rfl rfl d2_init_39 ?_
  refine r_iconst F (z := 0) d2_init_40 ?_
  refine r_putI0 F (hfr.1 4 (Nat.le_refl _) 7).2 lf2_33 rfl rfl ⟨rfl, by decide⟩ d2_init_41 ?_
  refine r_aload_nR F 0 rfl rfl d2_init_44 ?_
  refine r_iconst F (z := 0) d2_init_45 ?_
  refine r_putI0 F (hfr.1 4 (Nat.le_refl _) 8).2 lf2_36 rfl rfl ⟨rfl, by decide⟩ d2_init_46 ?_
  refine r_aload_nR F 0 rfl rfl d2_init_49 ?_
  refine r_iconst F (z := 0) d2_init_50 ?_
  refine r_putI0 F (hfr.1 4 (Nat.le_refl _) 9).2 lf2_39 rfl rfl ⟨rfl, by decide⟩ d2_init_51 ?_
  refine r_aload_nR F 0 rfl rfl d2_init_54 ?_
  refine r_bipush F (z := 8) (by decide) d2_init_55 ?_
  refine r_newI F (n := 5) (len := 8) wa_int rfl rfl (Nat.le_of_ble_eq_true rfl) hf0 ⟨Nat.le_of_ble_eq_true rfl, Nat.le_of_ble_eq_true rfl⟩ d2_init_57 ?_
  have hf1 := (hf0.mono (m' := 6) (by decide))
  refine r_putR F hnm (j := 10) (by decide) (by decide) rfl rfl lp2_42 (fun _ => ⟨rfl, rfl⟩) ⟨rfl, by decide⟩ d2_init_59 ?_
  have hf2 := (hf1.rset (c := 4) (i := 10) (v := 5 + 1) (by decide) (by decide))
  refine r_aload_nR F 0 rfl rfl d2_init_62 ?_
  refine r_bipush F (z := 8) (by decide) d2_init_63 ?_
  refine r_newI F (n := 6) (len := 8) wa_int rfl rfl (Nat.le_of_ble_eq_true rfl) hf2 ⟨Nat.le_of_ble_eq_true rfl, Nat.le_of_ble_eq_true rfl⟩ d2_init_65 ?_
  have hf3 := (hf2.mono (m' := 7) (by decide))
  refine r_putR F hnm (j := 11) (by decide) (by decide) rfl rfl lp2_46 (fun _ => ⟨rfl, rfl⟩) ⟨rfl, by decide⟩ d2_init_67 ?_
  have hf4 := (hf3.rset (c := 4) (i := 11) (v := 6 + 1) (by decide) (by decide))
  refine r_aload_nR F 0 rfl rfl d2_init_70 ?_
  refine r_bipush F (z := 8) (by decide) d2_init_71 ?_
  refine r_newI F (n := 7) (len := 8) wa_int rfl rfl (Nat.le_of_ble_eq_true rfl) hf4 ⟨Nat.le_of_ble_eq_true rfl, Nat.le_of_ble_eq_true rfl⟩ d2_init_73 ?_
  have hf5 := (hf4.mono (m' := 8) (by decide))
  refine r_putR F hnm (j := 12) (by decide) (by decide) rfl rfl lp2_49 (fun _ => ⟨rfl, rfl⟩) ⟨rfl, by decide⟩ d2_init_75 ?_
  have hf6 := (hf5.rset (c := 4) (i := 12) (v := 7 + 1) (by decide) (by decide))
  refine r_aload_nR F 0 rfl rfl d2_init_78 ?_
  refine r_bipush F (z := 8) (by decide) d2_init_79 ?_
  refine r_newI F (n := 8) (len := 8) wa_int rfl rfl (Nat.le_of_ble_eq_true rfl) hf6 ⟨Nat.le_of_ble_eq_true rfl, Nat.le_of_ble_eq_true rfl⟩ d2_init_81 ?_
  have hf7 := (hf6.mono (m' := 9) (by decide))
  refine r_putR F hnm (j := 13) (by decide) (by decide) rfl rfl lp2_52 (fun _ => ⟨rfl, rfl⟩) ⟨rfl, by decide⟩ d2_init_83 ?_
  have hf8 := (hf7.rset (c := 4) (i := 13) (v := 8 + 1) (by decide) (by decide))
  refine r_aload_nR F 0 rfl rfl d2_init_86 ?_
  refine r_bipush F (z := 30) (by decide) d2_init_87 ?_
  refine r_newI F (n := 9) (len := 30) wa_int rfl rfl (Nat.le_of_ble_eq_true rfl) hf8 ⟨Nat.le_of_ble_eq_true rfl, Nat.le_of_ble_eq_true rfl⟩ d2_init_89 ?_
  have hf9 := (hf8.mono (m' := 10) (by decide))
  refine r_putR F hnm (j := 14) (by decide) (by decide) rfl rfl lp2_55 (fun _ => ⟨rfl, rfl⟩) ⟨rfl, by decide⟩ d2_init_91 ?_
  have hf10 := (hf9.rset (c := 4) (i := 14) (v := 9 + 1) (by decide) (by decide))
  refine r_aload_nR F 0 rfl rfl d2_init_94 ?_
  refine r_bipush F (z := 30) (by decide) d2_init_95 ?_
  refine r_newI F (n := 10) (len := 30) wa_int rfl rfl (Nat.le_of_ble_eq_true rfl) hf10 ⟨Nat.le_of_ble_eq_true rfl, Nat.le_of_ble_eq_true rfl⟩ d2_init_97 ?_
  have hf11 := (hf10.mono (m' := 11) (by decide))
  refine r_putR F hnm (j := 15) (by decide) (by decide) rfl rfl lp2_58 (fun _ => ⟨rfl, rfl⟩) ⟨rfl, by decide⟩ d2_init_99 ?_
  have hf12 := (hf11.rset (c := 4) (i := 15) (v := 10 + 1) (by decide) (by decide))
  refine r_aload_nR F 0 rfl rfl d2_init_102 ?_
  refine r_bipush F (z := 30) (by decide) d2_init_103 ?_
  refine r_newI F (n := 11) (len := 30) wa_int rfl rfl (Nat.le_of_ble_eq_true rfl) hf12 ⟨Nat.le_of_ble_eq_true rfl, Nat.le_of_ble_eq_true rfl⟩ d2_init_105 ?_
  have hf13 := (hf12.mono (m' := 12) (by decide))
  refine r_putR F hnm (j := 16) (by decide) (by decide) rfl rfl lp2_61 (fun _ => ⟨rfl, rfl⟩) ⟨rfl, by decide⟩ d2_init_107 ?_
  have hf14 := (hf13.rset (c := 4) (i := 16) (v := 11 + 1) (by decide) (by decide))
  exact r_vret F (h hf14) d2_init_110
def rc3 (ρ : Rho) : Rho := (rset (rset (rc4 ρ) 3 1 5) 3 0 2)
set_option maxHeartbeats 4000000 in
theorem okc3 {l : Launch} {X : XT} {ρ : Rho} {D : Mem} {Q : Option Value → Nat → Rho → Mem → Prop} (hfr : Fr 3 ρ D) (h : Fr 12 (rc3 ρ) (mset D 3 3 (-1)) → Q none 12 (rc3 ρ) (mset D 3 3 (-1))) : MOK l y4_init c4_init 2 none { frames := 2, cells := 8, slots := 139, locals := 40 } 8 139 X [vR X 3, vR X 1] 4 ρ D Q := by
  refine MOK_of 4 (by decide +kernel) rfl (lv := [(0, vR X 3), (1, vR X 1)]) (Nat.le_of_ble_eq_true rfl) rfl (fun K hK F hnm => ?_)
  subst hK
  have hf0 : Fr 4 ρ D := hfr.mono (by decide)
  refine r_aload_nR F 0 rfl rfl d4_init_0 ?_
  refine r_objInit F lo4_3 wi1 wi2 ⟨Nat.le_of_ble_eq_true rfl, Nat.le_of_ble_eq_true rfl⟩ d4_init_1 ?_
  refine r_aload_nR F 0 rfl rfl d4_init_4 ?_
  refine r_new F wc4_9 wins2 wini2 (by decide) (n := 4) rfl hf0 ⟨Nat.le_of_ble_eq_true rfl, Nat.le_of_ble_eq_true rfl⟩ d4_init_5 ?_
  refine r_dup F rfl d4_init_8 ?_
  refine r_callC F lm4_11 ma2_init mi2_init rfl (mc := 7) (ms := 122) (rmy := { frames := 1, cells := 7, slots := 122, locals := 20 }) (As := []) (rest := [vR X 4, vR X 3]) rfl rfl rfl ⟨Nat.le_of_ble_eq_true rfl, Nat.le_of_ble_eq_true rfl⟩ rfl (Nat.le_of_ble_eq_true rfl) ⟨Nat.le_of_ble_eq_true rfl, Nat.le_of_ble_eq_true rfl⟩ d4_init_9 ?_
  refine okc4 hf0 (fun hf1 => ?_)
  show At K X _ _ _ 12 _ 2 12 [(0, vR X 3), (1, vR X 1)] [vR X 4, vR X 3] _
  refine r_putR F hnm (j := 1) (by decide) (by decide) rfl rfl lp4_12 (fun _ => ⟨rfl, rfl⟩) ⟨rfl, by decide⟩ d4_init_12 ?_
  have hf2 := (hf1.rset (c := 3) (i := 1) (v := 4 + 1) (by decide) (by decide))
  refine r_aload_nR F 0 rfl rfl d4_init_15 ?_
  refine r_iconst F (z := 0) d4_init_16 ?_
  refine r_putI0 F (hfr.1 3 (Nat.le_refl _) 2).2 lf4_18 rfl rfl ⟨rfl, by decide⟩ d4_init_17 ?_
  refine r_aload_nR F 0 rfl rfl d4_init_20 ?_
  refine r_iconst F (z := (-1)) d4_init_21 ?_
  refine r_putI F lf4_22 rfl rfl ⟨rfl, by decide⟩ d4_init_22 ?_
  have hf3 := (hf2.mset (c := 3) (i := 3) (v := (-1)) (by decide))
  refine r_aload_nR F 0 rfl rfl d4_init_25 ?_
  refine r_iconst F (z := 0) d4_init_26 ?_
  refine r_putI0 F ((mset_other (by decide)).trans (hfr.1 3 (Nat.le_refl _) 4).2) lf4_25 rfl rfl ⟨rfl, by decide⟩ d4_init_27 ?_
  refine r_aload_nR F 0 rfl rfl d4_init_30 ?_
  refine r_iconst F (z := 0) d4_init_31 ?_
  refine r_putI0 F ((mset_other (by decide)).trans (hfr.1 3 (Nat.le_refl _) 5).2) lf4_28 rfl rfl ⟨rfl, by decide⟩ d4_init_32 ?_
  refine r_aload_nR F 0 rfl rfl d4_init_35 ?_
  refine r_iconst F (z := 0) d4_init_36 ?_
  refine r_putI0 F ((mset_other (by decide)).trans (hfr.1 3 (Nat.le_refl _) 6).2) lf4_31 rfl rfl ⟨rfl, by decide⟩ d4_init_37 ?_
  refine r_aload_nR F 0 rfl rfl d4_init_40 ?_
  refine r_aload_nR F 1 rfl rfl d4_init_41 ?_
  refine r_putR F hnm (j := 0) (by decide) (by decide) rfl rfl lp4_34 (fun _ => ⟨rfl, rfl⟩) ⟨rfl, by decide⟩ d4_init_42 ?_
  have hf4 := (hf3.rset (c := 3) (i := 0) (v := 1 + 1) (by decide) (by decide))
  exact r_vret F (h hf4) d4_init_45
def rc12 (ρ : Rho) : Rho := (rset (rset (rset (rset (rset (rset (rset ρ 12 10 14) 12 11 15) 12 12 16) 12 13 17) 12 14 18) 12 15 19) 12 16 20)
set_option maxHeartbeats 4000000 in
theorem okc12 {l : Launch} {X : XT} {ρ : Rho} {D : Mem} {Q : Option Value → Nat → Rho → Mem → Prop} (hfr : Fr 12 ρ D) (h : Fr 20 (rc12 ρ) D → Q none 20 (rc12 ρ) D) : MOK l y2_init c2_init 1 none { frames := 1, cells := 7, slots := 122, locals := 20 } 7 122 X [vR X 12] 13 ρ D Q := by
  refine MOK_of 2 (by decide +kernel) rfl (lv := [(0, vR X 12)]) (Nat.le_of_ble_eq_true rfl) rfl (fun K hK F hnm => ?_)
  subst hK
  have hf0 : Fr 13 ρ D := hfr.mono (by decide)
  refine r_aload_nR F 0 rfl rfl d2_init_0 ?_
  refine r_objInit F lo2_3 wi1 wi2 ⟨Nat.le_of_ble_eq_true rfl, Nat.le_of_ble_eq_true rfl⟩ d2_init_1 ?_
  refine r_aload_nR F 0 rfl rfl d2_init_4 ?_
  refine r_iconst F (z := 0) d2_init_5 ?_
  refine r_putI0 F (hfr.1 12 (Nat.le_refl _) 0).2 lf2_9 rfl rfl ⟨rfl, by decide⟩ d2_init_6 ?_
  refine r_aload_nR F 0 rfl rfl d2_init_9 ?_
  refine r_iconst F (z := 0) d2_init_10 ?_
  refine r_putI0 F (hfr.1 12 (Nat.le_refl _) 1).2 lf2_15 rfl rfl ⟨rfl, by decide⟩ d2_init_11 ?_
  refine r_aload_nR F 0 rfl rfl d2_init_14 ?_
  refine r_iconst F (z := 0) d2_init_15 ?_
  refine r_putI0 F (hfr.1 12 (Nat.le_refl _) 2).2 lf2_18 rfl rfl ⟨rfl, by decide⟩ d2_init_16 ?_
  refine r_aload_nR F 0 rfl rfl d2_init_19 ?_
  refine r_iconst F (z := 0) d2_init_20 ?_
  refine r_putI0 F (hfr.1 12 (Nat.le_refl _) 3).2 lf2_21 rfl rfl ⟨rfl, by decide⟩ d2_init_21 ?_
  refine r_aload_nR F 0 rfl rfl d2_init_24 ?_
  refine r_iconst F (z := 0) d2_init_25 ?_
  refine r_putI0 F (hfr.1 12 (Nat.le_refl _) 4).2 lf2_24 rfl rfl ⟨rfl, by decide⟩ d2_init_26 ?_
  refine r_aload_nR F 0 rfl rfl d2_init_29 ?_
  refine r_iconst F (z := 0) d2_init_30 ?_
  refine r_putI0 F (hfr.1 12 (Nat.le_refl _) 5).2 lf2_27 rfl rfl ⟨rfl, by decide⟩ d2_init_31 ?_
  refine r_aload_nR F 0 rfl rfl d2_init_34 ?_
  refine r_iconst F (z := 0) d2_init_35 ?_
  refine r_putI0 F (hfr.1 12 (Nat.le_refl _) 6).2 lf2_30 rfl rfl ⟨rfl, by decide⟩ d2_init_36 ?_
  refine r_aload_nR F 0 rfl rfl d2_init_39 ?_
  refine r_iconst F (z := 0) d2_init_40 ?_
  refine r_putI0 F (hfr.1 12 (Nat.le_refl _) 7).2 lf2_33 rfl rfl ⟨rfl, by decide⟩ d2_init_41 ?_
  refine r_aload_nR F 0 rfl rfl d2_init_44 ?_
  refine r_iconst F (z := 0) d2_init_45 ?_
  refine r_putI0 F (hfr.1 12 (Nat.le_refl _) 8).2 lf2_36 rfl rfl ⟨rfl, by decide⟩ d2_init_46 ?_
  refine r_aload_nR F 0 rfl rfl d2_init_49 ?_
  refine r_iconst F (z := 0) d2_init_50 ?_
  refine r_putI0 F (hfr.1 12 (Nat.le_refl _) 9).2 lf2_39 rfl rfl ⟨rfl, by decide⟩ d2_init_51 ?_
  refine r_aload_nR F 0 rfl rfl d2_init_54 ?_
  refine r_bipush F (z := 8) (by decide) d2_init_55 ?_
  refine r_newI F (n := 13) (len := 8) wa_int rfl rfl (Nat.le_of_ble_eq_true rfl) hf0 ⟨Nat.le_of_ble_eq_true rfl, Nat.le_of_ble_eq_true rfl⟩ d2_init_57 ?_
  have hf1 := (hf0.mono (m' := 14) (by decide))
  refine r_putR F hnm (j := 10) (by decide) (by decide) rfl rfl lp2_42 (fun _ => ⟨rfl, rfl⟩) ⟨rfl, by decide⟩ d2_init_59 ?_
  have hf2 := (hf1.rset (c := 12) (i := 10) (v := 13 + 1) (by decide) (by decide))
  refine r_aload_nR F 0 rfl rfl d2_init_62 ?_
  refine r_bipush F (z := 8) (by decide) d2_init_63 ?_
  refine r_newI F (n := 14) (len := 8) wa_int rfl rfl (Nat.le_of_ble_eq_true rfl) hf2 ⟨Nat.le_of_ble_eq_true rfl, Nat.le_of_ble_eq_true rfl⟩ d2_init_65 ?_
  have hf3 := (hf2.mono (m' := 15) (by decide))
  refine r_putR F hnm (j := 11) (by decide) (by decide) rfl rfl lp2_46 (fun _ => ⟨rfl, rfl⟩) ⟨rfl, by decide⟩ d2_init_67 ?_
  have hf4 := (hf3.rset (c := 12) (i := 11) (v := 14 + 1) (by decide) (by decide))
  refine r_aload_nR F 0 rfl rfl d2_init_70 ?_
  refine r_bipush F (z := 8) (by decide) d2_init_71 ?_
  refine r_newI F (n := 15) (len := 8) wa_int rfl rfl (Nat.le_of_ble_eq_true rfl) hf4 ⟨Nat.le_of_ble_eq_true rfl, Nat.le_of_ble_eq_true rfl⟩ d2_init_73 ?_
  have hf5 := (hf4.mono (m' := 16) (by decide))
  refine r_putR F hnm (j := 12) (by decide) (by decide) rfl rfl lp2_49 (fun _ => ⟨rfl, rfl⟩) ⟨rfl, by decide⟩ d2_init_75 ?_
  have hf6 := (hf5.rset (c := 12) (i := 12) (v := 15 + 1) (by decide) (by decide))
  refine r_aload_nR F 0 rfl rfl d2_init_78 ?_
  refine r_bipush F (z := 8) (by decide) d2_init_79 ?_
  refine r_newI F (n := 16) (len := 8) wa_int rfl rfl (Nat.le_of_ble_eq_true rfl) hf6 ⟨Nat.le_of_ble_eq_true rfl, Nat.le_of_ble_eq_true rfl⟩ d2_init_81 ?_
  have hf7 := (hf6.mono (m' := 17) (by decide))
  refine r_putR F hnm (j := 13) (by decide) (by decide) rfl rfl lp2_52 (fun _ => ⟨rfl, rfl⟩) ⟨rfl, by decide⟩ d2_init_83 ?_
  have hf8 := (hf7.rset (c := 12) (i := 13) (v := 16 + 1) (by decide) (by decide))
  refine r_aload_nR F 0 rfl rfl d2_init_86 ?_
  refine r_bipush F (z := 30) (by decide) d2_init_87 ?_
  refine r_newI F (n := 17) (len := 30) wa_int rfl rfl (Nat.le_of_ble_eq_true rfl) hf8 ⟨Nat.le_of_ble_eq_true rfl, Nat.le_of_ble_eq_true rfl⟩ d2_init_89 ?_
  have hf9 := (hf8.mono (m' := 18) (by decide))
  refine r_putR F hnm (j := 14) (by decide) (by decide) rfl rfl lp2_55 (fun _ => ⟨rfl, rfl⟩) ⟨rfl, by decide⟩ d2_init_91 ?_
  have hf10 := (hf9.rset (c := 12) (i := 14) (v := 17 + 1) (by decide) (by decide))
  refine r_aload_nR F 0 rfl rfl d2_init_94 ?_
  refine r_bipush F (z := 30) (by decide) d2_init_95 ?_
  refine r_newI F (n := 18) (len := 30) wa_int rfl rfl (Nat.le_of_ble_eq_true rfl) hf10 ⟨Nat.le_of_ble_eq_true rfl, Nat.le_of_ble_eq_true rfl⟩ d2_init_97 ?_
  have hf11 := (hf10.mono (m' := 19) (by decide))
  refine r_putR F hnm (j := 15) (by decide) (by decide) rfl rfl lp2_58 (fun _ => ⟨rfl, rfl⟩) ⟨rfl, by decide⟩ d2_init_99 ?_
  have hf12 := (hf11.rset (c := 12) (i := 15) (v := 18 + 1) (by decide) (by decide))
  refine r_aload_nR F 0 rfl rfl d2_init_102 ?_
  refine r_bipush F (z := 30) (by decide) d2_init_103 ?_
  refine r_newI F (n := 19) (len := 30) wa_int rfl rfl (Nat.le_of_ble_eq_true rfl) hf12 ⟨Nat.le_of_ble_eq_true rfl, Nat.le_of_ble_eq_true rfl⟩ d2_init_105 ?_
  have hf13 := (hf12.mono (m' := 20) (by decide))
  refine r_putR F hnm (j := 16) (by decide) (by decide) rfl rfl lp2_61 (fun _ => ⟨rfl, rfl⟩) ⟨rfl, by decide⟩ d2_init_107 ?_
  have hf14 := (hf13.rset (c := 12) (i := 16) (v := 19 + 1) (by decide) (by decide))
  exact r_vret F (h hf14) d2_init_110
def rc23 (ρ : Rho) : Rho := (rset (rset (rset (rset (rset (rset (rset (rset (rset (rset (rset (rset (rset ρ 23 5 25) 23 6 26) 23 7 27) 23 8 28) 23 9 29) 23 10 30) 23 11 31) 23 12 32) 23 13 33) 23 14 34) 23 15 35) 23 16 36) 23 0 13)
set_option maxHeartbeats 4000000 in
theorem okc23 {l : Launch} {X : XT} {ρ : Rho} {D : Mem} {Q : Option Value → Nat → Rho → Mem → Prop} (hfr : Fr 23 ρ D) (h : Fr 36 (rc23 ρ) D → Q none 36 (rc23 ρ) D) : MOK l y8_init c8_init 2 none { frames := 1, cells := 12, slots := 120, locals := 20 } 12 120 X [vR X 23, vR X 12] 24 ρ D Q := by
  refine MOK_of 8 (by decide +kernel) rfl (lv := [(0, vR X 23), (1, vR X 12)]) (Nat.le_of_ble_eq_true rfl) rfl (fun K hK F hnm => ?_)
  subst hK
  have hf0 : Fr 24 ρ D := hfr.mono (by decide)
  refine r_aload_nR F 0 rfl rfl d8_init_0 ?_
  refine r_objInit F lo8_3 wi1 wi2 ⟨Nat.le_of_ble_eq_true rfl, Nat.le_of_ble_eq_true rfl⟩ d8_init_1 ?_
  refine r_aload_nR F 0 rfl rfl d8_init_4 ?_
  refine r_iconst F (z := 0) d8_init_5 ?_
  refine r_putI0 F (hfr.1 23 (Nat.le_refl _) 1).2 lf8_9 rfl rfl ⟨rfl, by decide⟩ d8_init_6 ?_
  refine r_aload_nR F 0 rfl rfl d8_init_9 ?_
  refine r_iconst F (z := 0) d8_init_10 ?_
  refine r_putI0 F (hfr.1 23 (Nat.le_refl _) 2).2 lf8_15 rfl rfl ⟨rfl, by decide⟩ d8_init_11 ?_
  refine r_aload_nR F 0 rfl rfl d8_init_14 ?_
  refine r_iconst F (z := 0) d8_init_15 ?_
  refine r_putI0 F (hfr.1 23 (Nat.le_refl _) 3).2 lf8_18 rfl rfl ⟨rfl, by decide⟩ d8_init_16 ?_
  refine r_aload_nR F 0 rfl rfl d8_init_19 ?_
  refine r_iconst F (z := 0) d8_init_20 ?_
  refine r_putI0 F (hfr.1 23 (Nat.le_refl _) 4).2 lf8_21 rfl rfl ⟨rfl, by decide⟩ d8_init_21 ?_
  refine r_aload_nR F 0 rfl rfl d8_init_24 ?_
  refine r_bipush F (z := 8) (by decide) d8_init_25 ?_
  refine r_newI F (n := 24) (len := 8) wa_int rfl rfl (Nat.le_of_ble_eq_true rfl) hf0 ⟨Nat.le_of_ble_eq_true rfl, Nat.le_of_ble_eq_true rfl⟩ d8_init_27 ?_
  have hf1 := (hf0.mono (m' := 25) (by decide))
  refine r_putR F hnm (j := 5) (by decide) (by decide) rfl rfl lp8_24 (fun _ => ⟨rfl, rfl⟩) ⟨rfl, by decide⟩ d8_init_29 ?_
  have hf2 := (hf1.rset (c := 23) (i := 5) (v := 24 + 1) (by decide) (by decide))
  refine r_aload_nR F 0 rfl rfl d8_init_32 ?_
  refine r_bipush F (z := 8) (by decide) d8_init_33 ?_
  refine r_newI F (n := 25) (len := 8) wa_int rfl rfl (Nat.le_of_ble_eq_true rfl) hf2 ⟨Nat.le_of_ble_eq_true rfl, Nat.le_of_ble_eq_true rfl⟩ d8_init_35 ?_
  have hf3 := (hf2.mono (m' := 26) (by decide))
  refine r_putR F hnm (j := 6) (by decide) (by decide) rfl rfl lp8_28 (fun _ => ⟨rfl, rfl⟩) ⟨rfl, by decide⟩ d8_init_37 ?_
  have hf4 := (hf3.rset (c := 23) (i := 6) (v := 25 + 1) (by decide) (by decide))
  refine r_aload_nR F 0 rfl rfl d8_init_40 ?_
  refine r_bipush F (z := 8) (by decide) d8_init_41 ?_
  refine r_newI F (n := 26) (len := 8) wa_int rfl rfl (Nat.le_of_ble_eq_true rfl) hf4 ⟨Nat.le_of_ble_eq_true rfl, Nat.le_of_ble_eq_true rfl⟩ d8_init_43 ?_
  have hf5 := (hf4.mono (m' := 27) (by decide))
  refine r_putR F hnm (j := 7) (by decide) (by decide) rfl rfl lp8_31 (fun _ => ⟨rfl, rfl⟩) ⟨rfl, by decide⟩ d8_init_45 ?_
  have hf6 := (hf5.rset (c := 23) (i := 7) (v := 26 + 1) (by decide) (by decide))
  refine r_aload_nR F 0 rfl rfl d8_init_48 ?_
  refine r_bipush F (z := 8) (by decide) d8_init_49 ?_
  refine r_newI F (n := 27) (len := 8) wa_int rfl rfl (Nat.le_of_ble_eq_true rfl) hf6 ⟨Nat.le_of_ble_eq_true rfl, Nat.le_of_ble_eq_true rfl⟩ d8_init_51 ?_
  have hf7 := (hf6.mono (m' := 28) (by decide))
  refine r_putR F hnm (j := 8) (by decide) (by decide) rfl rfl lp8_34 (fun _ => ⟨rfl, rfl⟩) ⟨rfl, by decide⟩ d8_init_53 ?_
  have hf8 := (hf7.rset (c := 23) (i := 8) (v := 27 + 1) (by decide) (by decide))
  refine r_aload_nR F 0 rfl rfl d8_init_56 ?_
  refine r_bipush F (z := 8) (by decide) d8_init_57 ?_
  refine r_newI F (n := 28) (len := 8) wa_int rfl rfl (Nat.le_of_ble_eq_true rfl) hf8 ⟨Nat.le_of_ble_eq_true rfl, Nat.le_of_ble_eq_true rfl⟩ d8_init_59 ?_
  have hf9 := (hf8.mono (m' := 29) (by decide))
  refine r_putR F hnm (j := 9) (by decide) (by decide) rfl rfl lp8_37 (fun _ => ⟨rfl, rfl⟩) ⟨rfl, by decide⟩ d8_init_61 ?_
  have hf10 := (hf9.rset (c := 23) (i := 9) (v := 28 + 1) (by decide) (by decide))
  refine r_aload_nR F 0 rfl rfl d8_init_64 ?_
  refine r_bipush F (z := 8) (by decide) d8_init_65 ?_
  refine r_newI F (n := 29) (len := 8) wa_int rfl rfl (Nat.le_of_ble_eq_true rfl) hf10 ⟨Nat.le_of_ble_eq_true rfl, Nat.le_of_ble_eq_true rfl⟩ d8_init_67 ?_
  have hf11 := (hf10.mono (m' := 30) (by decide))
  refine r_putR F hnm (j := 10) (by decide) (by decide) rfl rfl lp8_40 (fun _ => ⟨rfl, rfl⟩) ⟨rfl, by decide⟩ d8_init_69 ?_
  have hf12 := (hf11.rset (c := 23) (i := 10) (v := 29 + 1) (by decide) (by decide))
  refine r_aload_nR F 0 rfl rfl d8_init_72 ?_
  refine r_bipush F (z := 12) (by decide) d8_init_73 ?_
  refine r_newI F (n := 30) (len := 12) wa_int rfl rfl (Nat.le_of_ble_eq_true rfl) hf12 ⟨Nat.le_of_ble_eq_true rfl, Nat.le_of_ble_eq_true rfl⟩ d8_init_75 ?_
  have hf13 := (hf12.mono (m' := 31) (by decide))
  refine r_putR F hnm (j := 11) (by decide) (by decide) rfl rfl lp8_43 (fun _ => ⟨rfl, rfl⟩) ⟨rfl, by decide⟩ d8_init_77 ?_
  have hf14 := (hf13.rset (c := 23) (i := 11) (v := 30 + 1) (by decide) (by decide))
  refine r_aload_nR F 0 rfl rfl d8_init_80 ?_
  refine r_bipush F (z := 12) (by decide) d8_init_81 ?_
  refine r_newI F (n := 31) (len := 12) wa_int rfl rfl (Nat.le_of_ble_eq_true rfl) hf14 ⟨Nat.le_of_ble_eq_true rfl, Nat.le_of_ble_eq_true rfl⟩ d8_init_83 ?_
  have hf15 := (hf14.mono (m' := 32) (by decide))
  refine r_putR F hnm (j := 12) (by decide) (by decide) rfl rfl lp8_46 (fun _ => ⟨rfl, rfl⟩) ⟨rfl, by decide⟩ d8_init_85 ?_
  have hf16 := (hf15.rset (c := 23) (i := 12) (v := 31 + 1) (by decide) (by decide))
  refine r_aload_nR F 0 rfl rfl d8_init_88 ?_
  refine r_bipush F (z := 12) (by decide) d8_init_89 ?_
  refine r_newI F (n := 32) (len := 12) wa_int rfl rfl (Nat.le_of_ble_eq_true rfl) hf16 ⟨Nat.le_of_ble_eq_true rfl, Nat.le_of_ble_eq_true rfl⟩ d8_init_91 ?_
  have hf17 := (hf16.mono (m' := 33) (by decide))
  refine r_putR F hnm (j := 13) (by decide) (by decide) rfl rfl lp8_49 (fun _ => ⟨rfl, rfl⟩) ⟨rfl, by decide⟩ d8_init_93 ?_
  have hf18 := (hf17.rset (c := 23) (i := 13) (v := 32 + 1) (by decide) (by decide))
  refine r_aload_nR F 0 rfl rfl d8_init_96 ?_
  refine r_bipush F (z := 12) (by decide) d8_init_97 ?_
  refine r_newI F (n := 33) (len := 12) wa_int rfl rfl (Nat.le_of_ble_eq_true rfl) hf18 ⟨Nat.le_of_ble_eq_true rfl, Nat.le_of_ble_eq_true rfl⟩ d8_init_99 ?_
  have hf19 := (hf18.mono (m' := 34) (by decide))
  refine r_putR F hnm (j := 14) (by decide) (by decide) rfl rfl lp8_52 (fun _ => ⟨rfl, rfl⟩) ⟨rfl, by decide⟩ d8_init_101 ?_
  have hf20 := (hf19.rset (c := 23) (i := 14) (v := 33 + 1) (by decide) (by decide))
  refine r_aload_nR F 0 rfl rfl d8_init_104 ?_
  refine r_bipush F (z := 12) (by decide) d8_init_105 ?_
  refine r_newI F (n := 34) (len := 12) wa_int rfl rfl (Nat.le_of_ble_eq_true rfl) hf20 ⟨Nat.le_of_ble_eq_true rfl, Nat.le_of_ble_eq_true rfl⟩ d8_init_107 ?_
  have hf21 := (hf20.mono (m' := 35) (by decide))
  refine r_putR F hnm (j := 15) (by decide) (by decide) rfl rfl lp8_55 (fun _ => ⟨rfl, rfl⟩) ⟨rfl, by decide⟩ d8_init_109 ?_
  have hf22 := (hf21.rset (c := 23) (i := 15) (v := 34 + 1) (by decide) (by decide))
  refine r_aload_nR F 0 rfl rfl d8_init_112 ?_
  refine r_bipush F (z := 12) (by decide) d8_init_113 ?_
  refine r_newI F (n := 35) (len := 12) wa_int rfl rfl (Nat.le_of_ble_eq_true rfl) hf22 ⟨Nat.le_of_ble_eq_true rfl, Nat.le_of_ble_eq_true rfl⟩ d8_init_115 ?_
  have hf23 := (hf22.mono (m' := 36) (by decide))
  refine r_putR F hnm (j := 16) (by decide) (by decide) rfl rfl lp8_58 (fun _ => ⟨rfl, rfl⟩) ⟨rfl, by decide⟩ d8_init_117 ?_
  have hf24 := (hf23.rset (c := 23) (i := 16) (v := 35 + 1) (by decide) (by decide))
  refine r_aload_nR F 0 rfl rfl d8_init_120 ?_
  refine r_aload_nR F 1 rfl rfl d8_init_121 ?_
  refine r_putR F hnm (j := 0) (by decide) (by decide) rfl rfl lp8_61 (fun _ => ⟨rfl, rfl⟩) ⟨rfl, by decide⟩ d8_init_122 ?_
  have hf25 := (hf24.rset (c := 23) (i := 0) (v := 12 + 1) (by decide) (by decide))
  exact r_vret F (h hf25) d8_init_125
def rc36 (ρ : Rho) : Rho := (rset (rset (rset (rset (rset (rset (rset (rset (rset (rset (rset (rset (rset ρ 36 5 38) 36 6 39) 36 7 40) 36 8 41) 36 9 42) 36 10 43) 36 11 44) 36 12 45) 36 13 46) 36 14 47) 36 15 48) 36 16 49) 36 0 13)
set_option maxHeartbeats 4000000 in
theorem okc36 {l : Launch} {X : XT} {ρ : Rho} {D : Mem} {Q : Option Value → Nat → Rho → Mem → Prop} (hfr : Fr 36 ρ D) (h : Fr 49 (rc36 ρ) D → Q none 49 (rc36 ρ) D) : MOK l y8_init c8_init 2 none { frames := 1, cells := 12, slots := 120, locals := 20 } 12 120 X [vR X 36, vR X 12] 37 ρ D Q := by
  refine MOK_of 8 (by decide +kernel) rfl (lv := [(0, vR X 36), (1, vR X 12)]) (Nat.le_of_ble_eq_true rfl) rfl (fun K hK F hnm => ?_)
  subst hK
  have hf0 : Fr 37 ρ D := hfr.mono (by decide)
  refine r_aload_nR F 0 rfl rfl d8_init_0 ?_
  refine r_objInit F lo8_3 wi1 wi2 ⟨Nat.le_of_ble_eq_true rfl, Nat.le_of_ble_eq_true rfl⟩ d8_init_1 ?_
  refine r_aload_nR F 0 rfl rfl d8_init_4 ?_
  refine r_iconst F (z := 0) d8_init_5 ?_
  refine r_putI0 F (hfr.1 36 (Nat.le_refl _) 1).2 lf8_9 rfl rfl ⟨rfl, by decide⟩ d8_init_6 ?_
  refine r_aload_nR F 0 rfl rfl d8_init_9 ?_
  refine r_iconst F (z := 0) d8_init_10 ?_
  refine r_putI0 F (hfr.1 36 (Nat.le_refl _) 2).2 lf8_15 rfl rfl ⟨rfl, by decide⟩ d8_init_11 ?_
  refine r_aload_nR F 0 rfl rfl d8_init_14 ?_
  refine r_iconst F (z := 0) d8_init_15 ?_
  refine r_putI0 F (hfr.1 36 (Nat.le_refl _) 3).2 lf8_18 rfl rfl ⟨rfl, by decide⟩ d8_init_16 ?_
  refine r_aload_nR F 0 rfl rfl d8_init_19 ?_
  refine r_iconst F (z := 0) d8_init_20 ?_
  refine r_putI0 F (hfr.1 36 (Nat.le_refl _) 4).2 lf8_21 rfl rfl ⟨rfl, by decide⟩ d8_init_21 ?_
  refine r_aload_nR F 0 rfl rfl d8_init_24 ?_
  refine r_bipush F (z := 8) (by decide) d8_init_25 ?_
  refine r_newI F (n := 37) (len := 8) wa_int rfl rfl (Nat.le_of_ble_eq_true rfl) hf0 ⟨Nat.le_of_ble_eq_true rfl, Nat.le_of_ble_eq_true rfl⟩ d8_init_27 ?_
  have hf1 := (hf0.mono (m' := 38) (by decide))
  refine r_putR F hnm (j := 5) (by decide) (by decide) rfl rfl lp8_24 (fun _ => ⟨rfl, rfl⟩) ⟨rfl, by decide⟩ d8_init_29 ?_
  have hf2 := (hf1.rset (c := 36) (i := 5) (v := 37 + 1) (by decide) (by decide))
  refine r_aload_nR F 0 rfl rfl d8_init_32 ?_
  refine r_bipush F (z := 8) (by decide) d8_init_33 ?_
  refine r_newI F (n := 38) (len := 8) wa_int rfl rfl (Nat.le_of_ble_eq_true rfl) hf2 ⟨Nat.le_of_ble_eq_true rfl, Nat.le_of_ble_eq_true rfl⟩ d8_init_35 ?_
  have hf3 := (hf2.mono (m' := 39) (by decide))
  refine r_putR F hnm (j := 6) (by decide) (by decide) rfl rfl lp8_28 (fun _ => ⟨rfl, rfl⟩) ⟨rfl, by decide⟩ d8_init_37 ?_
  have hf4 := (hf3.rset (c := 36) (i := 6) (v := 38 + 1) (by decide) (by decide))
  refine r_aload_nR F 0 rfl rfl d8_init_40 ?_
  refine r_bipush F (z := 8) (by decide) d8_init_41 ?_
  refine r_newI F (n := 39) (len := 8) wa_int rfl rfl (Nat.le_of_ble_eq_true rfl) hf4 ⟨Nat.le_of_ble_eq_true rfl, Nat.le_of_ble_eq_true rfl⟩ d8_init_43 ?_
  have hf5 := (hf4.mono (m' := 40) (by decide))
  refine r_putR F hnm (j := 7) (by decide) (by decide) rfl rfl lp8_31 (fun _ => ⟨rfl, rfl⟩) ⟨rfl, by decide⟩ d8_init_45 ?_
  have hf6 := (hf5.rset (c := 36) (i := 7) (v := 39 + 1) (by decide) (by decide))
  refine r_aload_nR F 0 rfl rfl d8_init_48 ?_
  refine r_bipush F (z := 8) (by decide) d8_init_49 ?_
  refine r_newI F (n := 40) (len := 8) wa_int rfl rfl (Nat.le_of_ble_eq_true rfl) hf6 ⟨Nat.le_of_ble_eq_true rfl, Nat.le_of_ble_eq_true rfl⟩ d8_init_51 ?_
  have hf7 := (hf6.mono (m' := 41) (by decide))
  refine r_putR F hnm (j := 8) (by decide) (by decide) rfl rfl lp8_34 (fun _ => ⟨rfl, rfl⟩) ⟨rfl, by decide⟩ d8_init_53 ?_
  have hf8 := (hf7.rset (c := 36) (i := 8) (v := 40 + 1) (by decide) (by decide))
  refine r_aload_nR F 0 rfl rfl d8_init_56 ?_
  refine r_bipush F (z := 8) (by decide) d8_init_57 ?_
  refine r_newI F (n := 41) (len := 8) wa_int rfl rfl (Nat.le_of_ble_eq_true rfl) hf8 ⟨Nat.le_of_ble_eq_true rfl, Nat.le_of_ble_eq_true rfl⟩ d8_init_59 ?_
  have hf9 := (hf8.mono (m' := 42) (by decide))
  refine r_putR F hnm (j := 9) (by decide) (by decide) rfl rfl lp8_37 (fun _ => ⟨rfl, rfl⟩) ⟨rfl, by decide⟩ d8_init_61 ?_
  have hf10 := (hf9.rset (c := 36) (i := 9) (v := 41 + 1) (by decide) (by decide))
  refine r_aload_nR F 0 rfl rfl d8_init_64 ?_
  refine r_bipush F (z := 8) (by decide) d8_init_65 ?_
  refine r_newI F (n := 42) (len := 8) wa_int rfl rfl (Nat.le_of_ble_eq_true rfl) hf10 ⟨Nat.le_of_ble_eq_true rfl, Nat.le_of_ble_eq_true rfl⟩ d8_init_67 ?_
  have hf11 := (hf10.mono (m' := 43) (by decide))
  refine r_putR F hnm (j := 10) (by decide) (by decide) rfl rfl lp8_40 (fun _ => ⟨rfl, rfl⟩) ⟨rfl, by decide⟩ d8_init_69 ?_
  have hf12 := (hf11.rset (c := 36) (i := 10) (v := 42 + 1) (by decide) (by decide))
  refine r_aload_nR F 0 rfl rfl d8_init_72 ?_
  refine r_bipush F (z := 12) (by decide) d8_init_73 ?_
  refine r_newI F (n := 43) (len := 12) wa_int rfl rfl (Nat.le_of_ble_eq_true rfl) hf12 ⟨Nat.le_of_ble_eq_true rfl, Nat.le_of_ble_eq_true rfl⟩ d8_init_75 ?_
  have hf13 := (hf12.mono (m' := 44) (by decide))
  refine r_putR F hnm (j := 11) (by decide) (by decide) rfl rfl lp8_43 (fun _ => ⟨rfl, rfl⟩) ⟨rfl, by decide⟩ d8_init_77 ?_
  have hf14 := (hf13.rset (c := 36) (i := 11) (v := 43 + 1) (by decide) (by decide))
  refine r_aload_nR F 0 rfl rfl d8_init_80 ?_
  refine r_bipush F (z := 12) (by decide) d8_init_81 ?_
  refine r_newI F (n := 44) (len := 12) wa_int rfl rfl (Nat.le_of_ble_eq_true rfl) hf14 ⟨Nat.le_of_ble_eq_true rfl, Nat.le_of_ble_eq_true rfl⟩ d8_init_83 ?_
  have hf15 := (hf14.mono (m' := 45) (by decide))
  refine r_putR F hnm (j := 12) (by decide) (by decide) rfl rfl lp8_46 (fun _ => ⟨rfl, rfl⟩) ⟨rfl, by decide⟩ d8_init_85 ?_
  have hf16 := (hf15.rset (c := 36) (i := 12) (v := 44 + 1) (by decide) (by decide))
  refine r_aload_nR F 0 rfl rfl d8_init_88 ?_
  refine r_bipush F (z := 12) (by decide) d8_init_89 ?_
  refine r_newI F (n := 45) (len := 12) wa_int rfl rfl (Nat.le_of_ble_eq_true rfl) hf16 ⟨Nat.le_of_ble_eq_true rfl, Nat.le_of_ble_eq_true rfl⟩ d8_init_91 ?_
  have hf17 := (hf16.mono (m' := 46) (by decide))
  refine r_putR F hnm (j := 13) (by decide) (by decide) rfl rfl lp8_49 (fun _ => ⟨rfl, rfl⟩) ⟨rfl, by decide⟩ d8_init_93 ?_
  have hf18 := (hf17.rset (c := 36) (i := 13) (v := 45 + 1) (by decide) (by decide))
  refine r_aload_nR F 0 rfl rfl d8_init_96 ?_
  refine r_bipush F (z := 12) (by decide) d8_init_97 ?_
  refine r_newI F (n := 46) (len := 12) wa_int rfl rfl (Nat.le_of_ble_eq_true rfl) hf18 ⟨Nat.le_of_ble_eq_true rfl, Nat.le_of_ble_eq_true rfl⟩ d8_init_99 ?_
  have hf19 := (hf18.mono (m' := 47) (by decide))
  refine r_putR F hnm (j := 14) (by decide) (by decide) rfl rfl lp8_52 (fun _ => ⟨rfl, rfl⟩) ⟨rfl, by decide⟩ d8_init_101 ?_
  have hf20 := (hf19.rset (c := 36) (i := 14) (v := 46 + 1) (by decide) (by decide))
  refine r_aload_nR F 0 rfl rfl d8_init_104 ?_
  refine r_bipush F (z := 12) (by decide) d8_init_105 ?_
  refine r_newI F (n := 47) (len := 12) wa_int rfl rfl (Nat.le_of_ble_eq_true rfl) hf20 ⟨Nat.le_of_ble_eq_true rfl, Nat.le_of_ble_eq_true rfl⟩ d8_init_107 ?_
  have hf21 := (hf20.mono (m' := 48) (by decide))
  refine r_putR F hnm (j := 15) (by decide) (by decide) rfl rfl lp8_55 (fun _ => ⟨rfl, rfl⟩) ⟨rfl, by decide⟩ d8_init_109 ?_
  have hf22 := (hf21.rset (c := 36) (i := 15) (v := 47 + 1) (by decide) (by decide))
  refine r_aload_nR F 0 rfl rfl d8_init_112 ?_
  refine r_bipush F (z := 12) (by decide) d8_init_113 ?_
  refine r_newI F (n := 48) (len := 12) wa_int rfl rfl (Nat.le_of_ble_eq_true rfl) hf22 ⟨Nat.le_of_ble_eq_true rfl, Nat.le_of_ble_eq_true rfl⟩ d8_init_115 ?_
  have hf23 := (hf22.mono (m' := 49) (by decide))
  refine r_putR F hnm (j := 16) (by decide) (by decide) rfl rfl lp8_58 (fun _ => ⟨rfl, rfl⟩) ⟨rfl, by decide⟩ d8_init_117 ?_
  have hf24 := (hf23.rset (c := 36) (i := 16) (v := 48 + 1) (by decide) (by decide))
  refine r_aload_nR F 0 rfl rfl d8_init_120 ?_
  refine r_aload_nR F 1 rfl rfl d8_init_121 ?_
  refine r_putR F hnm (j := 0) (by decide) (by decide) rfl rfl lp8_61 (fun _ => ⟨rfl, rfl⟩) ⟨rfl, by decide⟩ d8_init_122 ?_
  have hf25 := (hf24.rset (c := 36) (i := 0) (v := 12 + 1) (by decide) (by decide))
  exact r_vret F (h hf25) d8_init_125
def rc49 (ρ : Rho) : Rho := (rset (rset (rset (rset (rset (rset (rset (rset (rset ρ 49 5 51) 49 6 52) 49 7 53) 49 8 54) 49 9 55) 49 10 56) 49 11 57) 49 12 58) 49 0 13)
set_option maxHeartbeats 4000000 in
theorem okc49 {l : Launch} {X : XT} {ρ : Rho} {D : Mem} {Q : Option Value → Nat → Rho → Mem → Prop} (hfr : Fr 49 ρ D) (h : Fr 58 (rc49 ρ) D → Q none 58 (rc49 ρ) D) : MOK l y3_init c3_init 2 none { frames := 1, cells := 8, slots := 1800, locals := 20 } 8 1800 X [vR X 49, vR X 12] 50 ρ D Q := by
  refine MOK_of 3 (by decide +kernel) rfl (lv := [(0, vR X 49), (1, vR X 12)]) (Nat.le_of_ble_eq_true rfl) rfl (fun K hK F hnm => ?_)
  subst hK
  have hf0 : Fr 50 ρ D := hfr.mono (by decide)
  refine r_aload_nR F 0 rfl rfl d3_init_0 ?_
  refine r_objInit F lo3_5 wi1 wi2 ⟨Nat.le_of_ble_eq_true rfl, Nat.le_of_ble_eq_true rfl⟩ d3_init_1 ?_
  refine r_aload_nR F 0 rfl rfl d3_init_4 ?_
  refine r_iconst F (z := 0) d3_init_5 ?_
  refine r_putZ0 F (hfr.1 49 (Nat.le_refl _) 1).2 lf3_11 rfl rfl ⟨rfl, by decide⟩ d3_init_6 ?_
  refine r_aload_nR F 0 rfl rfl d3_init_9 ?_
  refine r_iconst F (z := 0) d3_init_10 ?_
  refine r_putI0 F (hfr.1 49 (Nat.le_refl _) 2).2 lf3_15 rfl rfl ⟨rfl, by decide⟩ d3_init_11 ?_
  refine r_aload_nR F 0 rfl rfl d3_init_14 ?_
  refine r_lconst F (x := 0) (by decide) d3_init_15 ?_
  refine r_putL0 F (hfr.1 49 (Nat.le_refl _) 3).2 lf3_19 rfl rfl ⟨rfl, by decide⟩ d3_init_16 ?_
  refine r_aload_nR F 0 rfl rfl d3_init_19 ?_
  refine r_lconst F (x := 0) (by decide) d3_init_20 ?_
  refine r_putL0 F (hfr.1 49 (Nat.le_refl _) 4).2 lf3_23 rfl rfl ⟨rfl, by decide⟩ d3_init_21 ?_
  refine r_aload_nR F 0 rfl rfl d3_init_24 ?_
  refine r_bipush F (z := 8) (by decide) d3_init_25 ?_
  refine r_newI F (n := 50) (len := 8) wa_int rfl rfl (Nat.le_of_ble_eq_true rfl) hf0 ⟨Nat.le_of_ble_eq_true rfl, Nat.le_of_ble_eq_true rfl⟩ d3_init_27 ?_
  have hf1 := (hf0.mono (m' := 51) (by decide))
  refine r_putR F hnm (j := 5) (by decide) (by decide) rfl rfl lp3_26 (fun _ => ⟨rfl, rfl⟩) ⟨rfl, by decide⟩ d3_init_29 ?_
  have hf2 := (hf1.rset (c := 49) (i := 5) (v := 50 + 1) (by decide) (by decide))
  refine r_aload_nR F 0 rfl rfl d3_init_32 ?_
  refine r_sipush F (z := 256) (by decide) d3_init_33 ?_
  refine r_newI F (n := 51) (len := 256) wa_int rfl rfl (Nat.le_of_ble_eq_true rfl) hf2 ⟨Nat.le_of_ble_eq_true rfl, Nat.le_of_ble_eq_true rfl⟩ d3_init_36 ?_
  have hf3 := (hf2.mono (m' := 52) (by decide))
  refine r_putR F hnm (j := 6) (by decide) (by decide) rfl rfl lp3_30 (fun _ => ⟨rfl, rfl⟩) ⟨rfl, by decide⟩ d3_init_38 ?_
  have hf4 := (hf3.rset (c := 49) (i := 6) (v := 51 + 1) (by decide) (by decide))
  refine r_aload_nR F 0 rfl rfl d3_init_41 ?_
  refine r_sipush F (z := 256) (by decide) d3_init_42 ?_
  refine r_newI F (n := 52) (len := 256) wa_int rfl rfl (Nat.le_of_ble_eq_true rfl) hf4 ⟨Nat.le_of_ble_eq_true rfl, Nat.le_of_ble_eq_true rfl⟩ d3_init_45 ?_
  have hf5 := (hf4.mono (m' := 53) (by decide))
  refine r_putR F hnm (j := 7) (by decide) (by decide) rfl rfl lp3_33 (fun _ => ⟨rfl, rfl⟩) ⟨rfl, by decide⟩ d3_init_47 ?_
  have hf6 := (hf5.rset (c := 49) (i := 7) (v := 52 + 1) (by decide) (by decide))
  refine r_aload_nR F 0 rfl rfl d3_init_50 ?_
  refine r_sipush F (z := 256) (by decide) d3_init_51 ?_
  refine r_newI F (n := 53) (len := 256) wa_int rfl rfl (Nat.le_of_ble_eq_true rfl) hf6 ⟨Nat.le_of_ble_eq_true rfl, Nat.le_of_ble_eq_true rfl⟩ d3_init_54 ?_
  have hf7 := (hf6.mono (m' := 54) (by decide))
  refine r_putR F hnm (j := 8) (by decide) (by decide) rfl rfl lp3_36 (fun _ => ⟨rfl, rfl⟩) ⟨rfl, by decide⟩ d3_init_56 ?_
  have hf8 := (hf7.rset (c := 49) (i := 8) (v := 53 + 1) (by decide) (by decide))
  refine r_aload_nR F 0 rfl rfl d3_init_59 ?_
  refine r_sipush F (z := 256) (by decide) d3_init_60 ?_
  refine r_newI F (n := 54) (len := 256) wa_int rfl rfl (Nat.le_of_ble_eq_true rfl) hf8 ⟨Nat.le_of_ble_eq_true rfl, Nat.le_of_ble_eq_true rfl⟩ d3_init_63 ?_
  have hf9 := (hf8.mono (m' := 55) (by decide))
  refine r_putR F hnm (j := 9) (by decide) (by decide) rfl rfl lp3_39 (fun _ => ⟨rfl, rfl⟩) ⟨rfl, by decide⟩ d3_init_65 ?_
  have hf10 := (hf9.rset (c := 49) (i := 9) (v := 54 + 1) (by decide) (by decide))
  refine r_aload_nR F 0 rfl rfl d3_init_68 ?_
  refine r_sipush F (z := 256) (by decide) d3_init_69 ?_
  refine r_newL F (n := 55) (len := 256) wa_long rfl rfl (Nat.le_of_ble_eq_true rfl) hf10 ⟨Nat.le_of_ble_eq_true rfl, Nat.le_of_ble_eq_true rfl⟩ d3_init_72 ?_
  have hf11 := (hf10.mono (m' := 56) (by decide))
  refine r_putR F hnm (j := 10) (by decide) (by decide) rfl rfl lp3_42 (fun _ => ⟨rfl, rfl⟩) ⟨rfl, by decide⟩ d3_init_74 ?_
  have hf12 := (hf11.rset (c := 49) (i := 10) (v := 55 + 1) (by decide) (by decide))
  refine r_aload_nR F 0 rfl rfl d3_init_77 ?_
  refine r_sipush F (z := 256) (by decide) d3_init_78 ?_
  refine r_newL F (n := 56) (len := 256) wa_long rfl rfl (Nat.le_of_ble_eq_true rfl) hf12 ⟨Nat.le_of_ble_eq_true rfl, Nat.le_of_ble_eq_true rfl⟩ d3_init_81 ?_
  have hf13 := (hf12.mono (m' := 57) (by decide))
  refine r_putR F hnm (j := 11) (by decide) (by decide) rfl rfl lp3_46 (fun _ => ⟨rfl, rfl⟩) ⟨rfl, by decide⟩ d3_init_83 ?_
  have hf14 := (hf13.rset (c := 49) (i := 11) (v := 56 + 1) (by decide) (by decide))
  refine r_aload_nR F 0 rfl rfl d3_init_86 ?_
  refine r_sipush F (z := 256) (by decide) d3_init_87 ?_
  refine r_newL F (n := 57) (len := 256) wa_long rfl rfl (Nat.le_of_ble_eq_true rfl) hf14 ⟨Nat.le_of_ble_eq_true rfl, Nat.le_of_ble_eq_true rfl⟩ d3_init_90 ?_
  have hf15 := (hf14.mono (m' := 58) (by decide))
  refine r_putR F hnm (j := 12) (by decide) (by decide) rfl rfl lp3_49 (fun _ => ⟨rfl, rfl⟩) ⟨rfl, by decide⟩ d3_init_92 ?_
  have hf16 := (hf15.rset (c := 49) (i := 12) (v := 57 + 1) (by decide) (by decide))
  refine r_aload_nR F 0 rfl rfl d3_init_95 ?_
  refine r_aload_nR F 1 rfl rfl d3_init_96 ?_
  refine r_putR F hnm (j := 0) (by decide) (by decide) rfl rfl lp3_52 (fun _ => ⟨rfl, rfl⟩) ⟨rfl, by decide⟩ d3_init_97 ?_
  have hf17 := (hf16.rset (c := 49) (i := 0) (v := 12 + 1) (by decide) (by decide))
  exact r_vret F (h hf17) d3_init_100
def rc58 (ρ : Rho) : Rho := (rset (rset (rset (rset (rset (rset ρ 58 4 60) 58 5 61) 58 6 62) 58 7 63) 58 8 64) 58 0 13)
set_option maxHeartbeats 4000000 in
theorem okc58 {l : Launch} {X : XT} {ρ : Rho} {D : Mem} {Q : Option Value → Nat → Rho → Mem → Prop} (hfr : Fr 58 ρ D) (h : Fr 64 (rc58 ρ) D → Q none 64 (rc58 ρ) D) : MOK l y0_init c0_init 2 none { frames := 1, cells := 5, slots := 2584, locals := 20 } 5 2584 X [vR X 58, vR X 12] 59 ρ D Q := by
  refine MOK_of 0 (by decide +kernel) rfl (lv := [(0, vR X 58), (1, vR X 12)]) (Nat.le_of_ble_eq_true rfl) rfl (fun K hK F hnm => ?_)
  subst hK
  have hf0 : Fr 59 ρ D := hfr.mono (by decide)
  refine r_aload_nR F 0 rfl rfl d0_init_0 ?_
  refine r_objInit F lo0_3 wi1 wi2 ⟨Nat.le_of_ble_eq_true rfl, Nat.le_of_ble_eq_true rfl⟩ d0_init_1 ?_
  refine r_aload_nR F 0 rfl rfl d0_init_4 ?_
  refine r_iconst F (z := 0) d0_init_5 ?_
  refine r_putZ0 F (hfr.1 58 (Nat.le_refl _) 1).2 lf0_9 rfl rfl ⟨rfl, by decide⟩ d0_init_6 ?_
  refine r_aload_nR F 0 rfl rfl d0_init_9 ?_
  refine r_iconst F (z := 0) d0_init_10 ?_
  refine r_putI0 F (hfr.1 58 (Nat.le_refl _) 2).2 lf0_15 rfl rfl ⟨rfl, by decide⟩ d0_init_11 ?_
  refine r_aload_nR F 0 rfl rfl d0_init_14 ?_
  refine r_iconst F (z := 0) d0_init_15 ?_
  refine r_putI0 F (hfr.1 58 (Nat.le_refl _) 3).2 lf0_19 rfl rfl ⟨rfl, by decide⟩ d0_init_16 ?_
  refine r_aload_nR F 0 rfl rfl d0_init_19 ?_
  refine r_bipush F (z := 8) (by decide) d0_init_20 ?_
  refine r_newI F (n := 59) (len := 8) wa_int rfl rfl (Nat.le_of_ble_eq_true rfl) hf0 ⟨Nat.le_of_ble_eq_true rfl, Nat.le_of_ble_eq_true rfl⟩ d0_init_22 ?_
  have hf1 := (hf0.mono (m' := 60) (by decide))
  refine r_putR F hnm (j := 4) (by decide) (by decide) rfl rfl lp0_22 (fun _ => ⟨rfl, rfl⟩) ⟨rfl, by decide⟩ d0_init_24 ?_
  have hf2 := (hf1.rset (c := 58) (i := 4) (v := 59 + 1) (by decide) (by decide))
  refine r_aload_nR F 0 rfl rfl d0_init_27 ?_
  refine r_bipush F (z := 8) (by decide) d0_init_28 ?_
  refine r_newI F (n := 60) (len := 8) wa_int rfl rfl (Nat.le_of_ble_eq_true rfl) hf2 ⟨Nat.le_of_ble_eq_true rfl, Nat.le_of_ble_eq_true rfl⟩ d0_init_30 ?_
  have hf3 := (hf2.mono (m' := 61) (by decide))
  refine r_putR F hnm (j := 5) (by decide) (by decide) rfl rfl lp0_26 (fun _ => ⟨rfl, rfl⟩) ⟨rfl, by decide⟩ d0_init_32 ?_
  have hf4 := (hf3.rset (c := 58) (i := 5) (v := 60 + 1) (by decide) (by decide))
  refine r_aload_nR F 0 rfl rfl d0_init_35 ?_
  refine r_bipush F (z := 8) (by decide) d0_init_36 ?_
  refine r_newI F (n := 61) (len := 8) wa_int rfl rfl (Nat.le_of_ble_eq_true rfl) hf4 ⟨Nat.le_of_ble_eq_true rfl, Nat.le_of_ble_eq_true rfl⟩ d0_init_38 ?_
  have hf5 := (hf4.mono (m' := 62) (by decide))
  refine r_putR F hnm (j := 6) (by decide) (by decide) rfl rfl lp0_29 (fun _ => ⟨rfl, rfl⟩) ⟨rfl, by decide⟩ d0_init_40 ?_
  have hf6 := (hf5.rset (c := 58) (i := 6) (v := 61 + 1) (by decide) (by decide))
  refine r_aload_nR F 0 rfl rfl d0_init_43 ?_
  refine r_sipush F (z := 2304) (by decide) d0_init_44 ?_
  refine r_newI F (n := 62) (len := 2304) wa_int rfl rfl (Nat.le_of_ble_eq_true rfl) hf6 ⟨Nat.le_of_ble_eq_true rfl, Nat.le_of_ble_eq_true rfl⟩ d0_init_47 ?_
  have hf7 := (hf6.mono (m' := 63) (by decide))
  refine r_putR F hnm (j := 7) (by decide) (by decide) rfl rfl lp0_32 (fun _ => ⟨rfl, rfl⟩) ⟨rfl, by decide⟩ d0_init_49 ?_
  have hf8 := (hf7.rset (c := 58) (i := 7) (v := 62 + 1) (by decide) (by decide))
  refine r_aload_nR F 0 rfl rfl d0_init_52 ?_
  refine r_sipush F (z := 256) (by decide) d0_init_53 ?_
  refine r_newI F (n := 63) (len := 256) wa_int rfl rfl (Nat.le_of_ble_eq_true rfl) hf8 ⟨Nat.le_of_ble_eq_true rfl, Nat.le_of_ble_eq_true rfl⟩ d0_init_56 ?_
  have hf9 := (hf8.mono (m' := 64) (by decide))
  refine r_putR F hnm (j := 8) (by decide) (by decide) rfl rfl lp0_35 (fun _ => ⟨rfl, rfl⟩) ⟨rfl, by decide⟩ d0_init_58 ?_
  have hf10 := (hf9.rset (c := 58) (i := 8) (v := 63 + 1) (by decide) (by decide))
  refine r_aload_nR F 0 rfl rfl d0_init_61 ?_
  refine r_aload_nR F 1 rfl rfl d0_init_62 ?_
  refine r_putR F hnm (j := 0) (by decide) (by decide) rfl rfl lp0_38 (fun _ => ⟨rfl, rfl⟩) ⟨rfl, by decide⟩ d0_init_63 ?_
  have hf11 := (hf10.rset (c := 58) (i := 0) (v := 12 + 1) (by decide) (by decide))
  exact r_vret F (h hf11) d0_init_66
def rc64 (ρ : Rho) : Rho := (rset (rset (rset ρ 64 2 66) 64 3 67) 64 0 13)
set_option maxHeartbeats 4000000 in
theorem okc64 {l : Launch} {X : XT} {ρ : Rho} {D : Mem} {Q : Option Value → Nat → Rho → Mem → Prop} (hfr : Fr 64 ρ D) (h : Fr 67 (rc64 ρ) D → Q none 67 (rc64 ρ) D) : MOK l y1_init c1_init 2 none { frames := 1, cells := 2, slots := 512, locals := 20 } 2 512 X [vR X 64, vR X 12] 65 ρ D Q := by
  refine MOK_of 1 (by decide +kernel) rfl (lv := [(0, vR X 64), (1, vR X 12)]) (Nat.le_of_ble_eq_true rfl) rfl (fun K hK F hnm => ?_)
  subst hK
  have hf0 : Fr 65 ρ D := hfr.mono (by decide)
  refine r_aload_nR F 0 rfl rfl d1_init_0 ?_
  refine r_objInit F lo1_3 wi1 wi2 ⟨Nat.le_of_ble_eq_true rfl, Nat.le_of_ble_eq_true rfl⟩ d1_init_1 ?_
  refine r_aload_nR F 0 rfl rfl d1_init_4 ?_
  refine r_iconst F (z := 0) d1_init_5 ?_
  refine r_putZ0 F (hfr.1 64 (Nat.le_refl _) 1).2 lf1_9 rfl rfl ⟨rfl, by decide⟩ d1_init_6 ?_
  refine r_aload_nR F 0 rfl rfl d1_init_9 ?_
  refine r_sipush F (z := 256) (by decide) d1_init_10 ?_
  refine r_newI F (n := 65) (len := 256) wa_int rfl rfl (Nat.le_of_ble_eq_true rfl) hf0 ⟨Nat.le_of_ble_eq_true rfl, Nat.le_of_ble_eq_true rfl⟩ d1_init_13 ?_
  have hf1 := (hf0.mono (m' := 66) (by decide))
  refine r_putR F hnm (j := 2) (by decide) (by decide) rfl rfl lp1_15 (fun _ => ⟨rfl, rfl⟩) ⟨rfl, by decide⟩ d1_init_15 ?_
  have hf2 := (hf1.rset (c := 64) (i := 2) (v := 65 + 1) (by decide) (by decide))
  refine r_aload_nR F 0 rfl rfl d1_init_18 ?_
  refine r_sipush F (z := 256) (by decide) d1_init_19 ?_
  refine r_newI F (n := 66) (len := 256) wa_int rfl rfl (Nat.le_of_ble_eq_true rfl) hf2 ⟨Nat.le_of_ble_eq_true rfl, Nat.le_of_ble_eq_true rfl⟩ d1_init_22 ?_
  have hf3 := (hf2.mono (m' := 67) (by decide))
  refine r_putR F hnm (j := 3) (by decide) (by decide) rfl rfl lp1_19 (fun _ => ⟨rfl, rfl⟩) ⟨rfl, by decide⟩ d1_init_24 ?_
  have hf4 := (hf3.rset (c := 64) (i := 3) (v := 66 + 1) (by decide) (by decide))
  refine r_aload_nR F 0 rfl rfl d1_init_27 ?_
  refine r_aload_nR F 1 rfl rfl d1_init_28 ?_
  refine r_putR F hnm (j := 0) (by decide) (by decide) rfl rfl lp1_22 (fun _ => ⟨rfl, rfl⟩) ⟨rfl, by decide⟩ d1_init_29 ?_
  have hf5 := (hf4.rset (c := 64) (i := 0) (v := 12 + 1) (by decide) (by decide))
  exact r_vret F (h hf5) d1_init_32
def rc70 (ρ : Rho) : Rho := (rset (rset (rset (rset (rset (rset (rset (rset (rset (rset (rset (rset (rset ρ 70 5 72) 70 6 73) 70 7 74) 70 8 75) 70 9 76) 70 10 77) 70 11 78) 70 12 79) 70 13 80) 70 14 81) 70 15 82) 70 16 83) 70 0 13)
set_option maxHeartbeats 4000000 in
theorem okc70 {l : Launch} {X : XT} {ρ : Rho} {D : Mem} {Q : Option Value → Nat → Rho → Mem → Prop} (hfr : Fr 70 ρ D) (h : Fr 83 (rc70 ρ) D → Q none 83 (rc70 ρ) D) : MOK l y8_init c8_init 2 none { frames := 1, cells := 12, slots := 120, locals := 20 } 12 120 X [vR X 70, vR X 12] 71 ρ D Q := by
  refine MOK_of 8 (by decide +kernel) rfl (lv := [(0, vR X 70), (1, vR X 12)]) (Nat.le_of_ble_eq_true rfl) rfl (fun K hK F hnm => ?_)
  subst hK
  have hf0 : Fr 71 ρ D := hfr.mono (by decide)
  refine r_aload_nR F 0 rfl rfl d8_init_0 ?_
  refine r_objInit F lo8_3 wi1 wi2 ⟨Nat.le_of_ble_eq_true rfl, Nat.le_of_ble_eq_true rfl⟩ d8_init_1 ?_
  refine r_aload_nR F 0 rfl rfl d8_init_4 ?_
  refine r_iconst F (z := 0) d8_init_5 ?_
  refine r_putI0 F (hfr.1 70 (Nat.le_refl _) 1).2 lf8_9 rfl rfl ⟨rfl, by decide⟩ d8_init_6 ?_
  refine r_aload_nR F 0 rfl rfl d8_init_9 ?_
  refine r_iconst F (z := 0) d8_init_10 ?_
  refine r_putI0 F (hfr.1 70 (Nat.le_refl _) 2).2 lf8_15 rfl rfl ⟨rfl, by decide⟩ d8_init_11 ?_
  refine r_aload_nR F 0 rfl rfl d8_init_14 ?_
  refine r_iconst F (z := 0) d8_init_15 ?_
  refine r_putI0 F (hfr.1 70 (Nat.le_refl _) 3).2 lf8_18 rfl rfl ⟨rfl, by decide⟩ d8_init_16 ?_
  refine r_aload_nR F 0 rfl rfl d8_init_19 ?_
  refine r_iconst F (z := 0) d8_init_20 ?_
  refine r_putI0 F (hfr.1 70 (Nat.le_refl _) 4).2 lf8_21 rfl rfl ⟨rfl, by decide⟩ d8_init_21 ?_
  refine r_aload_nR F 0 rfl rfl d8_init_24 ?_
  refine r_bipush F (z := 8) (by decide) d8_init_25 ?_
  refine r_newI F (n := 71) (len := 8) wa_int rfl rfl (Nat.le_of_ble_eq_true rfl) hf0 ⟨Nat.le_of_ble_eq_true rfl, Nat.le_of_ble_eq_true rfl⟩ d8_init_27 ?_
  have hf1 := (hf0.mono (m' := 72) (by decide))
  refine r_putR F hnm (j := 5) (by decide) (by decide) rfl rfl lp8_24 (fun _ => ⟨rfl, rfl⟩) ⟨rfl, by decide⟩ d8_init_29 ?_
  have hf2 := (hf1.rset (c := 70) (i := 5) (v := 71 + 1) (by decide) (by decide))
  refine r_aload_nR F 0 rfl rfl d8_init_32 ?_
  refine r_bipush F (z := 8) (by decide) d8_init_33 ?_
  refine r_newI F (n := 72) (len := 8) wa_int rfl rfl (Nat.le_of_ble_eq_true rfl) hf2 ⟨Nat.le_of_ble_eq_true rfl, Nat.le_of_ble_eq_true rfl⟩ d8_init_35 ?_
  have hf3 := (hf2.mono (m' := 73) (by decide))
  refine r_putR F hnm (j := 6) (by decide) (by decide) rfl rfl lp8_28 (fun _ => ⟨rfl, rfl⟩) ⟨rfl, by decide⟩ d8_init_37 ?_
  have hf4 := (hf3.rset (c := 70) (i := 6) (v := 72 + 1) (by decide) (by decide))
  refine r_aload_nR F 0 rfl rfl d8_init_40 ?_
  refine r_bipush F (z := 8) (by decide) d8_init_41 ?_
  refine r_newI F (n := 73) (len := 8) wa_int rfl rfl (Nat.le_of_ble_eq_true rfl) hf4 ⟨Nat.le_of_ble_eq_true rfl, Nat.le_of_ble_eq_true rfl⟩ d8_init_43 ?_
  have hf5 := (hf4.mono (m' := 74) (by decide))
  refine r_putR F hnm (j := 7) (by decide) (by decide) rfl rfl lp8_31 (fun _ => ⟨rfl, rfl⟩) ⟨rfl, by decide⟩ d8_init_45 ?_
  have hf6 := (hf5.rset (c := 70) (i := 7) (v := 73 + 1) (by decide) (by decide))
  refine r_aload_nR F 0 rfl rfl d8_init_48 ?_
  refine r_bipush F (z := 8) (by decide) d8_init_49 ?_
  refine r_newI F (n := 74) (len := 8) wa_int rfl rfl (Nat.le_of_ble_eq_true rfl) hf6 ⟨Nat.le_of_ble_eq_true rfl, Nat.le_of_ble_eq_true rfl⟩ d8_init_51 ?_
  have hf7 := (hf6.mono (m' := 75) (by decide))
  refine r_putR F hnm (j := 8) (by decide) (by decide) rfl rfl lp8_34 (fun _ => ⟨rfl, rfl⟩) ⟨rfl, by decide⟩ d8_init_53 ?_
  have hf8 := (hf7.rset (c := 70) (i := 8) (v := 74 + 1) (by decide) (by decide))
  refine r_aload_nR F 0 rfl rfl d8_init_56 ?_
  refine r_bipush F (z := 8) (by decide) d8_init_57 ?_
  refine r_newI F (n := 75) (len := 8) wa_int rfl rfl (Nat.le_of_ble_eq_true rfl) hf8 ⟨Nat.le_of_ble_eq_true rfl, Nat.le_of_ble_eq_true rfl⟩ d8_init_59 ?_
  have hf9 := (hf8.mono (m' := 76) (by decide))
  refine r_putR F hnm (j := 9) (by decide) (by decide) rfl rfl lp8_37 (fun _ => ⟨rfl, rfl⟩) ⟨rfl, by decide⟩ d8_init_61 ?_
  have hf10 := (hf9.rset (c := 70) (i := 9) (v := 75 + 1) (by decide) (by decide))
  refine r_aload_nR F 0 rfl rfl d8_init_64 ?_
  refine r_bipush F (z := 8) (by decide) d8_init_65 ?_
  refine r_newI F (n := 76) (len := 8) wa_int rfl rfl (Nat.le_of_ble_eq_true rfl) hf10 ⟨Nat.le_of_ble_eq_true rfl, Nat.le_of_ble_eq_true rfl⟩ d8_init_67 ?_
  have hf11 := (hf10.mono (m' := 77) (by decide))
  refine r_putR F hnm (j := 10) (by decide) (by decide) rfl rfl lp8_40 (fun _ => ⟨rfl, rfl⟩) ⟨rfl, by decide⟩ d8_init_69 ?_
  have hf12 := (hf11.rset (c := 70) (i := 10) (v := 76 + 1) (by decide) (by decide))
  refine r_aload_nR F 0 rfl rfl d8_init_72 ?_
  refine r_bipush F (z := 12) (by decide) d8_init_73 ?_
  refine r_newI F (n := 77) (len := 12) wa_int rfl rfl (Nat.le_of_ble_eq_true rfl) hf12 ⟨Nat.le_of_ble_eq_true rfl, Nat.le_of_ble_eq_true rfl⟩ d8_init_75 ?_
  have hf13 := (hf12.mono (m' := 78) (by decide))
  refine r_putR F hnm (j := 11) (by decide) (by decide) rfl rfl lp8_43 (fun _ => ⟨rfl, rfl⟩) ⟨rfl, by decide⟩ d8_init_77 ?_
  have hf14 := (hf13.rset (c := 70) (i := 11) (v := 77 + 1) (by decide) (by decide))
  refine r_aload_nR F 0 rfl rfl d8_init_80 ?_
  refine r_bipush F (z := 12) (by decide) d8_init_81 ?_
  refine r_newI F (n := 78) (len := 12) wa_int rfl rfl (Nat.le_of_ble_eq_true rfl) hf14 ⟨Nat.le_of_ble_eq_true rfl, Nat.le_of_ble_eq_true rfl⟩ d8_init_83 ?_
  have hf15 := (hf14.mono (m' := 79) (by decide))
  refine r_putR F hnm (j := 12) (by decide) (by decide) rfl rfl lp8_46 (fun _ => ⟨rfl, rfl⟩) ⟨rfl, by decide⟩ d8_init_85 ?_
  have hf16 := (hf15.rset (c := 70) (i := 12) (v := 78 + 1) (by decide) (by decide))
  refine r_aload_nR F 0 rfl rfl d8_init_88 ?_
  refine r_bipush F (z := 12) (by decide) d8_init_89 ?_
  refine r_newI F (n := 79) (len := 12) wa_int rfl rfl (Nat.le_of_ble_eq_true rfl) hf16 ⟨Nat.le_of_ble_eq_true rfl, Nat.le_of_ble_eq_true rfl⟩ d8_init_91 ?_
  have hf17 := (hf16.mono (m' := 80) (by decide))
  refine r_putR F hnm (j := 13) (by decide) (by decide) rfl rfl lp8_49 (fun _ => ⟨rfl, rfl⟩) ⟨rfl, by decide⟩ d8_init_93 ?_
  have hf18 := (hf17.rset (c := 70) (i := 13) (v := 79 + 1) (by decide) (by decide))
  refine r_aload_nR F 0 rfl rfl d8_init_96 ?_
  refine r_bipush F (z := 12) (by decide) d8_init_97 ?_
  refine r_newI F (n := 80) (len := 12) wa_int rfl rfl (Nat.le_of_ble_eq_true rfl) hf18 ⟨Nat.le_of_ble_eq_true rfl, Nat.le_of_ble_eq_true rfl⟩ d8_init_99 ?_
  have hf19 := (hf18.mono (m' := 81) (by decide))
  refine r_putR F hnm (j := 14) (by decide) (by decide) rfl rfl lp8_52 (fun _ => ⟨rfl, rfl⟩) ⟨rfl, by decide⟩ d8_init_101 ?_
  have hf20 := (hf19.rset (c := 70) (i := 14) (v := 80 + 1) (by decide) (by decide))
  refine r_aload_nR F 0 rfl rfl d8_init_104 ?_
  refine r_bipush F (z := 12) (by decide) d8_init_105 ?_
  refine r_newI F (n := 81) (len := 12) wa_int rfl rfl (Nat.le_of_ble_eq_true rfl) hf20 ⟨Nat.le_of_ble_eq_true rfl, Nat.le_of_ble_eq_true rfl⟩ d8_init_107 ?_
  have hf21 := (hf20.mono (m' := 82) (by decide))
  refine r_putR F hnm (j := 15) (by decide) (by decide) rfl rfl lp8_55 (fun _ => ⟨rfl, rfl⟩) ⟨rfl, by decide⟩ d8_init_109 ?_
  have hf22 := (hf21.rset (c := 70) (i := 15) (v := 81 + 1) (by decide) (by decide))
  refine r_aload_nR F 0 rfl rfl d8_init_112 ?_
  refine r_bipush F (z := 12) (by decide) d8_init_113 ?_
  refine r_newI F (n := 82) (len := 12) wa_int rfl rfl (Nat.le_of_ble_eq_true rfl) hf22 ⟨Nat.le_of_ble_eq_true rfl, Nat.le_of_ble_eq_true rfl⟩ d8_init_115 ?_
  have hf23 := (hf22.mono (m' := 83) (by decide))
  refine r_putR F hnm (j := 16) (by decide) (by decide) rfl rfl lp8_58 (fun _ => ⟨rfl, rfl⟩) ⟨rfl, by decide⟩ d8_init_117 ?_
  have hf24 := (hf23.rset (c := 70) (i := 16) (v := 82 + 1) (by decide) (by decide))
  refine r_aload_nR F 0 rfl rfl d8_init_120 ?_
  refine r_aload_nR F 1 rfl rfl d8_init_121 ?_
  refine r_putR F hnm (j := 0) (by decide) (by decide) rfl rfl lp8_61 (fun _ => ⟨rfl, rfl⟩) ⟨rfl, by decide⟩ d8_init_122 ?_
  have hf25 := (hf24.rset (c := 70) (i := 0) (v := 12 + 1) (by decide) (by decide))
  exact r_vret F (h hf25) d8_init_125
def rc67 (ρ : Rho) : Rho := (rset (rc70 (rset (rset (rset ρ 67 5 69) 67 6 70) 67 0 13)) 67 1 71)
set_option maxHeartbeats 4000000 in
theorem okc67 {l : Launch} {X : XT} {ρ : Rho} {D : Mem} {Q : Option Value → Nat → Rho → Mem → Prop} (hfr : Fr 67 ρ D) (h : Fr 83 (rc67 ρ) (mset D 67 3 (-1)) → Q none 83 (rc67 ρ) (mset D 67 3 (-1))) : MOK l y6_init c6_init 2 none { frames := 2, cells := 15, slots := 266, locals := 41 } 15 266 X [vR X 67, vR X 12] 68 ρ D Q := by
  refine MOK_of 6 (by decide +kernel) rfl (lv := [(0, vR X 67), (1, vR X 12)]) (Nat.le_of_ble_eq_true rfl) rfl (fun K hK F hnm => ?_)
  subst hK
  have hf0 : Fr 68 ρ D := hfr.mono (by decide)
  refine r_aload_nR F 0 rfl rfl d6_init_0 ?_
  refine r_objInit F lo6_3 wi1 wi2 ⟨Nat.le_of_ble_eq_true rfl, Nat.le_of_ble_eq_true rfl⟩ d6_init_1 ?_
  refine r_aload_nR F 0 rfl rfl d6_init_4 ?_
  refine r_iconst F (z := 0) d6_init_5 ?_
  refine r_putI0 F (hfr.1 67 (Nat.le_refl _) 2).2 lf6_9 rfl rfl ⟨rfl, by decide⟩ d6_init_6 ?_
  refine r_aload_nR F 0 rfl rfl d6_init_9 ?_
  refine r_iconst F (z := (-1)) d6_init_10 ?_
  refine r_putI F lf6_15 rfl rfl ⟨rfl, by decide⟩ d6_init_11 ?_
  have hf1 := (hf0.mset (c := 67) (i := 3) (v := (-1)) (by decide))
  refine r_aload_nR F 0 rfl rfl d6_init_14 ?_
  refine r_iconst F (z := 0) d6_init_15 ?_
  refine r_putI0 F ((mset_other (by decide)).trans (hfr.1 67 (Nat.le_refl _) 4).2) lf6_18 rfl rfl ⟨rfl, by decide⟩ d6_init_16 ?_
  refine r_aload_nR F 0 rfl rfl d6_init_19 ?_
  refine r_bipush F (z := 108) (by decide) d6_init_20 ?_
  refine r_newI F (n := 68) (len := 108) wa_int rfl rfl (Nat.le_of_ble_eq_true rfl) hf1 ⟨Nat.le_of_ble_eq_true rfl, Nat.le_of_ble_eq_true rfl⟩ d6_init_22 ?_
  have hf2 := (hf1.mono (m' := 69) (by decide))
  refine r_putR F hnm (j := 5) (by decide) (by decide) rfl rfl lp6_21 (fun _ => ⟨rfl, rfl⟩) ⟨rfl, by decide⟩ d6_init_24 ?_
  have hf3 := (hf2.rset (c := 67) (i := 5) (v := 68 + 1) (by decide) (by decide))
  refine r_aload_nR F 0 rfl rfl d6_init_27 ?_
  refine r_bipush F (z := 21) (by decide) d6_init_28 ?_
  refine r_newI F (n := 69) (len := 21) wa_int rfl rfl (Nat.le_of_ble_eq_true rfl) hf3 ⟨Nat.le_of_ble_eq_true rfl, Nat.le_of_ble_eq_true rfl⟩ d6_init_30 ?_
  have hf4 := (hf3.mono (m' := 70) (by decide))
  refine r_putR F hnm (j := 6) (by decide) (by decide) rfl rfl lp6_25 (fun _ => ⟨rfl, rfl⟩) ⟨rfl, by decide⟩ d6_init_32 ?_
  have hf5 := (hf4.rset (c := 67) (i := 6) (v := 69 + 1) (by decide) (by decide))
  refine r_aload_nR F 0 rfl rfl d6_init_35 ?_
  refine r_aload_nR F 1 rfl rfl d6_init_36 ?_
  refine r_putR F hnm (j := 0) (by decide) (by decide) rfl rfl lp6_28 (fun _ => ⟨rfl, rfl⟩) ⟨rfl, by decide⟩ d6_init_37 ?_
  have hf6 := (hf5.rset (c := 67) (i := 0) (v := 12 + 1) (by decide) (by decide))
  refine r_aload_nR F 0 rfl rfl d6_init_40 ?_
  refine r_new F wc6_32 wins8 wini8 (by decide) (n := 70) rfl hf6 ⟨Nat.le_of_ble_eq_true rfl, Nat.le_of_ble_eq_true rfl⟩ d6_init_41 ?_
  refine r_dup F rfl d6_init_44 ?_
  refine r_aload_nR F 1 rfl rfl d6_init_45 ?_
  refine r_callC F lm6_34 ma8_init mi8_init rfl (mc := 12) (ms := 120) (rmy := { frames := 1, cells := 12, slots := 120, locals := 20 }) (As := [vR X 12]) (rest := [vR X 70, vR X 67]) rfl rfl rfl ⟨Nat.le_of_ble_eq_true rfl, Nat.le_of_ble_eq_true rfl⟩ rfl (Nat.le_of_ble_eq_true rfl) ⟨Nat.le_of_ble_eq_true rfl, Nat.le_of_ble_eq_true rfl⟩ d6_init_46 ?_
  refine okc70 hf6 (fun hf7 => ?_)
  show At K X _ _ _ 83 _ 2 49 [(0, vR X 67), (1, vR X 12)] [vR X 70, vR X 67] _
  refine r_putR F hnm (j := 1) (by decide) (by decide) rfl rfl lp6_37 (fun _ => ⟨rfl, rfl⟩) ⟨rfl, by decide⟩ d6_init_49 ?_
  have hf8 := (hf7.rset (c := 67) (i := 1) (v := 70 + 1) (by decide) (by decide))
  exact r_vret F (h hf8) d6_init_52
def rc85 (ρ : Rho) : Rho := (rset (rset (rset (rset (rset (rset (rset ρ 85 10 87) 85 11 88) 85 12 89) 85 13 90) 85 14 91) 85 15 92) 85 16 93)
set_option maxHeartbeats 4000000 in
theorem okc85 {l : Launch} {X : XT} {ρ : Rho} {D : Mem} {Q : Option Value → Nat → Rho → Mem → Prop} (hfr : Fr 85 ρ D) (h : Fr 93 (rc85 ρ) D → Q none 93 (rc85 ρ) D) : MOK l y2_init c2_init 1 none { frames := 1, cells := 7, slots := 122, locals := 20 } 7 122 X [vR X 85] 86 ρ D Q := by
  refine MOK_of 2 (by decide +kernel) rfl (lv := [(0, vR X 85)]) (Nat.le_of_ble_eq_true rfl) rfl (fun K hK F hnm => ?_)
  subst hK
  have hf0 : Fr 86 ρ D := hfr.mono (by decide)
  refine r_aload_nR F 0 rfl rfl d2_init_0 ?_
  refine r_objInit F lo2_3 wi1 wi2 ⟨Nat.le_of_ble_eq_true rfl, Nat.le_of_ble_eq_true rfl⟩ d2_init_1 ?_
  refine r_aload_nR F 0 rfl rfl d2_init_4 ?_
  refine r_iconst F (z := 0) d2_init_5 ?_
  refine r_putI0 F (hfr.1 85 (Nat.le_refl _) 0).2 lf2_9 rfl rfl ⟨rfl, by decide⟩ d2_init_6 ?_
  refine r_aload_nR F 0 rfl rfl d2_init_9 ?_
  refine r_iconst F (z := 0) d2_init_10 ?_
  refine r_putI0 F (hfr.1 85 (Nat.le_refl _) 1).2 lf2_15 rfl rfl ⟨rfl, by decide⟩ d2_init_11 ?_
  refine r_aload_nR F 0 rfl rfl d2_init_14 ?_
  refine r_iconst F (z := 0) d2_init_15 ?_
  refine r_putI0 F (hfr.1 85 (Nat.le_refl _) 2).2 lf2_18 rfl rfl ⟨rfl, by decide⟩ d2_init_16 ?_
  refine r_aload_nR F 0 rfl rfl d2_init_19 ?_
  refine r_iconst F (z := 0) d2_init_20 ?_
  refine r_putI0 F (hfr.1 85 (Nat.le_refl _) 3).2 lf2_21 rfl rfl ⟨rfl, by decide⟩ d2_init_21 ?_
  refine r_aload_nR F 0 rfl rfl d2_init_24 ?_
  refine r_iconst F (z := 0) d2_init_25 ?_
  refine r_putI0 F (hfr.1 85 (Nat.le_refl _) 4).2 lf2_24 rfl rfl ⟨rfl, by decide⟩ d2_init_26 ?_
  refine r_aload_nR F 0 rfl rfl d2_init_29 ?_
  refine r_iconst F (z := 0) d2_init_30 ?_
  refine r_putI0 F (hfr.1 85 (Nat.le_refl _) 5).2 lf2_27 rfl rfl ⟨rfl, by decide⟩ d2_init_31 ?_
  refine r_aload_nR F 0 rfl rfl d2_init_34 ?_
  refine r_iconst F (z := 0) d2_init_35 ?_
  refine r_putI0 F (hfr.1 85 (Nat.le_refl _) 6).2 lf2_30 rfl rfl ⟨rfl, by decide⟩ d2_init_36 ?_
  refine r_aload_nR F 0 rfl rfl d2_init_39 ?_
  refine r_iconst F (z := 0) d2_init_40 ?_
  refine r_putI0 F (hfr.1 85 (Nat.le_refl _) 7).2 lf2_33 rfl rfl ⟨rfl, by decide⟩ d2_init_41 ?_
  refine r_aload_nR F 0 rfl rfl d2_init_44 ?_
  refine r_iconst F (z := 0) d2_init_45 ?_
  refine r_putI0 F (hfr.1 85 (Nat.le_refl _) 8).2 lf2_36 rfl rfl ⟨rfl, by decide⟩ d2_init_46 ?_
  refine r_aload_nR F 0 rfl rfl d2_init_49 ?_
  refine r_iconst F (z := 0) d2_init_50 ?_
  refine r_putI0 F (hfr.1 85 (Nat.le_refl _) 9).2 lf2_39 rfl rfl ⟨rfl, by decide⟩ d2_init_51 ?_
  refine r_aload_nR F 0 rfl rfl d2_init_54 ?_
  refine r_bipush F (z := 8) (by decide) d2_init_55 ?_
  refine r_newI F (n := 86) (len := 8) wa_int rfl rfl (Nat.le_of_ble_eq_true rfl) hf0 ⟨Nat.le_of_ble_eq_true rfl, Nat.le_of_ble_eq_true rfl⟩ d2_init_57 ?_
  have hf1 := (hf0.mono (m' := 87) (by decide))
  refine r_putR F hnm (j := 10) (by decide) (by decide) rfl rfl lp2_42 (fun _ => ⟨rfl, rfl⟩) ⟨rfl, by decide⟩ d2_init_59 ?_
  have hf2 := (hf1.rset (c := 85) (i := 10) (v := 86 + 1) (by decide) (by decide))
  refine r_aload_nR F 0 rfl rfl d2_init_62 ?_
  refine r_bipush F (z := 8) (by decide) d2_init_63 ?_
  refine r_newI F (n := 87) (len := 8) wa_int rfl rfl (Nat.le_of_ble_eq_true rfl) hf2 ⟨Nat.le_of_ble_eq_true rfl, Nat.le_of_ble_eq_true rfl⟩ d2_init_65 ?_
  have hf3 := (hf2.mono (m' := 88) (by decide))
  refine r_putR F hnm (j := 11) (by decide) (by decide) rfl rfl lp2_46 (fun _ => ⟨rfl, rfl⟩) ⟨rfl, by decide⟩ d2_init_67 ?_
  have hf4 := (hf3.rset (c := 85) (i := 11) (v := 87 + 1) (by decide) (by decide))
  refine r_aload_nR F 0 rfl rfl d2_init_70 ?_
  refine r_bipush F (z := 8) (by decide) d2_init_71 ?_
  refine r_newI F (n := 88) (len := 8) wa_int rfl rfl (Nat.le_of_ble_eq_true rfl) hf4 ⟨Nat.le_of_ble_eq_true rfl, Nat.le_of_ble_eq_true rfl⟩ d2_init_73 ?_
  have hf5 := (hf4.mono (m' := 89) (by decide))
  refine r_putR F hnm (j := 12) (by decide) (by decide) rfl rfl lp2_49 (fun _ => ⟨rfl, rfl⟩) ⟨rfl, by decide⟩ d2_init_75 ?_
  have hf6 := (hf5.rset (c := 85) (i := 12) (v := 88 + 1) (by decide) (by decide))
  refine r_aload_nR F 0 rfl rfl d2_init_78 ?_
  refine r_bipush F (z := 8) (by decide) d2_init_79 ?_
  refine r_newI F (n := 89) (len := 8) wa_int rfl rfl (Nat.le_of_ble_eq_true rfl) hf6 ⟨Nat.le_of_ble_eq_true rfl, Nat.le_of_ble_eq_true rfl⟩ d2_init_81 ?_
  have hf7 := (hf6.mono (m' := 90) (by decide))
  refine r_putR F hnm (j := 13) (by decide) (by decide) rfl rfl lp2_52 (fun _ => ⟨rfl, rfl⟩) ⟨rfl, by decide⟩ d2_init_83 ?_
  have hf8 := (hf7.rset (c := 85) (i := 13) (v := 89 + 1) (by decide) (by decide))
  refine r_aload_nR F 0 rfl rfl d2_init_86 ?_
  refine r_bipush F (z := 30) (by decide) d2_init_87 ?_
  refine r_newI F (n := 90) (len := 30) wa_int rfl rfl (Nat.le_of_ble_eq_true rfl) hf8 ⟨Nat.le_of_ble_eq_true rfl, Nat.le_of_ble_eq_true rfl⟩ d2_init_89 ?_
  have hf9 := (hf8.mono (m' := 91) (by decide))
  refine r_putR F hnm (j := 14) (by decide) (by decide) rfl rfl lp2_55 (fun _ => ⟨rfl, rfl⟩) ⟨rfl, by decide⟩ d2_init_91 ?_
  have hf10 := (hf9.rset (c := 85) (i := 14) (v := 90 + 1) (by decide) (by decide))
  refine r_aload_nR F 0 rfl rfl d2_init_94 ?_
  refine r_bipush F (z := 30) (by decide) d2_init_95 ?_
  refine r_newI F (n := 91) (len := 30) wa_int rfl rfl (Nat.le_of_ble_eq_true rfl) hf10 ⟨Nat.le_of_ble_eq_true rfl, Nat.le_of_ble_eq_true rfl⟩ d2_init_97 ?_
  have hf11 := (hf10.mono (m' := 92) (by decide))
  refine r_putR F hnm (j := 15) (by decide) (by decide) rfl rfl lp2_58 (fun _ => ⟨rfl, rfl⟩) ⟨rfl, by decide⟩ d2_init_99 ?_
  have hf12 := (hf11.rset (c := 85) (i := 15) (v := 91 + 1) (by decide) (by decide))
  refine r_aload_nR F 0 rfl rfl d2_init_102 ?_
  refine r_bipush F (z := 30) (by decide) d2_init_103 ?_
  refine r_newI F (n := 92) (len := 30) wa_int rfl rfl (Nat.le_of_ble_eq_true rfl) hf12 ⟨Nat.le_of_ble_eq_true rfl, Nat.le_of_ble_eq_true rfl⟩ d2_init_105 ?_
  have hf13 := (hf12.mono (m' := 93) (by decide))
  refine r_putR F hnm (j := 16) (by decide) (by decide) rfl rfl lp2_61 (fun _ => ⟨rfl, rfl⟩) ⟨rfl, by decide⟩ d2_init_107 ?_
  have hf14 := (hf13.rset (c := 85) (i := 16) (v := 92 + 1) (by decide) (by decide))
  exact r_vret F (h hf14) d2_init_110
def rc93 (ρ : Rho) : Rho := (rset (rset (rset (rset (rset (rset (rset ρ 93 10 95) 93 11 96) 93 12 97) 93 13 98) 93 14 99) 93 15 100) 93 16 101)
set_option maxHeartbeats 4000000 in
theorem okc93 {l : Launch} {X : XT} {ρ : Rho} {D : Mem} {Q : Option Value → Nat → Rho → Mem → Prop} (hfr : Fr 93 ρ D) (h : Fr 101 (rc93 ρ) D → Q none 101 (rc93 ρ) D) : MOK l y2_init c2_init 1 none { frames := 1, cells := 7, slots := 122, locals := 20 } 7 122 X [vR X 93] 94 ρ D Q := by
  refine MOK_of 2 (by decide +kernel) rfl (lv := [(0, vR X 93)]) (Nat.le_of_ble_eq_true rfl) rfl (fun K hK F hnm => ?_)
  subst hK
  have hf0 : Fr 94 ρ D := hfr.mono (by decide)
  refine r_aload_nR F 0 rfl rfl d2_init_0 ?_
  refine r_objInit F lo2_3 wi1 wi2 ⟨Nat.le_of_ble_eq_true rfl, Nat.le_of_ble_eq_true rfl⟩ d2_init_1 ?_
  refine r_aload_nR F 0 rfl rfl d2_init_4 ?_
  refine r_iconst F (z := 0) d2_init_5 ?_
  refine r_putI0 F (hfr.1 93 (Nat.le_refl _) 0).2 lf2_9 rfl rfl ⟨rfl, by decide⟩ d2_init_6 ?_
  refine r_aload_nR F 0 rfl rfl d2_init_9 ?_
  refine r_iconst F (z := 0) d2_init_10 ?_
  refine r_putI0 F (hfr.1 93 (Nat.le_refl _) 1).2 lf2_15 rfl rfl ⟨rfl, by decide⟩ d2_init_11 ?_
  refine r_aload_nR F 0 rfl rfl d2_init_14 ?_
  refine r_iconst F (z := 0) d2_init_15 ?_
  refine r_putI0 F (hfr.1 93 (Nat.le_refl _) 2).2 lf2_18 rfl rfl ⟨rfl, by decide⟩ d2_init_16 ?_
  refine r_aload_nR F 0 rfl rfl d2_init_19 ?_
  refine r_iconst F (z := 0) d2_init_20 ?_
  refine r_putI0 F (hfr.1 93 (Nat.le_refl _) 3).2 lf2_21 rfl rfl ⟨rfl, by decide⟩ d2_init_21 ?_
  refine r_aload_nR F 0 rfl rfl d2_init_24 ?_
  refine r_iconst F (z := 0) d2_init_25 ?_
  refine r_putI0 F (hfr.1 93 (Nat.le_refl _) 4).2 lf2_24 rfl rfl ⟨rfl, by decide⟩ d2_init_26 ?_
  refine r_aload_nR F 0 rfl rfl d2_init_29 ?_
  refine r_iconst F (z := 0) d2_init_30 ?_
  refine r_putI0 F (hfr.1 93 (Nat.le_refl _) 5).2 lf2_27 rfl rfl ⟨rfl, by decide⟩ d2_init_31 ?_
  refine r_aload_nR F 0 rfl rfl d2_init_34 ?_
  refine r_iconst F (z := 0) d2_init_35 ?_
  refine r_putI0 F (hfr.1 93 (Nat.le_refl _) 6).2 lf2_30 rfl rfl ⟨rfl, by decide⟩ d2_init_36 ?_
  refine r_aload_nR F 0 rfl rfl d2_init_39 ?_
  refine r_iconst F (z := 0) d2_init_40 ?_
  refine r_putI0 F (hfr.1 93 (Nat.le_refl _) 7).2 lf2_33 rfl rfl ⟨rfl, by decide⟩ d2_init_41 ?_
  refine r_aload_nR F 0 rfl rfl d2_init_44 ?_
  refine r_iconst F (z := 0) d2_init_45 ?_
  refine r_putI0 F (hfr.1 93 (Nat.le_refl _) 8).2 lf2_36 rfl rfl ⟨rfl, by decide⟩ d2_init_46 ?_
  refine r_aload_nR F 0 rfl rfl d2_init_49 ?_
  refine r_iconst F (z := 0) d2_init_50 ?_
  refine r_putI0 F (hfr.1 93 (Nat.le_refl _) 9).2 lf2_39 rfl rfl ⟨rfl, by decide⟩ d2_init_51 ?_
  refine r_aload_nR F 0 rfl rfl d2_init_54 ?_
  refine r_bipush F (z := 8) (by decide) d2_init_55 ?_
  refine r_newI F (n := 94) (len := 8) wa_int rfl rfl (Nat.le_of_ble_eq_true rfl) hf0 ⟨Nat.le_of_ble_eq_true rfl, Nat.le_of_ble_eq_true rfl⟩ d2_init_57 ?_
  have hf1 := (hf0.mono (m' := 95) (by decide))
  refine r_putR F hnm (j := 10) (by decide) (by decide) rfl rfl lp2_42 (fun _ => ⟨rfl, rfl⟩) ⟨rfl, by decide⟩ d2_init_59 ?_
  have hf2 := (hf1.rset (c := 93) (i := 10) (v := 94 + 1) (by decide) (by decide))
  refine r_aload_nR F 0 rfl rfl d2_init_62 ?_
  refine r_bipush F (z := 8) (by decide) d2_init_63 ?_
  refine r_newI F (n := 95) (len := 8) wa_int rfl rfl (Nat.le_of_ble_eq_true rfl) hf2 ⟨Nat.le_of_ble_eq_true rfl, Nat.le_of_ble_eq_true rfl⟩ d2_init_65 ?_
  have hf3 := (hf2.mono (m' := 96) (by decide))
  refine r_putR F hnm (j := 11) (by decide) (by decide) rfl rfl lp2_46 (fun _ => ⟨rfl, rfl⟩) ⟨rfl, by decide⟩ d2_init_67 ?_
  have hf4 := (hf3.rset (c := 93) (i := 11) (v := 95 + 1) (by decide) (by decide))
  refine r_aload_nR F 0 rfl rfl d2_init_70 ?_
  refine r_bipush F (z := 8) (by decide) d2_init_71 ?_
  refine r_newI F (n := 96) (len := 8) wa_int rfl rfl (Nat.le_of_ble_eq_true rfl) hf4 ⟨Nat.le_of_ble_eq_true rfl, Nat.le_of_ble_eq_true rfl⟩ d2_init_73 ?_
  have hf5 := (hf4.mono (m' := 97) (by decide))
  refine r_putR F hnm (j := 12) (by decide) (by decide) rfl rfl lp2_49 (fun _ => ⟨rfl, rfl⟩) ⟨rfl, by decide⟩ d2_init_75 ?_
  have hf6 := (hf5.rset (c := 93) (i := 12) (v := 96 + 1) (by decide) (by decide))
  refine r_aload_nR F 0 rfl rfl d2_init_78 ?_
  refine r_bipush F (z := 8) (by decide) d2_init_79 ?_
  refine r_newI F (n := 97) (len := 8) wa_int rfl rfl (Nat.le_of_ble_eq_true rfl) hf6 ⟨Nat.le_of_ble_eq_true rfl, Nat.le_of_ble_eq_true rfl⟩ d2_init_81 ?_
  have hf7 := (hf6.mono (m' := 98) (by decide))
  refine r_putR F hnm (j := 13) (by decide) (by decide) rfl rfl lp2_52 (fun _ => ⟨rfl, rfl⟩) ⟨rfl, by decide⟩ d2_init_83 ?_
  have hf8 := (hf7.rset (c := 93) (i := 13) (v := 97 + 1) (by decide) (by decide))
  refine r_aload_nR F 0 rfl rfl d2_init_86 ?_
  refine r_bipush F (z := 30) (by decide) d2_init_87 ?_
  refine r_newI F (n := 98) (len := 30) wa_int rfl rfl (Nat.le_of_ble_eq_true rfl) hf8 ⟨Nat.le_of_ble_eq_true rfl, Nat.le_of_ble_eq_true rfl⟩ d2_init_89 ?_
  have hf9 := (hf8.mono (m' := 99) (by decide))
  refine r_putR F hnm (j := 14) (by decide) (by decide) rfl rfl lp2_55 (fun _ => ⟨rfl, rfl⟩) ⟨rfl, by decide⟩ d2_init_91 ?_
  have hf10 := (hf9.rset (c := 93) (i := 14) (v := 98 + 1) (by decide) (by decide))
  refine r_aload_nR F 0 rfl rfl d2_init_94 ?_
  refine r_bipush F (z := 30) (by decide) d2_init_95 ?_
  refine r_newI F (n := 99) (len := 30) wa_int rfl rfl (Nat.le_of_ble_eq_true rfl) hf10 ⟨Nat.le_of_ble_eq_true rfl, Nat.le_of_ble_eq_true rfl⟩ d2_init_97 ?_
  have hf11 := (hf10.mono (m' := 100) (by decide))
  refine r_putR F hnm (j := 15) (by decide) (by decide) rfl rfl lp2_58 (fun _ => ⟨rfl, rfl⟩) ⟨rfl, by decide⟩ d2_init_99 ?_
  have hf12 := (hf11.rset (c := 93) (i := 15) (v := 99 + 1) (by decide) (by decide))
  refine r_aload_nR F 0 rfl rfl d2_init_102 ?_
  refine r_bipush F (z := 30) (by decide) d2_init_103 ?_
  refine r_newI F (n := 100) (len := 30) wa_int rfl rfl (Nat.le_of_ble_eq_true rfl) hf12 ⟨Nat.le_of_ble_eq_true rfl, Nat.le_of_ble_eq_true rfl⟩ d2_init_105 ?_
  have hf13 := (hf12.mono (m' := 101) (by decide))
  refine r_putR F hnm (j := 16) (by decide) (by decide) rfl rfl lp2_61 (fun _ => ⟨rfl, rfl⟩) ⟨rfl, by decide⟩ d2_init_107 ?_
  have hf14 := (hf13.rset (c := 93) (i := 16) (v := 100 + 1) (by decide) (by decide))
  exact r_vret F (h hf14) d2_init_110
def rc101 (ρ : Rho) : Rho := (rset (rset (rset (rset (rset (rset (rset ρ 101 10 103) 101 11 104) 101 12 105) 101 13 106) 101 14 107) 101 15 108) 101 16 109)
set_option maxHeartbeats 4000000 in
theorem okc101 {l : Launch} {X : XT} {ρ : Rho} {D : Mem} {Q : Option Value → Nat → Rho → Mem → Prop} (hfr : Fr 101 ρ D) (h : Fr 109 (rc101 ρ) D → Q none 109 (rc101 ρ) D) : MOK l y2_init c2_init 1 none { frames := 1, cells := 7, slots := 122, locals := 20 } 7 122 X [vR X 101] 102 ρ D Q := by
  refine MOK_of 2 (by decide +kernel) rfl (lv := [(0, vR X 101)]) (Nat.le_of_ble_eq_true rfl) rfl (fun K hK F hnm => ?_)
  subst hK
  have hf0 : Fr 102 ρ D := hfr.mono (by decide)
  refine r_aload_nR F 0 rfl rfl d2_init_0 ?_
  refine r_objInit F lo2_3 wi1 wi2 ⟨Nat.le_of_ble_eq_true rfl, Nat.le_of_ble_eq_true rfl⟩ d2_init_1 ?_
  refine r_aload_nR F 0 rfl rfl d2_init_4 ?_
  refine r_iconst F (z := 0) d2_init_5 ?_
  refine r_putI0 F (hfr.1 101 (Nat.le_refl _) 0).2 lf2_9 rfl rfl ⟨rfl, by decide⟩ d2_init_6 ?_
  refine r_aload_nR F 0 rfl rfl d2_init_9 ?_
  refine r_iconst F (z := 0) d2_init_10 ?_
  refine r_putI0 F (hfr.1 101 (Nat.le_refl _) 1).2 lf2_15 rfl rfl ⟨rfl, by decide⟩ d2_init_11 ?_
  refine r_aload_nR F 0 rfl rfl d2_init_14 ?_
  refine r_iconst F (z := 0) d2_init_15 ?_
  refine r_putI0 F (hfr.1 101 (Nat.le_refl _) 2).2 lf2_18 rfl rfl ⟨rfl, by decide⟩ d2_init_16 ?_
  refine r_aload_nR F 0 rfl rfl d2_init_19 ?_
  refine r_iconst F (z := 0) d2_init_20 ?_
  refine r_putI0 F (hfr.1 101 (Nat.le_refl _) 3).2 lf2_21 rfl rfl ⟨rfl, by decide⟩ d2_init_21 ?_
  refine r_aload_nR F 0 rfl rfl d2_init_24 ?_
  refine r_iconst F (z := 0) d2_init_25 ?_
  refine r_putI0 F (hfr.1 101 (Nat.le_refl _) 4).2 lf2_24 rfl rfl ⟨rfl, by decide⟩ d2_init_26 ?_
  refine r_aload_nR F 0 rfl rfl d2_init_29 ?_
  refine r_iconst F (z := 0) d2_init_30 ?_
  refine r_putI0 F (hfr.1 101 (Nat.le_refl _) 5).2 lf2_27 rfl rfl ⟨rfl, by decide⟩ d2_init_31 ?_
  refine r_aload_nR F 0 rfl rfl d2_init_34 ?_
  refine r_iconst F (z := 0) d2_init_35 ?_
  refine r_putI0 F (hfr.1 101 (Nat.le_refl _) 6).2 lf2_30 rfl rfl ⟨rfl, by decide⟩ d2_init_36 ?_
  refine r_aload_nR F 0 rfl rfl d2_init_39 ?_
  refine r_iconst F (z := 0) d2_init_40 ?_
  refine r_putI0 F (hfr.1 101 (Nat.le_refl _) 7).2 lf2_33 rfl rfl ⟨rfl, by decide⟩ d2_init_41 ?_
  refine r_aload_nR F 0 rfl rfl d2_init_44 ?_
  refine r_iconst F (z := 0) d2_init_45 ?_
  refine r_putI0 F (hfr.1 101 (Nat.le_refl _) 8).2 lf2_36 rfl rfl ⟨rfl, by decide⟩ d2_init_46 ?_
  refine r_aload_nR F 0 rfl rfl d2_init_49 ?_
  refine r_iconst F (z := 0) d2_init_50 ?_
  refine r_putI0 F (hfr.1 101 (Nat.le_refl _) 9).2 lf2_39 rfl rfl ⟨rfl, by decide⟩ d2_init_51 ?_
  refine r_aload_nR F 0 rfl rfl d2_init_54 ?_
  refine r_bipush F (z := 8) (by decide) d2_init_55 ?_
  refine r_newI F (n := 102) (len := 8) wa_int rfl rfl (Nat.le_of_ble_eq_true rfl) hf0 ⟨Nat.le_of_ble_eq_true rfl, Nat.le_of_ble_eq_true rfl⟩ d2_init_57 ?_
  have hf1 := (hf0.mono (m' := 103) (by decide))
  refine r_putR F hnm (j := 10) (by decide) (by decide) rfl rfl lp2_42 (fun _ => ⟨rfl, rfl⟩) ⟨rfl, by decide⟩ d2_init_59 ?_
  have hf2 := (hf1.rset (c := 101) (i := 10) (v := 102 + 1) (by decide) (by decide))
  refine r_aload_nR F 0 rfl rfl d2_init_62 ?_
  refine r_bipush F (z := 8) (by decide) d2_init_63 ?_
  refine r_newI F (n := 103) (len := 8) wa_int rfl rfl (Nat.le_of_ble_eq_true rfl) hf2 ⟨Nat.le_of_ble_eq_true rfl, Nat.le_of_ble_eq_true rfl⟩ d2_init_65 ?_
  have hf3 := (hf2.mono (m' := 104) (by decide))
  refine r_putR F hnm (j := 11) (by decide) (by decide) rfl rfl lp2_46 (fun _ => ⟨rfl, rfl⟩) ⟨rfl, by decide⟩ d2_init_67 ?_
  have hf4 := (hf3.rset (c := 101) (i := 11) (v := 103 + 1) (by decide) (by decide))
  refine r_aload_nR F 0 rfl rfl d2_init_70 ?_
  refine r_bipush F (z := 8) (by decide) d2_init_71 ?_
  refine r_newI F (n := 104) (len := 8) wa_int rfl rfl (Nat.le_of_ble_eq_true rfl) hf4 ⟨Nat.le_of_ble_eq_true rfl, Nat.le_of_ble_eq_true rfl⟩ d2_init_73 ?_
  have hf5 := (hf4.mono (m' := 105) (by decide))
  refine r_putR F hnm (j := 12) (by decide) (by decide) rfl rfl lp2_49 (fun _ => ⟨rfl, rfl⟩) ⟨rfl, by decide⟩ d2_init_75 ?_
  have hf6 := (hf5.rset (c := 101) (i := 12) (v := 104 + 1) (by decide) (by decide))
  refine r_aload_nR F 0 rfl rfl d2_init_78 ?_
  refine r_bipush F (z := 8) (by decide) d2_init_79 ?_
  refine r_newI F (n := 105) (len := 8) wa_int rfl rfl (Nat.le_of_ble_eq_true rfl) hf6 ⟨Nat.le_of_ble_eq_true rfl, Nat.le_of_ble_eq_true rfl⟩ d2_init_81 ?_
  have hf7 := (hf6.mono (m' := 106) (by decide))
  refine r_putR F hnm (j := 13) (by decide) (by decide) rfl rfl lp2_52 (fun _ => ⟨rfl, rfl⟩) ⟨rfl, by decide⟩ d2_init_83 ?_
  have hf8 := (hf7.rset (c := 101) (i := 13) (v := 105 + 1) (by decide) (by decide))
  refine r_aload_nR F 0 rfl rfl d2_init_86 ?_
  refine r_bipush F (z := 30) (by decide) d2_init_87 ?_
  refine r_newI F (n := 106) (len := 30) wa_int rfl rfl (Nat.le_of_ble_eq_true rfl) hf8 ⟨Nat.le_of_ble_eq_true rfl, Nat.le_of_ble_eq_true rfl⟩ d2_init_89 ?_
  have hf9 := (hf8.mono (m' := 107) (by decide))
  refine r_putR F hnm (j := 14) (by decide) (by decide) rfl rfl lp2_55 (fun _ => ⟨rfl, rfl⟩) ⟨rfl, by decide⟩ d2_init_91 ?_
  have hf10 := (hf9.rset (c := 101) (i := 14) (v := 106 + 1) (by decide) (by decide))
  refine r_aload_nR F 0 rfl rfl d2_init_94 ?_
  refine r_bipush F (z := 30) (by decide) d2_init_95 ?_
  refine r_newI F (n := 107) (len := 30) wa_int rfl rfl (Nat.le_of_ble_eq_true rfl) hf10 ⟨Nat.le_of_ble_eq_true rfl, Nat.le_of_ble_eq_true rfl⟩ d2_init_97 ?_
  have hf11 := (hf10.mono (m' := 108) (by decide))
  refine r_putR F hnm (j := 15) (by decide) (by decide) rfl rfl lp2_58 (fun _ => ⟨rfl, rfl⟩) ⟨rfl, by decide⟩ d2_init_99 ?_
  have hf12 := (hf11.rset (c := 101) (i := 15) (v := 107 + 1) (by decide) (by decide))
  refine r_aload_nR F 0 rfl rfl d2_init_102 ?_
  refine r_bipush F (z := 30) (by decide) d2_init_103 ?_
  refine r_newI F (n := 108) (len := 30) wa_int rfl rfl (Nat.le_of_ble_eq_true rfl) hf12 ⟨Nat.le_of_ble_eq_true rfl, Nat.le_of_ble_eq_true rfl⟩ d2_init_105 ?_
  have hf13 := (hf12.mono (m' := 109) (by decide))
  refine r_putR F hnm (j := 16) (by decide) (by decide) rfl rfl lp2_61 (fun _ => ⟨rfl, rfl⟩) ⟨rfl, by decide⟩ d2_init_107 ?_
  have hf14 := (hf13.rset (c := 101) (i := 16) (v := 108 + 1) (by decide) (by decide))
  exact r_vret F (h hf14) d2_init_110
def rc109 (ρ : Rho) : Rho := (rset ρ 109 3 111)
set_option maxHeartbeats 4000000 in
theorem okc109 {l : Launch} {X : XT} {ρ : Rho} {D : Mem} {Q : Option Value → Nat → Rho → Mem → Prop} (hfr : Fr 109 ρ D) (h : Fr 111 (rc109 ρ) D → Q none 111 (rc109 ρ) D) : MOK l y5_init c5_init 1 none { frames := 1, cells := 1, slots := 60, locals := 20 } 1 60 X [vR X 109] 110 ρ D Q := by
  refine MOK_of 5 (by decide +kernel) rfl (lv := [(0, vR X 109)]) (Nat.le_of_ble_eq_true rfl) rfl (fun K hK F hnm => ?_)
  subst hK
  have hf0 : Fr 110 ρ D := hfr.mono (by decide)
  refine r_aload_nR F 0 rfl rfl d5_init_0 ?_
  refine r_objInit F lo5_3 wi1 wi2 ⟨Nat.le_of_ble_eq_true rfl, Nat.le_of_ble_eq_true rfl⟩ d5_init_1 ?_
  refine r_aload_nR F 0 rfl rfl d5_init_4 ?_
  refine r_iconst F (z := 0) d5_init_5 ?_
  refine r_putZ0 F (hfr.1 109 (Nat.le_refl _) 0).2 lf5_9 rfl rfl ⟨rfl, by decide⟩ d5_init_6 ?_
  refine r_aload_nR F 0 rfl rfl d5_init_9 ?_
  refine r_iconst F (z := 0) d5_init_10 ?_
  refine r_putI0 F (hfr.1 109 (Nat.le_refl _) 1).2 lf5_15 rfl rfl ⟨rfl, by decide⟩ d5_init_11 ?_
  refine r_aload_nR F 0 rfl rfl d5_init_14 ?_
  refine r_iconst F (z := 0) d5_init_15 ?_
  refine r_putI0 F (hfr.1 109 (Nat.le_refl _) 2).2 lf5_19 rfl rfl ⟨rfl, by decide⟩ d5_init_16 ?_
  refine r_aload_nR F 0 rfl rfl d5_init_19 ?_
  refine r_bipush F (z := 60) (by decide) d5_init_20 ?_
  refine r_newL F (n := 110) (len := 60) wa_long rfl rfl (Nat.le_of_ble_eq_true rfl) hf0 ⟨Nat.le_of_ble_eq_true rfl, Nat.le_of_ble_eq_true rfl⟩ d5_init_22 ?_
  have hf1 := (hf0.mono (m' := 111) (by decide))
  refine r_putR F hnm (j := 3) (by decide) (by decide) rfl rfl lp5_22 (fun _ => ⟨rfl, rfl⟩) ⟨rfl, by decide⟩ d5_init_24 ?_
  have hf2 := (hf1.rset (c := 109) (i := 3) (v := 110 + 1) (by decide) (by decide))
  exact r_vret F (h hf2) d5_init_27
def rc111 (ρ : Rho) : Rho := (rset ρ 111 3 113)
set_option maxHeartbeats 4000000 in
theorem okc111 {l : Launch} {X : XT} {ρ : Rho} {D : Mem} {Q : Option Value → Nat → Rho → Mem → Prop} (hfr : Fr 111 ρ D) (h : Fr 113 (rc111 ρ) D → Q none 113 (rc111 ρ) D) : MOK l y5_init c5_init 1 none { frames := 1, cells := 1, slots := 60, locals := 20 } 1 60 X [vR X 111] 112 ρ D Q := by
  refine MOK_of 5 (by decide +kernel) rfl (lv := [(0, vR X 111)]) (Nat.le_of_ble_eq_true rfl) rfl (fun K hK F hnm => ?_)
  subst hK
  have hf0 : Fr 112 ρ D := hfr.mono (by decide)
  refine r_aload_nR F 0 rfl rfl d5_init_0 ?_
  refine r_objInit F lo5_3 wi1 wi2 ⟨Nat.le_of_ble_eq_true rfl, Nat.le_of_ble_eq_true rfl⟩ d5_init_1 ?_
  refine r_aload_nR F 0 rfl rfl d5_init_4 ?_
  refine r_iconst F (z := 0) d5_init_5 ?_
  refine r_putZ0 F (hfr.1 111 (Nat.le_refl _) 0).2 lf5_9 rfl rfl ⟨rfl, by decide⟩ d5_init_6 ?_
  refine r_aload_nR F 0 rfl rfl d5_init_9 ?_
  refine r_iconst F (z := 0) d5_init_10 ?_
  refine r_putI0 F (hfr.1 111 (Nat.le_refl _) 1).2 lf5_15 rfl rfl ⟨rfl, by decide⟩ d5_init_11 ?_
  refine r_aload_nR F 0 rfl rfl d5_init_14 ?_
  refine r_iconst F (z := 0) d5_init_15 ?_
  refine r_putI0 F (hfr.1 111 (Nat.le_refl _) 2).2 lf5_19 rfl rfl ⟨rfl, by decide⟩ d5_init_16 ?_
  refine r_aload_nR F 0 rfl rfl d5_init_19 ?_
  refine r_bipush F (z := 60) (by decide) d5_init_20 ?_
  refine r_newL F (n := 112) (len := 60) wa_long rfl rfl (Nat.le_of_ble_eq_true rfl) hf0 ⟨Nat.le_of_ble_eq_true rfl, Nat.le_of_ble_eq_true rfl⟩ d5_init_22 ?_
  have hf1 := (hf0.mono (m' := 113) (by decide))
  refine r_putR F hnm (j := 3) (by decide) (by decide) rfl rfl lp5_22 (fun _ => ⟨rfl, rfl⟩) ⟨rfl, by decide⟩ d5_init_24 ?_
  have hf2 := (hf1.rset (c := 111) (i := 3) (v := 112 + 1) (by decide) (by decide))
  exact r_vret F (h hf2) d5_init_27
def rc113 (ρ : Rho) : Rho := (rset ρ 113 3 115)
set_option maxHeartbeats 4000000 in
theorem okc113 {l : Launch} {X : XT} {ρ : Rho} {D : Mem} {Q : Option Value → Nat → Rho → Mem → Prop} (hfr : Fr 113 ρ D) (h : Fr 115 (rc113 ρ) D → Q none 115 (rc113 ρ) D) : MOK l y5_init c5_init 1 none { frames := 1, cells := 1, slots := 60, locals := 20 } 1 60 X [vR X 113] 114 ρ D Q := by
  refine MOK_of 5 (by decide +kernel) rfl (lv := [(0, vR X 113)]) (Nat.le_of_ble_eq_true rfl) rfl (fun K hK F hnm => ?_)
  subst hK
  have hf0 : Fr 114 ρ D := hfr.mono (by decide)
  refine r_aload_nR F 0 rfl rfl d5_init_0 ?_
  refine r_objInit F lo5_3 wi1 wi2 ⟨Nat.le_of_ble_eq_true rfl, Nat.le_of_ble_eq_true rfl⟩ d5_init_1 ?_
  refine r_aload_nR F 0 rfl rfl d5_init_4 ?_
  refine r_iconst F (z := 0) d5_init_5 ?_
  refine r_putZ0 F (hfr.1 113 (Nat.le_refl _) 0).2 lf5_9 rfl rfl ⟨rfl, by decide⟩ d5_init_6 ?_
  refine r_aload_nR F 0 rfl rfl d5_init_9 ?_
  refine r_iconst F (z := 0) d5_init_10 ?_
  refine r_putI0 F (hfr.1 113 (Nat.le_refl _) 1).2 lf5_15 rfl rfl ⟨rfl, by decide⟩ d5_init_11 ?_
  refine r_aload_nR F 0 rfl rfl d5_init_14 ?_
  refine r_iconst F (z := 0) d5_init_15 ?_
  refine r_putI0 F (hfr.1 113 (Nat.le_refl _) 2).2 lf5_19 rfl rfl ⟨rfl, by decide⟩ d5_init_16 ?_
  refine r_aload_nR F 0 rfl rfl d5_init_19 ?_
  refine r_bipush F (z := 60) (by decide) d5_init_20 ?_
  refine r_newL F (n := 114) (len := 60) wa_long rfl rfl (Nat.le_of_ble_eq_true rfl) hf0 ⟨Nat.le_of_ble_eq_true rfl, Nat.le_of_ble_eq_true rfl⟩ d5_init_22 ?_
  have hf1 := (hf0.mono (m' := 115) (by decide))
  refine r_putR F hnm (j := 3) (by decide) (by decide) rfl rfl lp5_22 (fun _ => ⟨rfl, rfl⟩) ⟨rfl, by decide⟩ d5_init_24 ?_
  have hf2 := (hf1.rset (c := 113) (i := 3) (v := 114 + 1) (by decide) (by decide))
  exact r_vret F (h hf2) d5_init_27
def rc115 (ρ : Rho) : Rho := (rset ρ 115 3 117)
set_option maxHeartbeats 4000000 in
theorem okc115 {l : Launch} {X : XT} {ρ : Rho} {D : Mem} {Q : Option Value → Nat → Rho → Mem → Prop} (hfr : Fr 115 ρ D) (h : Fr 117 (rc115 ρ) D → Q none 117 (rc115 ρ) D) : MOK l y5_init c5_init 1 none { frames := 1, cells := 1, slots := 60, locals := 20 } 1 60 X [vR X 115] 116 ρ D Q := by
  refine MOK_of 5 (by decide +kernel) rfl (lv := [(0, vR X 115)]) (Nat.le_of_ble_eq_true rfl) rfl (fun K hK F hnm => ?_)
  subst hK
  have hf0 : Fr 116 ρ D := hfr.mono (by decide)
  refine r_aload_nR F 0 rfl rfl d5_init_0 ?_
  refine r_objInit F lo5_3 wi1 wi2 ⟨Nat.le_of_ble_eq_true rfl, Nat.le_of_ble_eq_true rfl⟩ d5_init_1 ?_
  refine r_aload_nR F 0 rfl rfl d5_init_4 ?_
  refine r_iconst F (z := 0) d5_init_5 ?_
  refine r_putZ0 F (hfr.1 115 (Nat.le_refl _) 0).2 lf5_9 rfl rfl ⟨rfl, by decide⟩ d5_init_6 ?_
  refine r_aload_nR F 0 rfl rfl d5_init_9 ?_
  refine r_iconst F (z := 0) d5_init_10 ?_
  refine r_putI0 F (hfr.1 115 (Nat.le_refl _) 1).2 lf5_15 rfl rfl ⟨rfl, by decide⟩ d5_init_11 ?_
  refine r_aload_nR F 0 rfl rfl d5_init_14 ?_
  refine r_iconst F (z := 0) d5_init_15 ?_
  refine r_putI0 F (hfr.1 115 (Nat.le_refl _) 2).2 lf5_19 rfl rfl ⟨rfl, by decide⟩ d5_init_16 ?_
  refine r_aload_nR F 0 rfl rfl d5_init_19 ?_
  refine r_bipush F (z := 60) (by decide) d5_init_20 ?_
  refine r_newL F (n := 116) (len := 60) wa_long rfl rfl (Nat.le_of_ble_eq_true rfl) hf0 ⟨Nat.le_of_ble_eq_true rfl, Nat.le_of_ble_eq_true rfl⟩ d5_init_22 ?_
  have hf1 := (hf0.mono (m' := 117) (by decide))
  refine r_putR F hnm (j := 3) (by decide) (by decide) rfl rfl lp5_22 (fun _ => ⟨rfl, rfl⟩) ⟨rfl, by decide⟩ d5_init_24 ?_
  have hf2 := (hf1.rset (c := 115) (i := 3) (v := 116 + 1) (by decide) (by decide))
  exact r_vret F (h hf2) d5_init_27
def rho0 : Rho := (rset (rc115 (rset (rc113 (rset (rc111 (rset (rc109 (rset (rc101 (rset (rc93 (rset (rc85 (rset (rset (rset (rc67 (rset (rc64 (rset (rc58 (rset (rc49 (rset (rc36 (rset (rc23 (rset (rset (rset (rset (rc12 (rset (rc3 (rset (rc1 (fun _ _ => 0)) 0 0 2)) 0 1 4)) 0 2 13) 0 3 21) 0 4 22) 0 5 23)) 0 6 24)) 0 7 37)) 0 8 50)) 0 9 59)) 0 10 65)) 0 11 68) 0 12 84) 0 13 85)) 20 0 86)) 20 1 94)) 20 2 102)) 22 0 110)) 22 1 112)) 22 2 114)) 22 3 116)
def D0c : Mem := (mset (mset (fun _ _ => 0) 3 3 (-1)) 67 3 (-1))
/-- the references behind the first constructor: the class's cells alone -/
def rhoX : Rho := fun k j => if k < 117 then rt k j else 0
theorem RTs_len : ∀ l ∈ RTs, l.length ≤ 60 := by decide +kernel
theorem rt_far {k j : Nat} (h : 60 ≤ j) : rt k j = 0 := by
  unfold rt
  have hl : (RTs.getD k []).length ≤ 60 := by
    rw [List.getD_eq_getElem?_getD]
    cases hk : RTs[k]? with
    | none => simp
    | some l => exact RTs_len l (List.mem_of_getElem? hk)
  rw [List.getD_eq_getElem?_getD, List.getElem?_eq_none (by omega)]
  rfl
theorem rho_near : ∀ k, k < 117 → ∀ j, j < 60 → rho0 k j = rt k j := by decide +kernel
set_option maxHeartbeats 4000000 in
theorem okc0 {l : Launch} {X : XT} {Q : Option Value → Nat → Rho → Mem → Prop} (h : wpo (f9_changed D0c) (fun a => Q none 117 rhoX a)) : MOK l y9_init c9_init 2 none { frames := 4, cells := 116, slots := 7171, locals := 88 } 116 7171 X [vR X 0] 1 (fun _ _ => 0) (fun _ _ => 0) Q := by
  refine MOK_of 9 (by decide +kernel) rfl (lv := [(0, vR X 0)]) (Nat.le_of_ble_eq_true rfl) rfl (fun K hK F hnm => ?_)
  subst hK
  have hf0 : Fr 1 (fun _ _ => 0) (fun _ _ => 0) := ⟨fun _ _ _ => ⟨rfl, rfl⟩, fun _ _ _ => rfl⟩
  refine r_aload_nR F 0 rfl rfl d9_init_0 ?_
  refine r_objInit F lo9_3 wi1 wi2 ⟨Nat.le_of_ble_eq_true rfl, Nat.le_of_ble_eq_true rfl⟩ d9_init_1 ?_
  refine r_aload_nR F 0 rfl rfl d9_init_4 ?_
  refine r_new F wc9_9 wins7 wini7 (by decide) (n := 1) rfl hf0 ⟨Nat.le_of_ble_eq_true rfl, Nat.le_of_ble_eq_true rfl⟩ d9_init_5 ?_
  refine r_dup F rfl d9_init_8 ?_
  refine r_callC F lm9_11 ma7_init mi7_init rfl (mc := 1) (ms := 700) (rmy := { frames := 1, cells := 1, slots := 700, locals := 20 }) (As := []) (rest := [vR X 1, vR X 0]) rfl rfl rfl ⟨Nat.le_of_ble_eq_true rfl, Nat.le_of_ble_eq_true rfl⟩ rfl (Nat.le_of_ble_eq_true rfl) ⟨Nat.le_of_ble_eq_true rfl, Nat.le_of_ble_eq_true rfl⟩ d9_init_9 ?_
  refine okc1 hf0 (fun hf1 => ?_)
  show At K X _ _ _ 3 _ 2 12 [(0, vR X 0)] [vR X 1, vR X 0] _
  refine r_putR F hnm (j := 0) (by decide) (by decide) rfl rfl lp9_12 (fun _ => ⟨rfl, rfl⟩) ⟨rfl, by decide⟩ d9_init_12 ?_
  have hf2 := (hf1.rset (c := 0) (i := 0) (v := 1 + 1) (by decide) (by decide))
  refine r_aload_nR F 0 rfl rfl d9_init_15 ?_
  refine r_new F wc9_16 wins4 wini4 (by decide) (n := 3) rfl hf2 ⟨Nat.le_of_ble_eq_true rfl, Nat.le_of_ble_eq_true rfl⟩ d9_init_16 ?_
  refine r_dup F rfl d9_init_19 ?_
  refine r_aload_nR F 0 rfl rfl d9_init_20 ?_
  refine r_getR F (z := 1) lf9_12 ⟨rfl, by decide⟩ (by decide +kernel) d9_init_21 ?_
  refine r_callC F lm9_18 ma4_init mi4_init rfl (mc := 8) (ms := 139) (rmy := { frames := 2, cells := 8, slots := 139, locals := 40 }) (As := [vR X 1]) (rest := [vR X 3, vR X 0]) rfl rfl rfl ⟨Nat.le_of_ble_eq_true rfl, Nat.le_of_ble_eq_true rfl⟩ rfl (Nat.le_of_ble_eq_true rfl) ⟨Nat.le_of_ble_eq_true rfl, Nat.le_of_ble_eq_true rfl⟩ d9_init_24 ?_
  refine okc3 hf2 (fun hf3 => ?_)
  show At K X _ _ _ 12 _ 2 27 [(0, vR X 0)] [vR X 3, vR X 0] _
  refine r_putR F hnm (j := 1) (by decide) (by decide) rfl rfl lp9_21 (fun _ => ⟨rfl, rfl⟩) ⟨rfl, by decide⟩ d9_init_27 ?_
  have hf4 := (hf3.rset (c := 0) (i := 1) (v := 3 + 1) (by decide) (by decide))
  refine r_aload_nR F 0 rfl rfl d9_init_30 ?_
  refine r_new F wc9_25 wins2 wini2 (by decide) (n := 12) rfl hf4 ⟨Nat.le_of_ble_eq_true rfl, Nat.le_of_ble_eq_true rfl⟩ d9_init_31 ?_
  refine r_dup F rfl d9_init_34 ?_
  refine r_callC F lm9_27 ma2_init mi2_init rfl (mc := 7) (ms := 122) (rmy := { frames := 1, cells := 7, slots := 122, locals := 20 }) (As := []) (rest := [vR X 12, vR X 0]) rfl rfl rfl ⟨Nat.le_of_ble_eq_true rfl, Nat.le_of_ble_eq_true rfl⟩ rfl (Nat.le_of_ble_eq_true rfl) ⟨Nat.le_of_ble_eq_true rfl, Nat.le_of_ble_eq_true rfl⟩ d9_init_35 ?_
  refine okc12 hf4 (fun hf5 => ?_)
  show At K X _ _ _ 20 _ 2 38 [(0, vR X 0)] [vR X 12, vR X 0] _
  refine r_putR F hnm (j := 2) (by decide) (by decide) rfl rfl lp9_28 (fun _ => ⟨rfl, rfl⟩) ⟨rfl, by decide⟩ d9_init_38 ?_
  have hf6 := (hf5.rset (c := 0) (i := 2) (v := 12 + 1) (by decide) (by decide))
  refine r_aload_nR F 0 rfl rfl d9_init_41 ?_
  refine r_iconst F (z := 3) d9_init_42 ?_
  refine r_anewP F (n := 20) (len := 3) wc9_25 rfl rfl (Nat.le_of_ble_eq_true rfl) hf6 ⟨Nat.le_of_ble_eq_true rfl, Nat.le_of_ble_eq_true rfl⟩ d9_init_43 ?_
  have hf7 := (hf6.mono (m' := 21) (by decide))
  refine r_putR F hnm (j := 3) (by decide) (by decide) rfl rfl lp9_32 (fun _ => ⟨rfl, rfl⟩) ⟨rfl, by decide⟩ d9_init_46 ?_
  have hf8 := (hf7.rset (c := 0) (i := 3) (v := 20 + 1) (by decide) (by decide))
  refine r_aload_nR F 0 rfl rfl d9_init_49 ?_
  refine r_iconst F (z := 3) d9_init_50 ?_
  refine r_newZ F (n := 21) (len := 3) wa_boolean rfl rfl (Nat.le_of_ble_eq_true rfl) hf8 ⟨Nat.le_of_ble_eq_true rfl, Nat.le_of_ble_eq_true rfl⟩ d9_init_51 ?_
  have hf9 := (hf8.mono (m' := 22) (by decide))
  refine r_putR F hnm (j := 4) (by decide) (by decide) rfl rfl lp9_36 (fun _ => ⟨rfl, rfl⟩) ⟨rfl, by decide⟩ d9_init_53 ?_
  have hf10 := (hf9.rset (c := 0) (i := 4) (v := 21 + 1) (by decide) (by decide))
  refine r_aload_nR F 0 rfl rfl d9_init_56 ?_
  refine r_iconst F (z := 4) d9_init_57 ?_
  refine r_anewS F (n := 22) (len := 4) wc9_40 rfl rfl (Nat.le_of_ble_eq_true rfl) hf10 ⟨Nat.le_of_ble_eq_true rfl, Nat.le_of_ble_eq_true rfl⟩ d9_init_58 ?_
  have hf11 := (hf10.mono (m' := 23) (by decide))
  refine r_putR F hnm (j := 5) (by decide) (by decide) rfl rfl lp9_42 (fun _ => ⟨rfl, rfl⟩) ⟨rfl, by decide⟩ d9_init_61 ?_
  have hf12 := (hf11.rset (c := 0) (i := 5) (v := 22 + 1) (by decide) (by decide))
  refine r_aload_nR F 0 rfl rfl d9_init_64 ?_
  refine r_new F wc9_46 wins8 wini8 (by decide) (n := 23) rfl hf12 ⟨Nat.le_of_ble_eq_true rfl, Nat.le_of_ble_eq_true rfl⟩ d9_init_65 ?_
  refine r_dup F rfl d9_init_68 ?_
  refine r_aload_nR F 0 rfl rfl d9_init_69 ?_
  refine r_getR F (z := 12) lf9_28 ⟨rfl, by decide⟩ (by decide +kernel) d9_init_70 ?_
  refine r_callC F lm9_48 ma8_init mi8_init rfl (mc := 12) (ms := 120) (rmy := { frames := 1, cells := 12, slots := 120, locals := 20 }) (As := [vR X 12]) (rest := [vR X 23, vR X 0]) rfl rfl rfl ⟨Nat.le_of_ble_eq_true rfl, Nat.le_of_ble_eq_true rfl⟩ rfl (Nat.le_of_ble_eq_true rfl) ⟨Nat.le_of_ble_eq_true rfl, Nat.le_of_ble_eq_true rfl⟩ d9_init_73 ?_
  refine okc23 hf12 (fun hf13 => ?_)
  show At K X _ _ _ 36 _ 2 76 [(0, vR X 0)] [vR X 23, vR X 0] _
  refine r_putR F hnm (j := 6) (by decide) (by decide) rfl rfl lp9_51 (fun _ => ⟨rfl, rfl⟩) ⟨rfl, by decide⟩ d9_init_76 ?_
  have hf14 := (hf13.rset (c := 0) (i := 6) (v := 23 + 1) (by decide) (by decide))
  refine r_aload_nR F 0 rfl rfl d9_init_79 ?_
  refine r_new F wc9_46 wins8 wini8 (by decide) (n := 36) rfl hf14 ⟨Nat.le_of_ble_eq_true rfl, Nat.le_of_ble_eq_true rfl⟩ d9_init_80 ?_
  refine r_dup F rfl d9_init_83 ?_
  refine r_aload_nR F 0 rfl rfl d9_init_84 ?_
  refine r_getR F (z := 12) lf9_28 ⟨rfl, by decide⟩ (by decide +kernel) d9_init_85 ?_
  refine r_callC F lm9_48 ma8_init mi8_init rfl (mc := 12) (ms := 120) (rmy := { frames := 1, cells := 12, slots := 120, locals := 20 }) (As := [vR X 12]) (rest := [vR X 36, vR X 0]) rfl rfl rfl ⟨Nat.le_of_ble_eq_true rfl, Nat.le_of_ble_eq_true rfl⟩ rfl (Nat.le_of_ble_eq_true rfl) ⟨Nat.le_of_ble_eq_true rfl, Nat.le_of_ble_eq_true rfl⟩ d9_init_88 ?_
  refine okc36 hf14 (fun hf15 => ?_)
  show At K X _ _ _ 49 _ 2 91 [(0, vR X 0)] [vR X 36, vR X 0] _
  refine r_putR F hnm (j := 7) (by decide) (by decide) rfl rfl lp9_55 (fun _ => ⟨rfl, rfl⟩) ⟨rfl, by decide⟩ d9_init_91 ?_
  have hf16 := (hf15.rset (c := 0) (i := 7) (v := 36 + 1) (by decide) (by decide))
  refine r_aload_nR F 0 rfl rfl d9_init_94 ?_
  refine r_new F wc9_58 wins3 wini3 (by decide) (n := 49) rfl hf16 ⟨Nat.le_of_ble_eq_true rfl, Nat.le_of_ble_eq_true rfl⟩ d9_init_95 ?_
  refine r_dup F rfl d9_init_98 ?_
  refine r_aload_nR F 0 rfl rfl d9_init_99 ?_
  refine r_getR F (z := 12) lf9_28 ⟨rfl, by decide⟩ (by decide +kernel) d9_init_100 ?_
  refine r_callC F lm9_60 ma3_init mi3_init rfl (mc := 8) (ms := 1800) (rmy := { frames := 1, cells := 8, slots := 1800, locals := 20 }) (As := [vR X 12]) (rest := [vR X 49, vR X 0]) rfl rfl rfl ⟨Nat.le_of_ble_eq_true rfl, Nat.le_of_ble_eq_true rfl⟩ rfl (Nat.le_of_ble_eq_true rfl) ⟨Nat.le_of_ble_eq_true rfl, Nat.le_of_ble_eq_true rfl⟩ d9_init_103 ?_
  refine okc49 hf16 (fun hf17 => ?_)
  show At K X _ _ _ 58 _ 2 106 [(0, vR X 0)] [vR X 49, vR X 0] _
  refine r_putR F hnm (j := 8) (by decide) (by decide) rfl rfl lp9_61 (fun _ => ⟨rfl, rfl⟩) ⟨rfl, by decide⟩ d9_init_106 ?_
  have hf18 := (hf17.rset (c := 0) (i := 8) (v := 49 + 1) (by decide) (by decide))
  refine r_aload_nR F 0 rfl rfl d9_init_109 ?_
  refine r_new F wc9_65 wins0 wini0 (by decide) (n := 58) rfl hf18 ⟨Nat.le_of_ble_eq_true rfl, Nat.le_of_ble_eq_true rfl⟩ d9_init_110 ?_
  refine r_dup F rfl d9_init_113 ?_
  refine r_aload_nR F 0 rfl rfl d9_init_114 ?_
  refine r_getR F (z := 12) lf9_28 ⟨rfl, by decide⟩ (by decide +kernel) d9_init_115 ?_
  refine r_callC F lm9_67 ma0_init mi0_init rfl (mc := 5) (ms := 2584) (rmy := { frames := 1, cells := 5, slots := 2584, locals := 20 }) (As := [vR X 12]) (rest := [vR X 58, vR X 0]) rfl rfl rfl ⟨Nat.le_of_ble_eq_true rfl, Nat.le_of_ble_eq_true rfl⟩ rfl (Nat.le_of_ble_eq_true rfl) ⟨Nat.le_of_ble_eq_true rfl, Nat.le_of_ble_eq_true rfl⟩ d9_init_118 ?_
  refine okc58 hf18 (fun hf19 => ?_)
  show At K X _ _ _ 64 _ 2 121 [(0, vR X 0)] [vR X 58, vR X 0] _
  refine r_putR F hnm (j := 9) (by decide) (by decide) rfl rfl lp9_68 (fun _ => ⟨rfl, rfl⟩) ⟨rfl, by decide⟩ d9_init_121 ?_
  have hf20 := (hf19.rset (c := 0) (i := 9) (v := 58 + 1) (by decide) (by decide))
  refine r_aload_nR F 0 rfl rfl d9_init_124 ?_
  refine r_new F wc9_72 wins1 wini1 (by decide) (n := 64) rfl hf20 ⟨Nat.le_of_ble_eq_true rfl, Nat.le_of_ble_eq_true rfl⟩ d9_init_125 ?_
  refine r_dup F rfl d9_init_128 ?_
  refine r_aload_nR F 0 rfl rfl d9_init_129 ?_
  refine r_getR F (z := 12) lf9_28 ⟨rfl, by decide⟩ (by decide +kernel) d9_init_130 ?_
  refine r_callC F lm9_74 ma1_init mi1_init rfl (mc := 2) (ms := 512) (rmy := { frames := 1, cells := 2, slots := 512, locals := 20 }) (As := [vR X 12]) (rest := [vR X 64, vR X 0]) rfl rfl rfl ⟨Nat.le_of_ble_eq_true rfl, Nat.le_of_ble_eq_true rfl⟩ rfl (Nat.le_of_ble_eq_true rfl) ⟨Nat.le_of_ble_eq_true rfl, Nat.le_of_ble_eq_true rfl⟩ d9_init_133 ?_
  refine okc64 hf20 (fun hf21 => ?_)
  show At K X _ _ _ 67 _ 2 136 [(0, vR X 0)] [vR X 64, vR X 0] _
  refine r_putR F hnm (j := 10) (by decide) (by decide) rfl rfl lp9_75 (fun _ => ⟨rfl, rfl⟩) ⟨rfl, by decide⟩ d9_init_136 ?_
  have hf22 := (hf21.rset (c := 0) (i := 10) (v := 64 + 1) (by decide) (by decide))
  refine r_aload_nR F 0 rfl rfl d9_init_139 ?_
  refine r_new F wc9_79 wins6 wini6 (by decide) (n := 67) rfl hf22 ⟨Nat.le_of_ble_eq_true rfl, Nat.le_of_ble_eq_true rfl⟩ d9_init_140 ?_
  refine r_dup F rfl d9_init_143 ?_
  refine r_aload_nR F 0 rfl rfl d9_init_144 ?_
  refine r_getR F (z := 12) lf9_28 ⟨rfl, by decide⟩ (by decide +kernel) d9_init_145 ?_
  refine r_callC F lm9_81 ma6_init mi6_init rfl (mc := 15) (ms := 266) (rmy := { frames := 2, cells := 15, slots := 266, locals := 41 }) (As := [vR X 12]) (rest := [vR X 67, vR X 0]) rfl rfl rfl ⟨Nat.le_of_ble_eq_true rfl, Nat.le_of_ble_eq_true rfl⟩ rfl (Nat.le_of_ble_eq_true rfl) ⟨Nat.le_of_ble_eq_true rfl, Nat.le_of_ble_eq_true rfl⟩ d9_init_148 ?_
  refine okc67 hf22 (fun hf23 => ?_)
  show At K X _ _ _ 83 _ 2 151 [(0, vR X 0)] [vR X 67, vR X 0] _
  refine r_putR F hnm (j := 11) (by decide) (by decide) rfl rfl lp9_82 (fun _ => ⟨rfl, rfl⟩) ⟨rfl, by decide⟩ d9_init_151 ?_
  have hf24 := (hf23.rset (c := 0) (i := 11) (v := 67 + 1) (by decide) (by decide))
  refine r_aload_nR F 0 rfl rfl d9_init_154 ?_
  refine r_bipush F (z := 16) (by decide) d9_init_155 ?_
  refine r_newI F (n := 83) (len := 16) wa_int rfl rfl (Nat.le_of_ble_eq_true rfl) hf24 ⟨Nat.le_of_ble_eq_true rfl, Nat.le_of_ble_eq_true rfl⟩ d9_init_157 ?_
  have hf25 := (hf24.mono (m' := 84) (by decide))
  refine r_putR F hnm (j := 12) (by decide) (by decide) rfl rfl lp9_86 (fun _ => ⟨rfl, rfl⟩) ⟨rfl, by decide⟩ d9_init_159 ?_
  have hf26 := (hf25.rset (c := 0) (i := 12) (v := 83 + 1) (by decide) (by decide))
  refine r_aload_nR F 0 rfl rfl d9_init_162 ?_
  refine r_bipush F (z := 16) (by decide) d9_init_163 ?_
  refine r_newI F (n := 84) (len := 16) wa_int rfl rfl (Nat.le_of_ble_eq_true rfl) hf26 ⟨Nat.le_of_ble_eq_true rfl, Nat.le_of_ble_eq_true rfl⟩ d9_init_165 ?_
  have hf27 := (hf26.mono (m' := 85) (by decide))
  refine r_putR F hnm (j := 13) (by decide) (by decide) rfl rfl lp9_90 (fun _ => ⟨rfl, rfl⟩) ⟨rfl, by decide⟩ d9_init_167 ?_
  have hf28 := (hf27.rset (c := 0) (i := 13) (v := 84 + 1) (by decide) (by decide))
  refine r_iconst F (z := 0) d9_init_170 ?_
  refine r_istore_n F (lv' := [(1, vI 0), (0, vR X 0)]) rfl (Nat.le_of_ble_eq_true rfl) rfl d9_init_171 ?_
  refine r_iload_n F 0 rfl rfl d9_init_172 ?_
  refine r_iconst F (z := 3) d9_init_173 ?_
  refine r_icmp_ge F (tgt := 196) d9_init_174 (by decide) (fun hb => absurd (by decide) hb) (fun hb => ?_)
  refine r_aload_nR F 1 rfl rfl d9_init_177 ?_
  refine r_getR F (z := 20) lf9_32 ⟨rfl, by decide⟩ (by decide +kernel) d9_init_178 ?_
  refine r_iload_n F 0 rfl rfl d9_init_181 ?_
  refine r_new F wc9_25 wins2 wini2 (by decide) (n := 85) rfl hf28 ⟨Nat.le_of_ble_eq_true rfl, Nat.le_of_ble_eq_true rfl⟩ d9_init_182 ?_
  refine r_dup F rfl d9_init_185 ?_
  refine r_callC F lm9_27 ma2_init mi2_init rfl (mc := 7) (ms := 122) (rmy := { frames := 1, cells := 7, slots := 122, locals := 20 }) (As := []) (rest := [vR X 85, vI 0, vR X 20]) rfl rfl rfl ⟨Nat.le_of_ble_eq_true rfl, Nat.le_of_ble_eq_true rfl⟩ rfl (Nat.le_of_ble_eq_true rfl) ⟨Nat.le_of_ble_eq_true rfl, Nat.le_of_ble_eq_true rfl⟩ d9_init_186 ?_
  refine okc85 hf28 (fun hf29 => ?_)
  show At K X _ _ _ 93 _ 2 189 [(1, vI 0), (0, vR X 0)] [vR X 85, vI 0, vR X 20] _
  refine r_aastP F (a := 20) (len := 3) (z := 85) ⟨rfl, by decide⟩ ⟨rfl, by decide⟩ (by decide) d9_init_189 ?_
  have hf30 := (hf29.rset (c := 20) (i := (0 : Int).toNat) (v := 85 + 1) (by decide) (by decide))
  refine r_iinc F 0 (lv' := [(1, vI 1), (0, vR X 0)]) rfl (Nat.le_of_ble_eq_true rfl) rfl d9_init_190 ?_
  refine r_goto F (tgt := 172) (by decide) d9_init_193 ?_
  refine r_iload_n F 0 rfl rfl d9_init_172 ?_
  refine r_iconst F (z := 3) d9_init_173 ?_
  refine r_icmp_ge F (tgt := 196) d9_init_174 (by decide) (fun hb => absurd (by decide) hb) (fun hb => ?_)
  refine r_aload_nR F 1 rfl rfl d9_init_177 ?_
  refine r_getR F (z := 20) lf9_32 ⟨rfl, by decide⟩ (by decide +kernel) d9_init_178 ?_
  refine r_iload_n F 0 rfl rfl d9_init_181 ?_
  refine r_new F wc9_25 wins2 wini2 (by decide) (n := 93) rfl hf30 ⟨Nat.le_of_ble_eq_true rfl, Nat.le_of_ble_eq_true rfl⟩ d9_init_182 ?_
  refine r_dup F rfl d9_init_185 ?_
  refine r_callC F lm9_27 ma2_init mi2_init rfl (mc := 7) (ms := 122) (rmy := { frames := 1, cells := 7, slots := 122, locals := 20 }) (As := []) (rest := [vR X 93, vI 1, vR X 20]) rfl rfl rfl ⟨Nat.le_of_ble_eq_true rfl, Nat.le_of_ble_eq_true rfl⟩ rfl (Nat.le_of_ble_eq_true rfl) ⟨Nat.le_of_ble_eq_true rfl, Nat.le_of_ble_eq_true rfl⟩ d9_init_186 ?_
  refine okc93 hf30 (fun hf31 => ?_)
  show At K X _ _ _ 101 _ 2 189 [(1, vI 1), (0, vR X 0)] [vR X 93, vI 1, vR X 20] _
  refine r_aastP F (a := 20) (len := 3) (z := 93) ⟨rfl, by decide⟩ ⟨rfl, by decide⟩ (by decide) d9_init_189 ?_
  have hf32 := (hf31.rset (c := 20) (i := (1 : Int).toNat) (v := 93 + 1) (by decide) (by decide))
  refine r_iinc F 0 (lv' := [(1, vI 2), (0, vR X 0)]) rfl (Nat.le_of_ble_eq_true rfl) rfl d9_init_190 ?_
  refine r_goto F (tgt := 172) (by decide) d9_init_193 ?_
  refine r_iload_n F 0 rfl rfl d9_init_172 ?_
  refine r_iconst F (z := 3) d9_init_173 ?_
  refine r_icmp_ge F (tgt := 196) d9_init_174 (by decide) (fun hb => absurd (by decide) hb) (fun hb => ?_)
  refine r_aload_nR F 1 rfl rfl d9_init_177 ?_
  refine r_getR F (z := 20) lf9_32 ⟨rfl, by decide⟩ (by decide +kernel) d9_init_178 ?_
  refine r_iload_n F 0 rfl rfl d9_init_181 ?_
  refine r_new F wc9_25 wins2 wini2 (by decide) (n := 101) rfl hf32 ⟨Nat.le_of_ble_eq_true rfl, Nat.le_of_ble_eq_true rfl⟩ d9_init_182 ?_
  refine r_dup F rfl d9_init_185 ?_
  refine r_callC F lm9_27 ma2_init mi2_init rfl (mc := 7) (ms := 122) (rmy := { frames := 1, cells := 7, slots := 122, locals := 20 }) (As := []) (rest := [vR X 101, vI 2, vR X 20]) rfl rfl rfl ⟨Nat.le_of_ble_eq_true rfl, Nat.le_of_ble_eq_true rfl⟩ rfl (Nat.le_of_ble_eq_true rfl) ⟨Nat.le_of_ble_eq_true rfl, Nat.le_of_ble_eq_true rfl⟩ d9_init_186 ?_
  refine okc101 hf32 (fun hf33 => ?_)
  show At K X _ _ _ 109 _ 2 189 [(1, vI 2), (0, vR X 0)] [vR X 101, vI 2, vR X 20] _
  refine r_aastP F (a := 20) (len := 3) (z := 101) ⟨rfl, by decide⟩ ⟨rfl, by decide⟩ (by decide) d9_init_189 ?_
  have hf34 := (hf33.rset (c := 20) (i := (2 : Int).toNat) (v := 101 + 1) (by decide) (by decide))
  refine r_iinc F 0 (lv' := [(1, vI 3), (0, vR X 0)]) rfl (Nat.le_of_ble_eq_true rfl) rfl d9_init_190 ?_
  refine r_goto F (tgt := 172) (by decide) d9_init_193 ?_
  refine r_iload_n F 0 rfl rfl d9_init_172 ?_
  refine r_iconst F (z := 3) d9_init_173 ?_
  refine r_icmp_ge F (tgt := 196) d9_init_174 (by decide) (fun hb => ?_) (fun hb => absurd hb (by decide))
  refine r_iconst F (z := 0) d9_init_196 ?_
  refine r_istore_n F (lv' := [(1, vI 0), (0, vR X 0)]) rfl (Nat.le_of_ble_eq_true rfl) rfl d9_init_197 ?_
  refine r_iload_n F 0 rfl rfl d9_init_198 ?_
  refine r_iconst F (z := 4) d9_init_199 ?_
  refine r_icmp_ge F (tgt := 222) d9_init_200 (by decide) (fun hb => absurd (by decide) hb) (fun hb => ?_)
  refine r_aload_nR F 1 rfl rfl d9_init_203 ?_
  refine r_getR F (z := 22) lf9_42 ⟨rfl, by decide⟩ (by decide +kernel) d9_init_204 ?_
  refine r_iload_n F 0 rfl rfl d9_init_207 ?_
  refine r_new F wc9_40 wins5 wini5 (by decide) (n := 109) rfl hf34 ⟨Nat.le_of_ble_eq_true rfl, Nat.le_of_ble_eq_true rfl⟩ d9_init_208 ?_
  refine r_dup F rfl d9_init_211 ?_
  refine r_callC F lm9_93 ma5_init mi5_init rfl (mc := 1) (ms := 60) (rmy := { frames := 1, cells := 1, slots := 60, locals := 20 }) (As := []) (rest := [vR X 109, vI 0, vR X 22]) rfl rfl rfl ⟨Nat.le_of_ble_eq_true rfl, Nat.le_of_ble_eq_true rfl⟩ rfl (Nat.le_of_ble_eq_true rfl) ⟨Nat.le_of_ble_eq_true rfl, Nat.le_of_ble_eq_true rfl⟩ d9_init_212 ?_
  refine okc109 hf34 (fun hf35 => ?_)
  show At K X _ _ _ 111 _ 2 215 [(1, vI 0), (0, vR X 0)] [vR X 109, vI 0, vR X 22] _
  refine r_aastS F (a := 22) (len := 4) (z := 109) ⟨rfl, by decide⟩ ⟨rfl, by decide⟩ (by decide) d9_init_215 ?_
  have hf36 := (hf35.rset (c := 22) (i := (0 : Int).toNat) (v := 109 + 1) (by decide) (by decide))
  refine r_iinc F 0 (lv' := [(1, vI 1), (0, vR X 0)]) rfl (Nat.le_of_ble_eq_true rfl) rfl d9_init_216 ?_
  refine r_goto F (tgt := 198) (by decide) d9_init_219 ?_
  refine r_iload_n F 0 rfl rfl d9_init_198 ?_
  refine r_iconst F (z := 4) d9_init_199 ?_
  refine r_icmp_ge F (tgt := 222) d9_init_200 (by decide) (fun hb => absurd (by decide) hb) (fun hb => ?_)
  refine r_aload_nR F 1 rfl rfl d9_init_203 ?_
  refine r_getR F (z := 22) lf9_42 ⟨rfl, by decide⟩ (by decide +kernel) d9_init_204 ?_
  refine r_iload_n F 0 rfl rfl d9_init_207 ?_
  refine r_new F wc9_40 wins5 wini5 (by decide) (n := 111) rfl hf36 ⟨Nat.le_of_ble_eq_true rfl, Nat.le_of_ble_eq_true rfl⟩ d9_init_208 ?_
  refine r_dup F rfl d9_init_211 ?_
  refine r_callC F lm9_93 ma5_init mi5_init rfl (mc := 1) (ms := 60) (rmy := { frames := 1, cells := 1, slots := 60, locals := 20 }) (As := []) (rest := [vR X 111, vI 1, vR X 22]) rfl rfl rfl ⟨Nat.le_of_ble_eq_true rfl, Nat.le_of_ble_eq_true rfl⟩ rfl (Nat.le_of_ble_eq_true rfl) ⟨Nat.le_of_ble_eq_true rfl, Nat.le_of_ble_eq_true rfl⟩ d9_init_212 ?_
  refine okc111 hf36 (fun hf37 => ?_)
  show At K X _ _ _ 113 _ 2 215 [(1, vI 1), (0, vR X 0)] [vR X 111, vI 1, vR X 22] _
  refine r_aastS F (a := 22) (len := 4) (z := 111) ⟨rfl, by decide⟩ ⟨rfl, by decide⟩ (by decide) d9_init_215 ?_
  have hf38 := (hf37.rset (c := 22) (i := (1 : Int).toNat) (v := 111 + 1) (by decide) (by decide))
  refine r_iinc F 0 (lv' := [(1, vI 2), (0, vR X 0)]) rfl (Nat.le_of_ble_eq_true rfl) rfl d9_init_216 ?_
  refine r_goto F (tgt := 198) (by decide) d9_init_219 ?_
  refine r_iload_n F 0 rfl rfl d9_init_198 ?_
  refine r_iconst F (z := 4) d9_init_199 ?_
  refine r_icmp_ge F (tgt := 222) d9_init_200 (by decide) (fun hb => absurd (by decide) hb) (fun hb => ?_)
  refine r_aload_nR F 1 rfl rfl d9_init_203 ?_
  refine r_getR F (z := 22) lf9_42 ⟨rfl, by decide⟩ (by decide +kernel) d9_init_204 ?_
  refine r_iload_n F 0 rfl rfl d9_init_207 ?_
  refine r_new F wc9_40 wins5 wini5 (by decide) (n := 113) rfl hf38 ⟨Nat.le_of_ble_eq_true rfl, Nat.le_of_ble_eq_true rfl⟩ d9_init_208 ?_
  refine r_dup F rfl d9_init_211 ?_
  refine r_callC F lm9_93 ma5_init mi5_init rfl (mc := 1) (ms := 60) (rmy := { frames := 1, cells := 1, slots := 60, locals := 20 }) (As := []) (rest := [vR X 113, vI 2, vR X 22]) rfl rfl rfl ⟨Nat.le_of_ble_eq_true rfl, Nat.le_of_ble_eq_true rfl⟩ rfl (Nat.le_of_ble_eq_true rfl) ⟨Nat.le_of_ble_eq_true rfl, Nat.le_of_ble_eq_true rfl⟩ d9_init_212 ?_
  refine okc113 hf38 (fun hf39 => ?_)
  show At K X _ _ _ 115 _ 2 215 [(1, vI 2), (0, vR X 0)] [vR X 113, vI 2, vR X 22] _
  refine r_aastS F (a := 22) (len := 4) (z := 113) ⟨rfl, by decide⟩ ⟨rfl, by decide⟩ (by decide) d9_init_215 ?_
  have hf40 := (hf39.rset (c := 22) (i := (2 : Int).toNat) (v := 113 + 1) (by decide) (by decide))
  refine r_iinc F 0 (lv' := [(1, vI 3), (0, vR X 0)]) rfl (Nat.le_of_ble_eq_true rfl) rfl d9_init_216 ?_
  refine r_goto F (tgt := 198) (by decide) d9_init_219 ?_
  refine r_iload_n F 0 rfl rfl d9_init_198 ?_
  refine r_iconst F (z := 4) d9_init_199 ?_
  refine r_icmp_ge F (tgt := 222) d9_init_200 (by decide) (fun hb => absurd (by decide) hb) (fun hb => ?_)
  refine r_aload_nR F 1 rfl rfl d9_init_203 ?_
  refine r_getR F (z := 22) lf9_42 ⟨rfl, by decide⟩ (by decide +kernel) d9_init_204 ?_
  refine r_iload_n F 0 rfl rfl d9_init_207 ?_
  refine r_new F wc9_40 wins5 wini5 (by decide) (n := 115) rfl hf40 ⟨Nat.le_of_ble_eq_true rfl, Nat.le_of_ble_eq_true rfl⟩ d9_init_208 ?_
  refine r_dup F rfl d9_init_211 ?_
  refine r_callC F lm9_93 ma5_init mi5_init rfl (mc := 1) (ms := 60) (rmy := { frames := 1, cells := 1, slots := 60, locals := 20 }) (As := []) (rest := [vR X 115, vI 3, vR X 22]) rfl rfl rfl ⟨Nat.le_of_ble_eq_true rfl, Nat.le_of_ble_eq_true rfl⟩ rfl (Nat.le_of_ble_eq_true rfl) ⟨Nat.le_of_ble_eq_true rfl, Nat.le_of_ble_eq_true rfl⟩ d9_init_212 ?_
  refine okc115 hf40 (fun hf41 => ?_)
  show At K X _ _ _ 117 _ 2 215 [(1, vI 3), (0, vR X 0)] [vR X 115, vI 3, vR X 22] _
  refine r_aastS F (a := 22) (len := 4) (z := 115) ⟨rfl, by decide⟩ ⟨rfl, by decide⟩ (by decide) d9_init_215 ?_
  have hf42 := (hf41.rset (c := 22) (i := (3 : Int).toNat) (v := 115 + 1) (by decide) (by decide))
  refine r_iinc F 0 (lv' := [(1, vI 4), (0, vR X 0)]) rfl (Nat.le_of_ble_eq_true rfl) rfl d9_init_216 ?_
  refine r_goto F (tgt := 198) (by decide) d9_init_219 ?_
  refine r_iload_n F 0 rfl rfl d9_init_198 ?_
  refine r_iconst F (z := 4) d9_init_199 ?_
  refine r_icmp_ge F (tgt := 222) d9_init_200 (by decide) (fun hb => ?_) (fun hb => absurd hb (by decide))
  refine r_aload_nR F 1 rfl rfl d9_init_222 ?_
  refine At_rho (ρ' := rt) (ρ := rho0) (fun k hk j => ?_) ?_
  · rcases Nat.lt_or_ge j 60 with hj | hj
    · exact rho_near k hk j hj
    · exact ((show Fr 117 rho0 D0c from hf42).2 k j hj).trans (rt_far hj).symm
  refine r_callV0 F lm9_94 mf9_changed ⟨rfl, by decide⟩ rfl (fr := 3) (lo := 68) (As := []) (rest := []) ⟨Nat.le_of_ble_eq_true rfl, Nat.le_of_ble_eq_true rfl⟩ rfl (Nat.le_of_ble_eq_true rfl) ⟨Nat.le_of_ble_eq_true rfl, Nat.le_of_ble_eq_true rfl⟩ d9_init_223 ?_
  refine ok9_changed (Nat.le_refl _) (kVm h (fun a h => ?_))
  refine At_rho (ρ' := rhoX) (fun k hk j => by unfold rhoX; rw [if_pos hk]) ?_
  exact r_vret F h d9_init_226
def rc117 (ρ : Rho) : Rho := (rset (rset (rset (rset (rset (rset (rset (rset (rset (rset (rset (rset (rset (rset (rset (rset (rset (rset (rset (rset (rset (rset (rset (rset (rset (rset (rset (rset (rset ρ 117 1 119) 117 2 120) 117 3 121) 117 4 122) 117 6 123) 117 14 124) 117 15 125) 117 16 126) 117 17 127) 117 18 128) 117 23 129) 117 24 130) 117 25 131) 117 26 132) 117 28 133) 117 29 134) 117 30 135) 117 31 136) 117 32 137) 117 33 138) 117 37 139) 117 38 140) 117 39 141) 117 41 142) 117 42 143) 117 43 144) 117 44 145) 117 45 146) 117 46 147)
set_option maxHeartbeats 4000000 in
theorem okc117 {l : Launch} {X : XT} {ρ : Rho} {D : Mem} {Q : Option Value → Nat → Rho → Mem → Prop} (hfr : Fr 117 ρ D) (h : Fr 147 (rc117 ρ) (mset (mset (mset (mset (mset D 117 13 (-1)) 143 0 (-1)) 143 1 (-1)) 143 2 (-1)) 143 3 (-1)) → Q none 147 (rc117 ρ) (mset (mset (mset (mset (mset D 117 13 (-1)) 143 0 (-1)) 143 1 (-1)) 143 2 (-1)) 143 3 (-1))) : MOK l y10_init c10_init 1 none { frames := 1, cells := 29, slots := 11344, locals := 20 } 29 11344 X [vR X 117] 118 ρ D Q := by
  refine MOK_of 10 (by decide +kernel) rfl (lv := [(0, vR X 117)]) (Nat.le_of_ble_eq_true rfl) rfl (fun K hK F hnm => ?_)
  subst hK
  have hf0 : Fr 118 ρ D := hfr.mono (by decide)
  refine r_aload_nR F 0 rfl rfl d10_init_0 ?_
  refine r_objInit F lo10_3 wi1 wi2 ⟨Nat.le_of_ble_eq_true rfl, Nat.le_of_ble_eq_true rfl⟩ d10_init_1 ?_
  refine r_aload_nR F 0 rfl rfl d10_init_4 ?_
  refine r_bipush F (z := 72) (by decide) d10_init_5 ?_
  refine r_newI F (n := 118) (len := 72) wa_int rfl rfl (Nat.le_of_ble_eq_true rfl) hf0 ⟨Nat.le_of_ble_eq_true rfl, Nat.le_of_ble_eq_true rfl⟩ d10_init_7 ?_
  have hf1 := (hf0.mono (m' := 119) (by decide))
  refine r_putR F hnm (j := 1) (by decide) (by decide) rfl rfl lp10_9 (fun _ => ⟨rfl, rfl⟩) ⟨rfl, by decide⟩ d10_init_9 ?_
  have hf2 := (hf1.rset (c := 117) (i := 1) (v := 118 + 1) (by decide) (by decide))
  refine r_aload_nR F 0 rfl rfl d10_init_12 ?_
  refine r_sipush F (z := 216) (by decide) d10_init_13 ?_
  refine r_newI F (n := 119) (len := 216) wa_int rfl rfl (Nat.le_of_ble_eq_true rfl) hf2 ⟨Nat.le_of_ble_eq_true rfl, Nat.le_of_ble_eq_true rfl⟩ d10_init_16 ?_
  have hf3 := (hf2.mono (m' := 120) (by decide))
  refine r_putR F hnm (j := 2) (by decide) (by decide) rfl rfl lp10_13 (fun _ => ⟨rfl, rfl⟩) ⟨rfl, by decide⟩ d10_init_18 ?_
  have hf4 := (hf3.rset (c := 117) (i := 2) (v := 119 + 1) (by decide) (by decide))
  refine r_aload_nR F 0 rfl rfl d10_init_21 ?_
  refine r_iconst F (z := 3) d10_init_22 ?_
  refine r_newZ F (n := 120) (len := 3) wa_boolean rfl rfl (Nat.le_of_ble_eq_true rfl) hf4 ⟨Nat.le_of_ble_eq_true rfl, Nat.le_of_ble_eq_true rfl⟩ d10_init_23 ?_
  have hf5 := (hf4.mono (m' := 121) (by decide))
  refine r_putR F hnm (j := 3) (by decide) (by decide) rfl rfl lp10_16 (fun _ => ⟨rfl, rfl⟩) ⟨rfl, by decide⟩ d10_init_25 ?_
  have hf6 := (hf5.rset (c := 117) (i := 3) (v := 120 + 1) (by decide) (by decide))
  refine r_aload_nR F 0 rfl rfl d10_init_28 ?_
  refine r_sipush F (z := 700) (by decide) d10_init_29 ?_
  refine r_newB F (n := 121) (len := 700) wa_byte rfl rfl (Nat.le_of_ble_eq_true rfl) hf6 ⟨Nat.le_of_ble_eq_true rfl, Nat.le_of_ble_eq_true rfl⟩ d10_init_32 ?_
  have hf7 := (hf6.mono (m' := 122) (by decide))
  refine r_putR F hnm (j := 4) (by decide) (by decide) rfl rfl lp10_20 (fun _ => ⟨rfl, rfl⟩) ⟨rfl, by decide⟩ d10_init_34 ?_
  have hf8 := (hf7.rset (c := 117) (i := 4) (v := 121 + 1) (by decide) (by decide))
  refine r_aload_nR F 0 rfl rfl d10_init_37 ?_
  refine r_iconst F (z := 5) d10_init_38 ?_
  refine r_newI F (n := 122) (len := 5) wa_int rfl rfl (Nat.le_of_ble_eq_true rfl) hf8 ⟨Nat.le_of_ble_eq_true rfl, Nat.le_of_ble_eq_true rfl⟩ d10_init_39 ?_
  have hf9 := (hf8.mono (m' := 123) (by decide))
  refine r_putR F hnm (j := 6) (by decide) (by decide) rfl rfl lp10_24 (fun _ => ⟨rfl, rfl⟩) ⟨rfl, by decide⟩ d10_init_41 ?_
  have hf10 := (hf9.rset (c := 117) (i := 6) (v := 122 + 1) (by decide) (by decide))
  refine r_aload_nR F 0 rfl rfl d10_init_44 ?_
  refine r_iconst F (z := (-1)) d10_init_45 ?_
  refine r_putI F lf10_27 rfl rfl ⟨rfl, by decide⟩ d10_init_46 ?_
  have hf11 := (hf10.mset (c := 117) (i := 13) (v := (-1)) (by decide))
  refine r_aload_nR F 0 rfl rfl d10_init_49 ?_
  refine r_bipush F (z := 72) (by decide) d10_init_50 ?_
  refine r_newI F (n := 123) (len := 72) wa_int rfl rfl (Nat.le_of_ble_eq_true rfl) hf11 ⟨Nat.le_of_ble_eq_true rfl, Nat.le_of_ble_eq_true rfl⟩ d10_init_52 ?_
  have hf12 := (hf11.mono (m' := 124) (by decide))
  refine r_putR F hnm (j := 14) (by decide) (by decide) rfl rfl lp10_31 (fun _ => ⟨rfl, rfl⟩) ⟨rfl, by decide⟩ d10_init_54 ?_
  have hf13 := (hf12.rset (c := 117) (i := 14) (v := 123 + 1) (by decide) (by decide))
  refine r_aload_nR F 0 rfl rfl d10_init_57 ?_
  refine r_bipush F (z := 8) (by decide) d10_init_58 ?_
  refine r_newI F (n := 124) (len := 8) wa_int rfl rfl (Nat.le_of_ble_eq_true rfl) hf13 ⟨Nat.le_of_ble_eq_true rfl, Nat.le_of_ble_eq_true rfl⟩ d10_init_60 ?_
  have hf14 := (hf13.mono (m' := 125) (by decide))
  refine r_putR F hnm (j := 15) (by decide) (by decide) rfl rfl lp10_34 (fun _ => ⟨rfl, rfl⟩) ⟨rfl, by decide⟩ d10_init_62 ?_
  have hf15 := (hf14.rset (c := 117) (i := 15) (v := 124 + 1) (by decide) (by decide))
  refine r_aload_nR F 0 rfl rfl d10_init_65 ?_
  refine r_bipush F (z := 8) (by decide) d10_init_66 ?_
  refine r_newI F (n := 125) (len := 8) wa_int rfl rfl (Nat.le_of_ble_eq_true rfl) hf15 ⟨Nat.le_of_ble_eq_true rfl, Nat.le_of_ble_eq_true rfl⟩ d10_init_68 ?_
  have hf16 := (hf15.mono (m' := 126) (by decide))
  refine r_putR F hnm (j := 16) (by decide) (by decide) rfl rfl lp10_37 (fun _ => ⟨rfl, rfl⟩) ⟨rfl, by decide⟩ d10_init_70 ?_
  have hf17 := (hf16.rset (c := 117) (i := 16) (v := 125 + 1) (by decide) (by decide))
  refine r_aload_nR F 0 rfl rfl d10_init_73 ?_
  refine r_bipush F (z := 8) (by decide) d10_init_74 ?_
  refine r_newI F (n := 126) (len := 8) wa_int rfl rfl (Nat.le_of_ble_eq_true rfl) hf17 ⟨Nat.le_of_ble_eq_true rfl, Nat.le_of_ble_eq_true rfl⟩ d10_init_76 ?_
  have hf18 := (hf17.mono (m' := 127) (by decide))
  refine r_putR F hnm (j := 17) (by decide) (by decide) rfl rfl lp10_40 (fun _ => ⟨rfl, rfl⟩) ⟨rfl, by decide⟩ d10_init_78 ?_
  have hf19 := (hf18.rset (c := 117) (i := 17) (v := 126 + 1) (by decide) (by decide))
  refine r_aload_nR F 0 rfl rfl d10_init_81 ?_
  refine r_bipush F (z := 8) (by decide) d10_init_82 ?_
  refine r_newI F (n := 127) (len := 8) wa_int rfl rfl (Nat.le_of_ble_eq_true rfl) hf19 ⟨Nat.le_of_ble_eq_true rfl, Nat.le_of_ble_eq_true rfl⟩ d10_init_84 ?_
  have hf20 := (hf19.mono (m' := 128) (by decide))
  refine r_putR F hnm (j := 18) (by decide) (by decide) rfl rfl lp10_43 (fun _ => ⟨rfl, rfl⟩) ⟨rfl, by decide⟩ d10_init_86 ?_
  have hf21 := (hf20.rset (c := 117) (i := 18) (v := 127 + 1) (by decide) (by decide))
  refine r_aload_nR F 0 rfl rfl d10_init_89 ?_
  refine r_bipush F (z := 8) (by decide) d10_init_90 ?_
  refine r_newI F (n := 128) (len := 8) wa_int rfl rfl (Nat.le_of_ble_eq_true rfl) hf21 ⟨Nat.le_of_ble_eq_true rfl, Nat.le_of_ble_eq_true rfl⟩ d10_init_92 ?_
  have hf22 := (hf21.mono (m' := 129) (by decide))
  refine r_putR F hnm (j := 23) (by decide) (by decide) rfl rfl lp10_46 (fun _ => ⟨rfl, rfl⟩) ⟨rfl, by decide⟩ d10_init_94 ?_
  have hf23 := (hf22.rset (c := 117) (i := 23) (v := 128 + 1) (by decide) (by decide))
  refine r_aload_nR F 0 rfl rfl d10_init_97 ?_
  refine r_bipush F (z := 12) (by decide) d10_init_98 ?_
  refine r_newI F (n := 129) (len := 12) wa_int rfl rfl (Nat.le_of_ble_eq_true rfl) hf23 ⟨Nat.le_of_ble_eq_true rfl, Nat.le_of_ble_eq_true rfl⟩ d10_init_100 ?_
  have hf24 := (hf23.mono (m' := 130) (by decide))
  refine r_putR F hnm (j := 24) (by decide) (by decide) rfl rfl lp10_49 (fun _ => ⟨rfl, rfl⟩) ⟨rfl, by decide⟩ d10_init_102 ?_
  have hf25 := (hf24.rset (c := 117) (i := 24) (v := 129 + 1) (by decide) (by decide))
  refine r_aload_nR F 0 rfl rfl d10_init_105 ?_
  refine r_bipush F (z := 12) (by decide) d10_init_106 ?_
  refine r_newI F (n := 130) (len := 12) wa_int rfl rfl (Nat.le_of_ble_eq_true rfl) hf25 ⟨Nat.le_of_ble_eq_true rfl, Nat.le_of_ble_eq_true rfl⟩ d10_init_108 ?_
  have hf26 := (hf25.mono (m' := 131) (by decide))
  refine r_putR F hnm (j := 25) (by decide) (by decide) rfl rfl lp10_52 (fun _ => ⟨rfl, rfl⟩) ⟨rfl, by decide⟩ d10_init_110 ?_
  have hf27 := (hf26.rset (c := 117) (i := 25) (v := 130 + 1) (by decide) (by decide))
  refine r_aload_nR F 0 rfl rfl d10_init_113 ?_
  refine r_bipush F (z := 12) (by decide) d10_init_114 ?_
  refine r_newI F (n := 131) (len := 12) wa_int rfl rfl (Nat.le_of_ble_eq_true rfl) hf27 ⟨Nat.le_of_ble_eq_true rfl, Nat.le_of_ble_eq_true rfl⟩ d10_init_116 ?_
  have hf28 := (hf27.mono (m' := 132) (by decide))
  refine r_putR F hnm (j := 26) (by decide) (by decide) rfl rfl lp10_55 (fun _ => ⟨rfl, rfl⟩) ⟨rfl, by decide⟩ d10_init_118 ?_
  have hf29 := (hf28.rset (c := 117) (i := 26) (v := 131 + 1) (by decide) (by decide))
  refine r_aload_nR F 0 rfl rfl d10_init_121 ?_
  refine r_bipush F (z := 8) (by decide) d10_init_122 ?_
  refine r_newI F (n := 132) (len := 8) wa_int rfl rfl (Nat.le_of_ble_eq_true rfl) hf29 ⟨Nat.le_of_ble_eq_true rfl, Nat.le_of_ble_eq_true rfl⟩ d10_init_124 ?_
  have hf30 := (hf29.mono (m' := 133) (by decide))
  refine r_putR F hnm (j := 28) (by decide) (by decide) rfl rfl lp10_58 (fun _ => ⟨rfl, rfl⟩) ⟨rfl, by decide⟩ d10_init_126 ?_
  have hf31 := (hf30.rset (c := 117) (i := 28) (v := 132 + 1) (by decide) (by decide))
  refine r_aload_nR F 0 rfl rfl d10_init_129 ?_
  refine r_sipush F (z := 256) (by decide) d10_init_130 ?_
  refine r_newI F (n := 133) (len := 256) wa_int rfl rfl (Nat.le_of_ble_eq_true rfl) hf31 ⟨Nat.le_of_ble_eq_true rfl, Nat.le_of_ble_eq_true rfl⟩ d10_init_133 ?_
  have hf32 := (hf31.mono (m' := 134) (by decide))
  refine r_putR F hnm (j := 29) (by decide) (by decide) rfl rfl lp10_61 (fun _ => ⟨rfl, rfl⟩) ⟨rfl, by decide⟩ d10_init_135 ?_
  have hf33 := (hf32.rset (c := 117) (i := 29) (v := 133 + 1) (by decide) (by decide))
  refine r_aload_nR F 0 rfl rfl d10_init_138 ?_
  refine r_sipush F (z := 256) (by decide) d10_init_139 ?_
  refine r_newI F (n := 134) (len := 256) wa_int rfl rfl (Nat.le_of_ble_eq_true rfl) hf33 ⟨Nat.le_of_ble_eq_true rfl, Nat.le_of_ble_eq_true rfl⟩ d10_init_142 ?_
  have hf34 := (hf33.mono (m' := 135) (by decide))
  refine r_putR F hnm (j := 30) (by decide) (by decide) rfl rfl lp10_64 (fun _ => ⟨rfl, rfl⟩) ⟨rfl, by decide⟩ d10_init_144 ?_
  have hf35 := (hf34.rset (c := 117) (i := 30) (v := 134 + 1) (by decide) (by decide))
  refine r_aload_nR F 0 rfl rfl d10_init_147 ?_
  refine r_sipush F (z := 3328) (by decide) d10_init_148 ?_
  refine r_newI F (n := 135) (len := 3328) wa_int rfl rfl (Nat.le_of_ble_eq_true rfl) hf35 ⟨Nat.le_of_ble_eq_true rfl, Nat.le_of_ble_eq_true rfl⟩ d10_init_151 ?_
  have hf36 := (hf35.mono (m' := 136) (by decide))
  refine r_putR F hnm (j := 31) (by decide) (by decide) rfl rfl lp10_67 (fun _ => ⟨rfl, rfl⟩) ⟨rfl, by decide⟩ d10_init_153 ?_
  have hf37 := (hf36.rset (c := 117) (i := 31) (v := 135 + 1) (by decide) (by decide))
  refine r_aload_nR F 0 rfl rfl d10_init_156 ?_
  refine r_sipush F (z := 3328) (by decide) d10_init_157 ?_
  refine r_newL F (n := 136) (len := 3328) wa_long rfl rfl (Nat.le_of_ble_eq_true rfl) hf37 ⟨Nat.le_of_ble_eq_true rfl, Nat.le_of_ble_eq_true rfl⟩ d10_init_160 ?_
  have hf38 := (hf37.mono (m' := 137) (by decide))
  refine r_putR F hnm (j := 32) (by decide) (by decide) rfl rfl lp10_70 (fun _ => ⟨rfl, rfl⟩) ⟨rfl, by decide⟩ d10_init_162 ?_
  have hf39 := (hf38.rset (c := 117) (i := 32) (v := 136 + 1) (by decide) (by decide))
  refine r_aload_nR F 0 rfl rfl d10_init_165 ?_
  refine r_bipush F (z := 8) (by decide) d10_init_166 ?_
  refine r_newI F (n := 137) (len := 8) wa_int rfl rfl (Nat.le_of_ble_eq_true rfl) hf39 ⟨Nat.le_of_ble_eq_true rfl, Nat.le_of_ble_eq_true rfl⟩ d10_init_168 ?_
  have hf40 := (hf39.mono (m' := 138) (by decide))
  refine r_putR F hnm (j := 33) (by decide) (by decide) rfl rfl lp10_74 (fun _ => ⟨rfl, rfl⟩) ⟨rfl, by decide⟩ d10_init_170 ?_
  have hf41 := (hf40.rset (c := 117) (i := 33) (v := 137 + 1) (by decide) (by decide))
  refine r_aload_nR F 0 rfl rfl d10_init_173 ?_
  refine r_sipush F (z := 2304) (by decide) d10_init_174 ?_
  refine r_newI F (n := 138) (len := 2304) wa_int rfl rfl (Nat.le_of_ble_eq_true rfl) hf41 ⟨Nat.le_of_ble_eq_true rfl, Nat.le_of_ble_eq_true rfl⟩ d10_init_177 ?_
  have hf42 := (hf41.mono (m' := 139) (by decide))
  refine r_putR F hnm (j := 37) (by decide) (by decide) rfl rfl lp10_77 (fun _ => ⟨rfl, rfl⟩) ⟨rfl, by decide⟩ d10_init_179 ?_
  have hf43 := (hf42.rset (c := 117) (i := 37) (v := 138 + 1) (by decide) (by decide))
  refine r_aload_nR F 0 rfl rfl d10_init_182 ?_
  refine r_bipush F (z := 8) (by decide) d10_init_183 ?_
  refine r_newI F (n := 139) (len := 8) wa_int rfl rfl (Nat.le_of_ble_eq_true rfl) hf43 ⟨Nat.le_of_ble_eq_true rfl, Nat.le_of_ble_eq_true rfl⟩ d10_init_185 ?_
  have hf44 := (hf43.mono (m' := 140) (by decide))
  refine r_putR F hnm (j := 38) (by decide) (by decide) rfl rfl lp10_80 (fun _ => ⟨rfl, rfl⟩) ⟨rfl, by decide⟩ d10_init_187 ?_
  have hf45 := (hf44.rset (c := 117) (i := 38) (v := 139 + 1) (by decide) (by decide))
  refine r_aload_nR F 0 rfl rfl d10_init_190 ?_
  refine r_bipush F (z := 108) (by decide) d10_init_191 ?_
  refine r_newI F (n := 140) (len := 108) wa_int rfl rfl (Nat.le_of_ble_eq_true rfl) hf45 ⟨Nat.le_of_ble_eq_true rfl, Nat.le_of_ble_eq_true rfl⟩ d10_init_193 ?_
  have hf46 := (hf45.mono (m' := 141) (by decide))
  refine r_putR F hnm (j := 39) (by decide) (by decide) rfl rfl lp10_83 (fun _ => ⟨rfl, rfl⟩) ⟨rfl, by decide⟩ d10_init_195 ?_
  have hf47 := (hf46.rset (c := 117) (i := 39) (v := 140 + 1) (by decide) (by decide))
  refine r_aload_nR F 0 rfl rfl d10_init_198 ?_
  refine r_sipush F (z := 256) (by decide) d10_init_199 ?_
  refine r_newI F (n := 141) (len := 256) wa_int rfl rfl (Nat.le_of_ble_eq_true rfl) hf47 ⟨Nat.le_of_ble_eq_true rfl, Nat.le_of_ble_eq_true rfl⟩ d10_init_202 ?_
  have hf48 := (hf47.mono (m' := 142) (by decide))
  refine r_putR F hnm (j := 41) (by decide) (by decide) rfl rfl lp10_86 (fun _ => ⟨rfl, rfl⟩) ⟨rfl, by decide⟩ d10_init_204 ?_
  have hf49 := (hf48.rset (c := 117) (i := 41) (v := 141 + 1) (by decide) (by decide))
  refine r_aload_nR F 0 rfl rfl d10_init_207 ?_
  refine r_bipush F (z := 32) (by decide) d10_init_208 ?_
  refine r_newI F (n := 142) (len := 32) wa_int rfl rfl (Nat.le_of_ble_eq_true rfl) hf49 ⟨Nat.le_of_ble_eq_true rfl, Nat.le_of_ble_eq_true rfl⟩ d10_init_210 ?_
  have hf50 := (hf49.mono (m' := 143) (by decide))
  refine r_putR F hnm (j := 42) (by decide) (by decide) rfl rfl lp10_89 (fun _ => ⟨rfl, rfl⟩) ⟨rfl, by decide⟩ d10_init_212 ?_
  have hf51 := (hf50.rset (c := 117) (i := 42) (v := 142 + 1) (by decide) (by decide))
  refine r_aload_nR F 0 rfl rfl d10_init_215 ?_
  refine r_iconst F (z := 4) d10_init_216 ?_
  refine r_newI F (n := 143) (len := 4) wa_int rfl rfl (Nat.le_of_ble_eq_true rfl) hf51 ⟨Nat.le_of_ble_eq_true rfl, Nat.le_of_ble_eq_true rfl⟩ d10_init_217 ?_
  have hf52 := (hf51.mono (m' := 144) (by decide))
  refine r_dup F rfl d10_init_219 ?_
  refine r_iconst F (z := 0) d10_init_220 ?_
  refine r_iconst F (z := (-1)) d10_init_221 ?_
  refine r_iastC F (j := 0) (a := 143) (len := 4) ⟨rfl, by decide⟩ (by decide) rfl d10_init_222 ?_
  have hf53 := (hf52.mset (c := 143) (i := 0) (v := (-1)) (by decide))
  refine r_dup F rfl d10_init_223 ?_
  refine r_iconst F (z := 1) d10_init_224 ?_
  refine r_iconst F (z := (-1)) d10_init_225 ?_
  refine r_iastC F (j := 1) (a := 143) (len := 4) ⟨rfl, by decide⟩ (by decide) rfl d10_init_226 ?_
  have hf54 := (hf53.mset (c := 143) (i := 1) (v := (-1)) (by decide))
  refine r_dup F rfl d10_init_227 ?_
  refine r_iconst F (z := 2) d10_init_228 ?_
  refine r_iconst F (z := (-1)) d10_init_229 ?_
  refine r_iastC F (j := 2) (a := 143) (len := 4) ⟨rfl, by decide⟩ (by decide) rfl d10_init_230 ?_
  have hf55 := (hf54.mset (c := 143) (i := 2) (v := (-1)) (by decide))
  refine r_dup F rfl d10_init_231 ?_
  refine r_iconst F (z := 3) d10_init_232 ?_
  refine r_iconst F (z := (-1)) d10_init_233 ?_
  refine r_iastC F (j := 3) (a := 143) (len := 4) ⟨rfl, by decide⟩ (by decide) rfl d10_init_234 ?_
  have hf56 := (hf55.mset (c := 143) (i := 3) (v := (-1)) (by decide))
  refine r_putR F hnm (j := 43) (by decide) (by decide) rfl rfl lp10_92 (fun _ => ⟨rfl, rfl⟩) ⟨rfl, by decide⟩ d10_init_235 ?_
  have hf57 := (hf56.rset (c := 117) (i := 43) (v := 143 + 1) (by decide) (by decide))
  refine r_aload_nR F 0 rfl rfl d10_init_238 ?_
  refine r_iconst F (z := 4) d10_init_239 ?_
  refine r_newI F (n := 144) (len := 4) wa_int rfl rfl (Nat.le_of_ble_eq_true rfl) hf57 ⟨Nat.le_of_ble_eq_true rfl, Nat.le_of_ble_eq_true rfl⟩ d10_init_240 ?_
  have hf58 := (hf57.mono (m' := 145) (by decide))
  refine r_putR F hnm (j := 44) (by decide) (by decide) rfl rfl lp10_95 (fun _ => ⟨rfl, rfl⟩) ⟨rfl, by decide⟩ d10_init_242 ?_
  have hf59 := (hf58.rset (c := 117) (i := 44) (v := 144 + 1) (by decide) (by decide))
  refine r_aload_nR F 0 rfl rfl d10_init_245 ?_
  refine r_sipush F (z := 240) (by decide) d10_init_246 ?_
  refine r_newL F (n := 145) (len := 240) wa_long rfl rfl (Nat.le_of_ble_eq_true rfl) hf59 ⟨Nat.le_of_ble_eq_true rfl, Nat.le_of_ble_eq_true rfl⟩ d10_init_249 ?_
  have hf60 := (hf59.mono (m' := 146) (by decide))
  refine r_putR F hnm (j := 45) (by decide) (by decide) rfl rfl lp10_98 (fun _ => ⟨rfl, rfl⟩) ⟨rfl, by decide⟩ d10_init_251 ?_
  have hf61 := (hf60.rset (c := 117) (i := 45) (v := 145 + 1) (by decide) (by decide))
  refine r_aload_nR F 0 rfl rfl d10_init_254 ?_
  refine r_bipush F (z := 60) (by decide) d10_init_255 ?_
  refine r_newL F (n := 146) (len := 60) wa_long rfl rfl (Nat.le_of_ble_eq_true rfl) hf61 ⟨Nat.le_of_ble_eq_true rfl, Nat.le_of_ble_eq_true rfl⟩ d10_init_257 ?_
  have hf62 := (hf61.mono (m' := 147) (by decide))
  refine r_putR F hnm (j := 46) (by decide) (by decide) rfl rfl lp10_101 (fun _ => ⟨rfl, rfl⟩) ⟨rfl, by decide⟩ d10_init_259 ?_
  have hf63 := (hf62.rset (c := 117) (i := 46) (v := 146 + 1) (by decide) (by decide))
  exact r_vret F (h hf63) d10_init_262
theorem rho_nearM : ∀ k, k < 147 → ∀ j, j < 60 → rc117 rhoX k j = rt k j := by decide +kernel
theorem rhoM_ok {D : Mem} (hf : Fr 147 (rc117 rhoX) D) : ∀ k, k < 147 → ∀ j, rc117 rhoX k j = rt k j := by
  intro k hk j
  rcases Nat.lt_or_ge j 60 with hj | hj
  · exact rho_nearM k hk j hj
  · rw [hf.2 k j hj, rt_far hj]
