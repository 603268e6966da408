/-! the constructors -/
theorem kk_0 : isK 0 11 := by decide +kernel
theorem kk_1 : isK 1 20900 := by decide +kernel
theorem kk_2 : isK 2 7 := by decide +kernel
theorem kk_3 : isK 3 9 := by decide +kernel
theorem kk_4 : isK 4 10901 := by decide +kernel
theorem kk_5 : isK 5 50004 := by decide +kernel
theorem kk_6 : isK 6 3 := by decide +kernel
theorem kk_7 : isK 7 10009 := by decide +kernel
theorem kk_8 : isK 8 10009 := by decide +kernel
theorem kk_9 : isK 9 10009 := by decide +kernel
theorem kk_10 : isK 10 10009 := by decide +kernel
theorem kk_11 : isK 11 10009 := by decide +kernel
theorem kk_12 : isK 12 10008 := by decide +kernel
theorem kk_13 : isK 13 4 := by decide +kernel
theorem kk_14 : isK 14 10900 := by decide +kernel
theorem kk_15 : isK 15 10002 := by decide +kernel
theorem kk_16 : isK 16 10002 := by decide +kernel
theorem kk_17 : isK 17 10006 := by decide +kernel
theorem kk_18 : isK 18 10064 := by decide +kernel
theorem kk_19 : isK 19 3 := by decide +kernel
theorem kk_20 : isK 20 10009 := by decide +kernel
theorem kk_21 : isK 21 10009 := by decide +kernel
theorem kk_22 : isK 22 10009 := by decide +kernel
theorem kk_23 : isK 23 10009 := by decide +kernel
theorem kk_24 : isK 24 10009 := by decide +kernel
theorem kk_25 : isK 25 10008 := by decide +kernel
theorem kk_26 : isK 26 4 := by decide +kernel
theorem kk_27 : isK 27 10900 := by decide +kernel
theorem kk_28 : isK 28 10002 := by decide +kernel
theorem kk_29 : isK 29 10002 := by decide +kernel
theorem kk_30 : isK 30 10006 := by decide +kernel
theorem kk_31 : isK 31 10064 := by decide +kernel
theorem kk_32 : isK 32 3 := by decide +kernel
theorem kk_33 : isK 33 10009 := by decide +kernel
theorem kk_34 : isK 34 10009 := by decide +kernel
theorem kk_35 : isK 35 10009 := by decide +kernel
theorem kk_36 : isK 36 10009 := by decide +kernel
theorem kk_37 : isK 37 10009 := by decide +kernel
theorem kk_38 : isK 38 10008 := by decide +kernel
theorem kk_39 : isK 39 4 := by decide +kernel
theorem kk_40 : isK 40 10900 := by decide +kernel
theorem kk_41 : isK 41 10002 := by decide +kernel
theorem kk_42 : isK 42 10002 := by decide +kernel
theorem kk_43 : isK 43 10006 := by decide +kernel
theorem kk_44 : isK 44 10064 := by decide +kernel
theorem kk_45 : isK 45 3 := by decide +kernel
theorem kk_46 : isK 46 10009 := by decide +kernel
theorem kk_47 : isK 47 10009 := by decide +kernel
theorem kk_48 : isK 48 10009 := by decide +kernel
theorem kk_49 : isK 49 10009 := by decide +kernel
theorem kk_50 : isK 50 10009 := by decide +kernel
theorem kk_51 : isK 51 10008 := by decide +kernel
theorem kk_52 : isK 52 4 := by decide +kernel
theorem kk_53 : isK 53 10900 := by decide +kernel
theorem kk_54 : isK 54 10002 := by decide +kernel
theorem kk_55 : isK 55 10002 := by decide +kernel
theorem kk_56 : isK 56 10006 := by decide +kernel
theorem kk_57 : isK 57 10064 := by decide +kernel
theorem kk_58 : isK 58 0 := by decide +kernel
theorem kk_59 : isK 59 10009 := by decide +kernel
theorem kk_60 : isK 60 0 := by decide +kernel
theorem kk_61 : isK 61 10009 := by decide +kernel
theorem kk_62 : isK 62 2 := by decide +kernel
theorem kk_63 : isK 63 60010 := by decide +kernel
theorem kk_64 : isK 64 0 := by decide +kernel
theorem kk_65 : isK 65 10009 := by decide +kernel
theorem kk_66 : isK 66 0 := by decide +kernel
theorem kk_67 : isK 67 10009 := by decide +kernel
theorem kk_68 : isK 68 0 := by decide +kernel
theorem kk_69 : isK 69 10009 := by decide +kernel
theorem kk_70 : isK 70 0 := by decide +kernel
theorem kk_71 : isK 71 10009 := by decide +kernel
theorem kk_72 : isK 72 0 := by decide +kernel
theorem kk_73 : isK 73 10009 := by decide +kernel
theorem kk_74 : isK 74 0 := by decide +kernel
theorem kk_75 : isK 75 10009 := by decide +kernel
theorem kk_76 : isK 76 0 := by decide +kernel
theorem kk_77 : isK 77 10009 := by decide +kernel
theorem kk_78 : isK 78 0 := by decide +kernel
theorem kk_79 : isK 79 10009 := by decide +kernel
theorem kk_80 : isK 80 0 := by decide +kernel
theorem kk_81 : isK 81 10009 := by decide +kernel
theorem kk_82 : isK 82 0 := by decide +kernel
theorem kk_83 : isK 83 10009 := by decide +kernel
theorem kk_84 : isK 84 60002 := by decide +kernel
theorem kk_85 : isK 85 0 := by decide +kernel
theorem kk_86 : isK 86 10009 := by decide +kernel
theorem kk_87 : isK 87 0 := by decide +kernel
theorem kk_88 : isK 88 10009 := by decide +kernel
theorem kk_89 : isK 89 70004 := by decide +kernel
theorem kk_90 : isK 90 10 := by decide +kernel
theorem kk_91 : isK 91 40040 := by decide +kernel
theorem kk_92 : isK 92 10 := by decide +kernel
theorem kk_93 : isK 93 40040 := by decide +kernel
theorem kk_94 : isK 94 10 := by decide +kernel
theorem kk_95 : isK 95 40040 := by decide +kernel
theorem kk_96 : isK 96 10 := by decide +kernel
theorem kk_97 : isK 97 40040 := by decide +kernel
theorem kk_98 : isK 98 6 := by decide +kernel
theorem kk_99 : isK 99 10009 := by decide +kernel
theorem kk_100 : isK 100 10007 := by decide +kernel
theorem kk_101 : isK 101 8 := by decide +kernel
theorem kk_102 : isK 102 30063 := by decide +kernel
theorem kk_103 : isK 103 10063 := by decide +kernel
theorem kk_104 : isK 104 10009 := by decide +kernel
theorem kk_105 : isK 105 10007 := by decide +kernel
theorem kk_106 : isK 106 1 := by decide +kernel
theorem kk_107 : isK 107 10512 := by decide +kernel
theorem kk_108 : isK 108 5 := by decide +kernel
theorem kk_109 : isK 109 10007 := by decide +kernel
theorem kk_110 : isK 110 10007 := by decide +kernel
theorem kk_111 : isK 111 12 := by decide +kernel
theorem kk_112 : isK 112 13300 := by decide +kernel
theorem kk_113 : isK 113 30002 := by decide +kernel
theorem kk_114 : isK 114 10900 := by decide +kernel
theorem kk_115 : isK 115 11100 := by decide +kernel
theorem kk_116 : isK 116 10900 := by decide +kernel
theorem kk_117 : isK 117 10006 := by decide +kernel
theorem kk_118 : isK 118 10013 := by decide +kernel
theorem kk_119 : isK 119 10007 := by decide +kernel
theorem kk_120 : isK 120 10006 := by decide +kernel
theorem kk_121 : isK 121 10007 := by decide +kernel
theorem kk_122 : isK 122 10007 := by decide +kernel
theorem kk_123 : isK 123 33584 := by decide +kernel
theorem kk_124 : isK 124 33584 := by decide +kernel
theorem kk_125 : isK 125 10056 := by decide +kernel
theorem kk_126 : isK 126 10004 := by decide +kernel
theorem kk_127 : isK 127 10004 := by decide +kernel
theorem kk_128 : isK 128 40160 := by decide +kernel
theorem ki_obj : Cond.instanceMethod objectInit ∈ gT := gT_in (inT1 (List.mem_of_getElem? (i := 29) rfl)) rfl
theorem kc_obj : Cond.code objectInit ⟨#[0xb1]⟩ 1 none ∈ gT := gT_in (inT1 (List.mem_of_getElem? (i := 30) rfl)) rfl
theorem kc_X0_init : Cond.code yX0_init cX0_init 2 none ∈ gT := gT_in (inT1 (List.mem_of_getElem? (i := 219) rfl)) rfl
theorem mi_X0_init : Mi yX0_init cX0_init 2 none 1 := ⟨kc_X0_init, ki_RX0, ⟨by decide +kernel, by decide +kernel⟩, by decide +kernel⟩
theorem in_X0_init : Cond.instanceMethod yX0_init ∈ gT := gT_in (inT1 (List.mem_of_getElem? (i := 218) rfl)) rfl
theorem kn_0 : Cond.instantiable RX0 6 ∈ gT := gT_in (inT1 (List.mem_of_getElem? (i := 216) rfl)) rfl
theorem df_0 : ∀ j, j < 6 → defaultValue (tyX0 j) = if ftg 0 j = -1 then .int (jI 0) else .null := by decide +kernel
theorem kc_X1_init : Cond.code yX1_init cX1_init 1 none ∈ gT := gT_in (inT2 (List.mem_of_getElem? (i := 104) rfl)) rfl
theorem mi_X1_init : Mi yX1_init cX1_init 1 none 0 := ⟨kc_X1_init, ki_RX1, ⟨by decide +kernel, by decide +kernel⟩, by decide +kernel⟩
theorem in_X1_init : Cond.instanceMethod yX1_init ∈ gT := gT_in (inT2 (List.mem_of_getElem? (i := 103) rfl)) rfl
theorem kn_1 : Cond.instantiable RX1 1 ∈ gT := gT_in (inT2 (List.mem_of_getElem? (i := 101) rfl)) rfl
theorem df_1 : ∀ j, j < 1 → defaultValue (tyX1 j) = if ftg 1 j = -1 then .int (jI 0) else .null := by decide +kernel
theorem kc_X2_init : Cond.code yX2_init cX2_init 3 none ∈ gT := gT_in (inT2 (List.mem_of_getElem? (i := 20) rfl)) rfl
theorem mi_X2_init : Mi yX2_init cX2_init 3 none 1 := ⟨kc_X2_init, ki_RX2, ⟨by decide +kernel, by decide +kernel⟩, by decide +kernel⟩
theorem in_X2_init : Cond.instanceMethod yX2_init ∈ gT := gT_in (inT2 (List.mem_of_getElem? (i := 19) rfl)) rfl
theorem kn_2 : Cond.instantiable RX2 3 ∈ gT := gT_in (inT2 (List.mem_of_getElem? (i := 17) rfl)) rfl
theorem df_2 : ∀ j, j < 3 → defaultValue (tyX2 j) = if ftg 2 j = -1 then .int (jI 0) else .null := by decide +kernel
theorem kc_X3_init : Cond.code yX3_init cX3_init 1 none ∈ gT := gT_in (inT1 (List.mem_of_getElem? (i := 97) rfl)) rfl
theorem mi_X3_init : Mi yX3_init cX3_init 1 none 0 := ⟨kc_X3_init, ki_RX3, ⟨by decide +kernel, by decide +kernel⟩, by decide +kernel⟩
theorem in_X3_init : Cond.instanceMethod yX3_init ∈ gT := gT_in (inT1 (List.mem_of_getElem? (i := 96) rfl)) rfl
theorem kn_3 : Cond.instantiable RX3 15 ∈ gT := gT_in (inT1 (List.mem_of_getElem? (i := 94) rfl)) rfl
theorem df_3 : ∀ j, j < 15 → defaultValue (tyX3 j) = if ftg 3 j = -1 then .int (jI 0) else .null := by decide +kernel
theorem kc_X4_init : Cond.code yX4_init cX4_init 1 none ∈ gT := gT_in (inT1 (List.mem_of_getElem? (i := 103) rfl)) rfl
theorem mi_X4_init : Mi yX4_init cX4_init 1 none 0 := ⟨kc_X4_init, ki_RX4, ⟨by decide +kernel, by decide +kernel⟩, by decide +kernel⟩
theorem in_X4_init : Cond.instanceMethod yX4_init ∈ gT := gT_in (inT1 (List.mem_of_getElem? (i := 102) rfl)) rfl
theorem kn_4 : Cond.instantiable RX4 7 ∈ gT := gT_in (inT1 (List.mem_of_getElem? (i := 100) rfl)) rfl
theorem df_4 : ∀ j, j < 7 → defaultValue (tyX4 j) = if ftg 4 j = -1 then .int (jI 0) else .null := by decide +kernel
theorem kc_X5_init : Cond.code yX5_init cX5_init 1 none ∈ gT := gT_in (inT2 (List.mem_of_getElem? (i := 114) rfl)) rfl
theorem mi_X5_init : Mi yX5_init cX5_init 1 none 0 := ⟨kc_X5_init, ki_RX5, ⟨by decide +kernel, by decide +kernel⟩, by decide +kernel⟩
theorem in_X5_init : Cond.instanceMethod yX5_init ∈ gT := gT_in (inT2 (List.mem_of_getElem? (i := 113) rfl)) rfl
theorem kn_5 : Cond.instantiable RX5 3 ∈ gT := gT_in (inT2 (List.mem_of_getElem? (i := 111) rfl)) rfl
theorem df_5 : ∀ j, j < 3 → defaultValue (tyX5 j) = if ftg 5 j = -1 then .int (jI 0) else .null := by decide +kernel
theorem kc_X6_init : Cond.code yX6_init cX6_init 1 none ∈ gT := gT_in (inT2 (List.mem_of_getElem? (i := 62) rfl)) rfl
theorem mi_X6_init : Mi yX6_init cX6_init 1 none 0 := ⟨kc_X6_init, ki_RX6, ⟨by decide +kernel, by decide +kernel⟩, by decide +kernel⟩
theorem in_X6_init : Cond.instanceMethod yX6_init ∈ gT := gT_in (inT2 (List.mem_of_getElem? (i := 61) rfl)) rfl
theorem kn_6 : Cond.instantiable RX6 2 ∈ gT := gT_in (inT2 (List.mem_of_getElem? (i := 59) rfl)) rfl
theorem df_6 : ∀ j, j < 2 → defaultValue (tyX6 j) = if ftg 6 j = -1 then .int (jI 0) else .null := by decide +kernel
theorem kc_X7_init : Cond.code yX7_init cX7_init 1 none ∈ gT := gT_in (inT1 (List.mem_of_getElem? (i := 35) rfl)) rfl
theorem mi_X7_init : Mi yX7_init cX7_init 1 none 0 := ⟨kc_X7_init, ki_RX7, ⟨by decide +kernel, by decide +kernel⟩, by decide +kernel⟩
theorem in_X7_init : Cond.instanceMethod yX7_init ∈ gT := gT_in (inT1 (List.mem_of_getElem? (i := 34) rfl)) rfl
theorem kn_7 : Cond.instantiable RX7 6 ∈ gT := gT_in (inT1 (List.mem_of_getElem? (i := 32) rfl)) rfl
theorem df_7 : ∀ j, j < 6 → defaultValue (tyX7 j) = if ftg 7 j = -1 then .int (jI 0) else .null := by decide +kernel
theorem kc_X8_init : Cond.code yX8_init cX8_init 1 none ∈ gT := gT_in (inT2 (List.mem_of_getElem? (i := 75) rfl)) rfl
theorem mi_X8_init : Mi yX8_init cX8_init 1 none 0 := ⟨kc_X8_init, ki_RX8, ⟨by decide +kernel, by decide +kernel⟩, by decide +kernel⟩
theorem in_X8_init : Cond.instanceMethod yX8_init ∈ gT := gT_in (inT2 (List.mem_of_getElem? (i := 74) rfl)) rfl
theorem kn_8 : Cond.instantiable RX8 7 ∈ gT := gT_in (inT2 (List.mem_of_getElem? (i := 72) rfl)) rfl
theorem df_8 : ∀ j, j < 7 → defaultValue (tyX8 j) = if ftg 8 j = -1 then .int (jI 0) else .null := by decide +kernel
theorem kc_X9_init : Cond.code yX9_init cX9_init 1 none ∈ gT := gT_in (inT1 (List.mem_of_getElem? (i := 41) rfl)) rfl
theorem mi_X9_init : Mi yX9_init cX9_init 1 none 0 := ⟨kc_X9_init, ki_RX9, ⟨by decide +kernel, by decide +kernel⟩, by decide +kernel⟩
theorem in_X9_init : Cond.instanceMethod yX9_init ∈ gT := gT_in (inT1 (List.mem_of_getElem? (i := 40) rfl)) rfl
theorem kn_9 : Cond.instantiable RX9 8 ∈ gT := gT_in (inT1 (List.mem_of_getElem? (i := 38) rfl)) rfl
theorem df_9 : ∀ j, j < 8 → defaultValue (tyX9 j) = if ftg 9 j = -1 then .int (jI 0) else .null := by decide +kernel
theorem kc_X10_init : Cond.code yX10_init cX10_init 1 none ∈ gT := gT_in (inT2 (List.mem_of_getElem? (i := 40) rfl)) rfl
theorem mi_X10_init : Mi yX10_init cX10_init 1 none 0 := ⟨kc_X10_init, ki_RX10, ⟨by decide +kernel, by decide +kernel⟩, by decide +kernel⟩
theorem in_X10_init : Cond.instanceMethod yX10_init ∈ gT := gT_in (inT2 (List.mem_of_getElem? (i := 39) rfl)) rfl
theorem kn_10 : Cond.instantiable RX10 4 ∈ gT := gT_in (inT2 (List.mem_of_getElem? (i := 37) rfl)) rfl
theorem df_10 : ∀ j, j < 4 → defaultValue (tyX10 j) = if ftg 10 j = -1 then .int (jI 0) else .null := by decide +kernel
theorem kc_X11_init : Cond.code yX11_init cX11_init 2 none ∈ gT := gT_in (inT1 (List.mem_of_getElem? (i := 27) rfl)) rfl
theorem mi_X11_init : Mi yX11_init cX11_init 2 none 0 := ⟨kc_X11_init, ki_RX11, ⟨by decide +kernel, by decide +kernel⟩, by decide +kernel⟩
theorem in_X11_init : Cond.instanceMethod yX11_init ∈ gT := gT_in (inT1 (List.mem_of_getElem? (i := 26) rfl)) rfl
theorem kn_11 : Cond.instantiable RX11 16 ∈ gT := gT_in (inT1 (List.mem_of_getElem? (i := 24) rfl)) rfl
theorem df_11 : ∀ j, j < 16 → defaultValue (tyX11 j) = if ftg 11 j = -1 then .int (jI 0) else .null := by decide +kernel
theorem kc_X12_init : Cond.code yX12_init cX12_init 1 none ∈ gT := gT_in (inT6 (List.mem_of_getElem? (i := 24) rfl)) rfl
theorem mi_X12_init : Mi yX12_init cX12_init 1 none 0 := ⟨kc_X12_init, ki_RX12, ⟨by decide +kernel, by decide +kernel⟩, by decide +kernel⟩
theorem in_X12_init : Cond.instanceMethod yX12_init ∈ gT := gT_in (inT6 (List.mem_of_getElem? (i := 23) rfl)) rfl
theorem kn_12 : Cond.instantiable RX12 32 ∈ gT := gT_in (inT6 (List.mem_of_getElem? (i := 21) rfl)) rfl
theorem df_12 : ∀ j, j < 32 → defaultValue (tyX12 j) = if ftg 12 j = -1 then .int (jI 0) else .null := by decide +kernel
theorem ka_int : Cond.arrayClass .int ∈ gT := gT_in (inT1 (List.mem_of_getElem? (i := 72) rfl)) rfl
theorem ka_byte : Cond.arrayClass .byte ∈ gT := gT_in (inT1 (List.mem_of_getElem? (i := 71) rfl)) rfl
theorem ka_boolean : Cond.arrayClass .boolean ∈ gT := gT_in (inT2 (List.mem_of_getElem? (i := 99) rfl)) rfl
theorem ka_long : Cond.arrayClass .long ∈ gT := gT_in (inT2 (List.mem_of_getElem? (i := 57) rfl)) rfl
theorem kl_11_1 : Cond.methodLink RX11 1 objectInit ∈ gT := gT_in (inT1 (List.mem_of_getElem? (i := 28) rfl)) rfl
theorem kd_11_13 : Cond.classLink RX11 13 RX7 ∈ gT := gT_in (inT1 (List.mem_of_getElem? (i := 31) rfl)) rfl
theorem kl_7_3 : Cond.methodLink RX7 3 objectInit ∈ gT := gT_in (inT1 (List.mem_of_getElem? (i := 36) rfl)) rfl
theorem kd_7_9 : Cond.classLink RX7 9 RX9 ∈ gT := gT_in (inT1 (List.mem_of_getElem? (i := 37) rfl)) rfl
theorem kl_9_3 : Cond.methodLink RX9 3 objectInit ∈ gT := gT_in (inT1 (List.mem_of_getElem? (i := 42) rfl)) rfl
def i_X9_3 (ν : Mem) : Mem := (ms ν 3 5 4)
set_option maxHeartbeats 4000000 in
set_option maxRecDepth 20000 in
theorem ci_X9_3 (l : Launch) (D : Ds) (b : Nat) {ν : Mem} : CtrI l D b yX9_init cX9_init 1 1 1 901 [(2, 3)] 4 ν 5 (i_X9_3 ν) := by
  refine CtrI.of (by decide +kernel) rfl (Nat.le_of_ble_eq_true rfl) ?_
  intro p e s m below meth c C hG h ls hl
  refine r_aload_n C.1 hl (kx := 0) rfl rfl dX9_init_0 ?_
  refine rr_obj C (by decide) kl_9_3 ki_obj kc_obj (lvh_sz hl) (by decide) (Nat.le_of_ble_eq_true rfl) dX9_init_1 ?_
  refine r_aload_n C.1 hl (kx := 0) rfl rfl dX9_init_4 ?_
  refine r_sipush C.1 (by decide) dX9_init_5 ?_
  refine rr_newa C h (g := 0) (N := 901) (ty := .int) rfl (by decide) rfl (by decide) (by decide) (kk_4).2 ka_int (by decide) (by decide) dX9_init_8 (z := 4) rfl (fun H h => ?_)
  refine rr_putF C h ok9 kk_3 (by decide) 5 (by decide) kf_9_9 (by decide) rfl (z := 4) rfl (nar_arr _ _) (fit_arr _ _) dX9_init_10 (jz := 5) rfl (fun H locs h => ?_)
  exact rr_vret C h dX9_init_13
theorem kl_7_11 : (RX7, 11, yX9_init, "RutWays") ∈ nestL := List.mem_of_getElem? (i := 1) rfl
def i_X7_2 (ν : Mem) : Mem := (ms (i_X9_3 ν) 2 0 3)
set_option maxHeartbeats 4000000 in
set_option maxRecDepth 20000 in
theorem ci_X7_2 (l : Launch) (D : Ds) (b : Nat) {ν : Mem} : CtrI l D b yX7_init cX7_init 1 2 2 909 [(2, 2)] 3 ν 5 (i_X7_2 ν) := by
  refine CtrI.of (by decide +kernel) rfl (Nat.le_of_ble_eq_true rfl) ?_
  intro p e s m below meth c C hG h ls hl
  refine r_aload_n C.1 hl (kx := 0) rfl rfl dX7_init_0 ?_
  refine rr_obj C (by decide) kl_7_3 ki_obj kc_obj (lvh_sz hl) (by decide) (Nat.le_of_ble_eq_true rfl) dX7_init_1 ?_
  refine r_aload_n C.1 hl (kx := 0) rfl rfl dX7_init_4 ?_
  refine rr_new C h ok9 (kk_3).2 df_9 kd_7_9 kn_9 ki_RX9 (by decide) (by decide) dX7_init_5 (z := 3) rfl (fun H h => ?_)
  refine r_dup C.1 (rfv_cat _ _) dX7_init_8 ?_
  refine rr_callN C hG h (K := []) (ci_X9_3 l D b) mi_X9_init in_X9_init rfl kl_7_11 (by decide) rfl rfl (lvh_sz hl) (by decide) (Nat.le_of_ble_eq_true rfl) (by decide) dX7_init_9 (fun H locs h => ?_)
  refine rr_putF C h ok7 kk_2 (by decide) 0 (by decide) kf_7_12 (by decide) rfl (z := 3) rfl (nar_ref _ _) (fit_ref _ _) dX7_init_12 (jz := 0) rfl (fun H locs h => ?_)
  exact rr_vret C h dX7_init_15
theorem kl_11_15 : (RX11, 15, yX7_init, "RutWays") ∈ nestL := List.mem_of_getElem? (i := 0) rfl
theorem kd_11_24 : Cond.classLink RX11 24 RX3 ∈ gT := gT_in (inT1 (List.mem_of_getElem? (i := 92) rfl)) rfl
theorem kl_3_3 : Cond.methodLink RX3 3 objectInit ∈ gT := gT_in (inT1 (List.mem_of_getElem? (i := 98) rfl)) rfl
theorem kd_3_30 : Cond.classLink RX3 30 RX4 ∈ gT := gT_in (inT1 (List.mem_of_getElem? (i := 99) rfl)) rfl
theorem kl_4_3 : Cond.methodLink RX4 3 objectInit ∈ gT := gT_in (inT1 (List.mem_of_getElem? (i := 104) rfl)) rfl
def i_X4_13 (ν : Mem) : Mem := (ms (ms (ms (ms (ms ν 13 0 14) 13 2 15) 13 3 16) 13 4 17) 13 5 18)
set_option maxHeartbeats 4000000 in
set_option maxRecDepth 20000 in
theorem ci_X4_13 (l : Launch) (D : Ds) (b : Nat) {ν : Mem} : CtrI l D b yX4_init cX4_init 1 1 5 974 [(2, 13)] 14 ν 19 (i_X4_13 ν) := by
  refine CtrI.of (by decide +kernel) rfl (Nat.le_of_ble_eq_true rfl) ?_
  intro p e s m below meth c C hG h ls hl
  refine r_aload_n C.1 hl (kx := 0) rfl rfl dX4_init_0 ?_
  refine rr_obj C (by decide) kl_4_3 ki_obj kc_obj (lvh_sz hl) (by decide) (Nat.le_of_ble_eq_true rfl) dX4_init_1 ?_
  refine r_aload_n C.1 hl (kx := 0) rfl rfl dX4_init_4 ?_
  refine r_sipush C.1 (by decide) dX4_init_5 ?_
  refine rr_newa C h (g := 0) (N := 900) (ty := .int) rfl (by decide) rfl (by decide) (by decide) (kk_14).2 ka_int (by decide) (by decide) dX4_init_8 (z := 14) rfl (fun H h => ?_)
  refine rr_putF C h ok4 kk_13 (by decide) 0 (by decide) kf_4_9 (by decide) rfl (z := 14) rfl (nar_arr _ _) (fit_arr _ _) dX4_init_10 (jz := 0) rfl (fun H locs h => ?_)
  refine r_aload_n C.1 hl (kx := 0) rfl rfl dX4_init_13 ?_
  refine r_iconst C.1 dX4_init_14 ?_
  refine rr_newa C h (g := 0) (N := 2) (ty := .int) rfl (by decide) rfl (by decide) (by decide) (kk_15).2 ka_int (by decide) (by decide) dX4_init_15 (z := 15) rfl (fun H h => ?_)
  refine rr_putF C h ok4 kk_13 (by decide) 2 (by decide) kf_4_15 (by decide) rfl (z := 15) rfl (nar_arr _ _) (fit_arr _ _) dX4_init_17 (jz := 2) rfl (fun H locs h => ?_)
  refine r_aload_n C.1 hl (kx := 0) rfl rfl dX4_init_20 ?_
  refine r_iconst C.1 dX4_init_21 ?_
  refine rr_newa C h (g := 0) (N := 2) (ty := .int) rfl (by decide) rfl (by decide) (by decide) (kk_16).2 ka_int (by decide) (by decide) dX4_init_22 (z := 16) rfl (fun H h => ?_)
  refine rr_putF C h ok4 kk_13 (by decide) 3 (by decide) kf_4_18 (by decide) rfl (z := 16) rfl (nar_arr _ _) (fit_arr _ _) dX4_init_24 (jz := 3) rfl (fun H locs h => ?_)
  refine r_aload_n C.1 hl (kx := 0) rfl rfl dX4_init_27 ?_
  refine r_bipush C.1 (by decide) dX4_init_28 ?_
  refine rr_newa C h (g := 0) (N := 6) (ty := .int) rfl (by decide) rfl (by decide) (by decide) (kk_17).2 ka_int (by decide) (by decide) dX4_init_30 (z := 17) rfl (fun H h => ?_)
  refine rr_putF C h ok4 kk_13 (by decide) 4 (by decide) kf_4_21 (by decide) rfl (z := 17) rfl (nar_arr _ _) (fit_arr _ _) dX4_init_32 (jz := 4) rfl (fun H locs h => ?_)
  refine r_aload_n C.1 hl (kx := 0) rfl rfl dX4_init_35 ?_
  refine r_bipush C.1 (by decide) dX4_init_36 ?_
  refine rr_newa C h (g := 0) (N := 64) (ty := .int) rfl (by decide) rfl (by decide) (by decide) (kk_18).2 ka_int (by decide) (by decide) dX4_init_38 (z := 18) rfl (fun H h => ?_)
  refine rr_putF C h ok4 kk_13 (by decide) 5 (by decide) kf_4_24 (by decide) rfl (z := 18) rfl (nar_arr _ _) (fit_arr _ _) dX4_init_40 (jz := 5) rfl (fun H locs h => ?_)
  exact rr_vret C h dX4_init_43
theorem kl_3_32 : (RX3, 32, yX4_init, "RutWays") ∈ nestL := List.mem_of_getElem? (i := 2) rfl
def i_X3_6 (ν : Mem) : Mem := (ms (ms (i_X4_13 (ms (ms (ms (ms (ms (ms ν 6 8 7) 6 9 8) 6 10 9) 6 11 10) 6 12 11) 6 13 12)) 6 14 13) 6 0 1)
set_option maxHeartbeats 4000000 in
set_option maxRecDepth 20000 in
theorem ci_X3_6 (l : Launch) (D : Ds) (b : Nat) {ν : Mem} : CtrI l D b yX3_init cX3_init 1 2 12 1034 [(2, 6)] 7 ν 19 (i_X3_6 ν) := by
  refine CtrI.of (by decide +kernel) rfl (Nat.le_of_ble_eq_true rfl) ?_
  intro p e s m below meth c C hG h ls hl
  refine r_aload_n C.1 hl (kx := 0) rfl rfl dX3_init_0 ?_
  refine rr_obj C (by decide) kl_3_3 ki_obj kc_obj (lvh_sz hl) (by decide) (Nat.le_of_ble_eq_true rfl) dX3_init_1 ?_
  refine r_aload_n C.1 hl (kx := 0) rfl rfl dX3_init_4 ?_
  refine r_bipush C.1 (by decide) dX3_init_5 ?_
  refine rr_newa C h (g := 0) (N := 9) (ty := .int) rfl (by decide) rfl (by decide) (by decide) (kk_7).2 ka_int (by decide) (by decide) dX3_init_7 (z := 7) rfl (fun H h => ?_)
  refine rr_putF C h ok3 kk_6 (by decide) 8 (by decide) kf_3_9 (by decide) rfl (z := 7) rfl (nar_arr _ _) (fit_arr _ _) dX3_init_9 (jz := 8) rfl (fun H locs h => ?_)
  refine r_aload_n C.1 hl (kx := 0) rfl rfl dX3_init_12 ?_
  refine r_bipush C.1 (by decide) dX3_init_13 ?_
  refine rr_newa C h (g := 0) (N := 9) (ty := .int) rfl (by decide) rfl (by decide) (by decide) (kk_8).2 ka_int (by decide) (by decide) dX3_init_15 (z := 8) rfl (fun H h => ?_)
  refine rr_putF C h ok3 kk_6 (by decide) 9 (by decide) kf_3_15 (by decide) rfl (z := 8) rfl (nar_arr _ _) (fit_arr _ _) dX3_init_17 (jz := 9) rfl (fun H locs h => ?_)
  refine r_aload_n C.1 hl (kx := 0) rfl rfl dX3_init_20 ?_
  refine r_bipush C.1 (by decide) dX3_init_21 ?_
  refine rr_newa C h (g := 0) (N := 9) (ty := .int) rfl (by decide) rfl (by decide) (by decide) (kk_9).2 ka_int (by decide) (by decide) dX3_init_23 (z := 9) rfl (fun H h => ?_)
  refine rr_putF C h ok3 kk_6 (by decide) 10 (by decide) kf_3_18 (by decide) rfl (z := 9) rfl (nar_arr _ _) (fit_arr _ _) dX3_init_25 (jz := 10) rfl (fun H locs h => ?_)
  refine r_aload_n C.1 hl (kx := 0) rfl rfl dX3_init_28 ?_
  refine r_bipush C.1 (by decide) dX3_init_29 ?_
  refine rr_newa C h (g := 0) (N := 9) (ty := .int) rfl (by decide) rfl (by decide) (by decide) (kk_10).2 ka_int (by decide) (by decide) dX3_init_31 (z := 10) rfl (fun H h => ?_)
  refine rr_putF C h ok3 kk_6 (by decide) 11 (by decide) kf_3_21 (by decide) rfl (z := 10) rfl (nar_arr _ _) (fit_arr _ _) dX3_init_33 (jz := 11) rfl (fun H locs h => ?_)
  refine r_aload_n C.1 hl (kx := 0) rfl rfl dX3_init_36 ?_
  refine r_bipush C.1 (by decide) dX3_init_37 ?_
  refine rr_newa C h (g := 0) (N := 9) (ty := .int) rfl (by decide) rfl (by decide) (by decide) (kk_11).2 ka_int (by decide) (by decide) dX3_init_39 (z := 11) rfl (fun H h => ?_)
  refine rr_putF C h ok3 kk_6 (by decide) 12 (by decide) kf_3_24 (by decide) rfl (z := 11) rfl (nar_arr _ _) (fit_arr _ _) dX3_init_41 (jz := 12) rfl (fun H locs h => ?_)
  refine r_aload_n C.1 hl (kx := 0) rfl rfl dX3_init_44 ?_
  refine r_bipush C.1 (by decide) dX3_init_45 ?_
  refine rr_newa C h (g := 0) (N := 8) (ty := .int) rfl (by decide) rfl (by decide) (by decide) (kk_12).2 ka_int (by decide) (by decide) dX3_init_47 (z := 12) rfl (fun H h => ?_)
  refine rr_putF C h ok3 kk_6 (by decide) 13 (by decide) kf_3_27 (by decide) rfl (z := 12) rfl (nar_arr _ _) (fit_arr _ _) dX3_init_49 (jz := 13) rfl (fun H locs h => ?_)
  refine r_aload_n C.1 hl (kx := 0) rfl rfl dX3_init_52 ?_
  refine rr_new C h ok4 (kk_13).2 df_4 kd_3_30 kn_4 ki_RX4 (by decide) (by decide) dX3_init_53 (z := 13) rfl (fun H h => ?_)
  refine r_dup C.1 (rfv_cat _ _) dX3_init_56 ?_
  refine rr_callN C hG h (K := []) (ci_X4_13 l D b) mi_X4_init in_X4_init rfl kl_3_32 (by decide) rfl rfl (lvh_sz hl) (by decide) (Nat.le_of_ble_eq_true rfl) (by decide) dX3_init_57 (fun H locs h => ?_)
  refine rr_putF C h ok3 kk_6 (by decide) 14 (by decide) kf_3_33 (by decide) rfl (z := 13) rfl (nar_ref _ _) (fit_ref _ _) dX3_init_60 (jz := 14) rfl (fun H locs h => ?_)
  refine r_aload_n C.1 hl (kx := 0) rfl rfl dX3_init_63 ?_
  refine r_iconst C.1 dX3_init_64 ?_
  refine rr_put C h ok3 kk_6 (by decide) 0 (by decide) kf_3_37 (by decide) (z := 1) rfl rfl rfl dX3_init_65 (jz := 0) rfl (fun H locs h => ?_)
  exact rr_vret C h dX3_init_68
theorem kl_11_30 : Cond.methodLink RX11 30 yX3_init ∈ gT := gT_in (inT1 (List.mem_of_getElem? (i := 95) rfl)) rfl
def i_X4_26 (ν : Mem) : Mem := (ms (ms (ms (ms (ms ν 26 0 27) 26 2 28) 26 3 29) 26 4 30) 26 5 31)
set_option maxHeartbeats 4000000 in
set_option maxRecDepth 20000 in
theorem ci_X4_26 (l : Launch) (D : Ds) (b : Nat) {ν : Mem} : CtrI l D b yX4_init cX4_init 1 1 5 974 [(2, 26)] 27 ν 32 (i_X4_26 ν) := by
  refine CtrI.of (by decide +kernel) rfl (Nat.le_of_ble_eq_true rfl) ?_
  intro p e s m below meth c C hG h ls hl
  refine r_aload_n C.1 hl (kx := 0) rfl rfl dX4_init_0 ?_
  refine rr_obj C (by decide) kl_4_3 ki_obj kc_obj (lvh_sz hl) (by decide) (Nat.le_of_ble_eq_true rfl) dX4_init_1 ?_
  refine r_aload_n C.1 hl (kx := 0) rfl rfl dX4_init_4 ?_
  refine r_sipush C.1 (by decide) dX4_init_5 ?_
  refine rr_newa C h (g := 0) (N := 900) (ty := .int) rfl (by decide) rfl (by decide) (by decide) (kk_27).2 ka_int (by decide) (by decide) dX4_init_8 (z := 27) rfl (fun H h => ?_)
  refine rr_putF C h ok4 kk_26 (by decide) 0 (by decide) kf_4_9 (by decide) rfl (z := 27) rfl (nar_arr _ _) (fit_arr _ _) dX4_init_10 (jz := 0) rfl (fun H locs h => ?_)
  refine r_aload_n C.1 hl (kx := 0) rfl rfl dX4_init_13 ?_
  refine r_iconst C.1 dX4_init_14 ?_
  refine rr_newa C h (g := 0) (N := 2) (ty := .int) rfl (by decide) rfl (by decide) (by decide) (kk_28).2 ka_int (by decide) (by decide) dX4_init_15 (z := 28) rfl (fun H h => ?_)
  refine rr_putF C h ok4 kk_26 (by decide) 2 (by decide) kf_4_15 (by decide) rfl (z := 28) rfl (nar_arr _ _) (fit_arr _ _) dX4_init_17 (jz := 2) rfl (fun H locs h => ?_)
  refine r_aload_n C.1 hl (kx := 0) rfl rfl dX4_init_20 ?_
  refine r_iconst C.1 dX4_init_21 ?_
  refine rr_newa C h (g := 0) (N := 2) (ty := .int) rfl (by decide) rfl (by decide) (by decide) (kk_29).2 ka_int (by decide) (by decide) dX4_init_22 (z := 29) rfl (fun H h => ?_)
  refine rr_putF C h ok4 kk_26 (by decide) 3 (by decide) kf_4_18 (by decide) rfl (z := 29) rfl (nar_arr _ _) (fit_arr _ _) dX4_init_24 (jz := 3) rfl (fun H locs h => ?_)
  refine r_aload_n C.1 hl (kx := 0) rfl rfl dX4_init_27 ?_
  refine r_bipush C.1 (by decide) dX4_init_28 ?_
  refine rr_newa C h (g := 0) (N := 6) (ty := .int) rfl (by decide) rfl (by decide) (by decide) (kk_30).2 ka_int (by decide) (by decide) dX4_init_30 (z := 30) rfl (fun H h => ?_)
  refine rr_putF C h ok4 kk_26 (by decide) 4 (by decide) kf_4_21 (by decide) rfl (z := 30) rfl (nar_arr _ _) (fit_arr _ _) dX4_init_32 (jz := 4) rfl (fun H locs h => ?_)
  refine r_aload_n C.1 hl (kx := 0) rfl rfl dX4_init_35 ?_
  refine r_bipush C.1 (by decide) dX4_init_36 ?_
  refine rr_newa C h (g := 0) (N := 64) (ty := .int) rfl (by decide) rfl (by decide) (by decide) (kk_31).2 ka_int (by decide) (by decide) dX4_init_38 (z := 31) rfl (fun H h => ?_)
  refine rr_putF C h ok4 kk_26 (by decide) 5 (by decide) kf_4_24 (by decide) rfl (z := 31) rfl (nar_arr _ _) (fit_arr _ _) dX4_init_40 (jz := 5) rfl (fun H locs h => ?_)
  exact rr_vret C h dX4_init_43
def i_X3_19 (ν : Mem) : Mem := (ms (ms (i_X4_26 (ms (ms (ms (ms (ms (ms ν 19 8 20) 19 9 21) 19 10 22) 19 11 23) 19 12 24) 19 13 25)) 19 14 26) 19 0 1)
set_option maxHeartbeats 4000000 in
set_option maxRecDepth 20000 in
theorem ci_X3_19 (l : Launch) (D : Ds) (b : Nat) {ν : Mem} : CtrI l D b yX3_init cX3_init 1 2 12 1034 [(2, 19)] 20 ν 32 (i_X3_19 ν) := by
  refine CtrI.of (by decide +kernel) rfl (Nat.le_of_ble_eq_true rfl) ?_
  intro p e s m below meth c C hG h ls hl
  refine r_aload_n C.1 hl (kx := 0) rfl rfl dX3_init_0 ?_
  refine rr_obj C (by decide) kl_3_3 ki_obj kc_obj (lvh_sz hl) (by decide) (Nat.le_of_ble_eq_true rfl) dX3_init_1 ?_
  refine r_aload_n C.1 hl (kx := 0) rfl rfl dX3_init_4 ?_
  refine r_bipush C.1 (by decide) dX3_init_5 ?_
  refine rr_newa C h (g := 0) (N := 9) (ty := .int) rfl (by decide) rfl (by decide) (by decide) (kk_20).2 ka_int (by decide) (by decide) dX3_init_7 (z := 20) rfl (fun H h => ?_)
  refine rr_putF C h ok3 kk_19 (by decide) 8 (by decide) kf_3_9 (by decide) rfl (z := 20) rfl (nar_arr _ _) (fit_arr _ _) dX3_init_9 (jz := 8) rfl (fun H locs h => ?_)
  refine r_aload_n C.1 hl (kx := 0) rfl rfl dX3_init_12 ?_
  refine r_bipush C.1 (by decide) dX3_init_13 ?_
  refine rr_newa C h (g := 0) (N := 9) (ty := .int) rfl (by decide) rfl (by decide) (by decide) (kk_21).2 ka_int (by decide) (by decide) dX3_init_15 (z := 21) rfl (fun H h => ?_)
  refine rr_putF C h ok3 kk_19 (by decide) 9 (by decide) kf_3_15 (by decide) rfl (z := 21) rfl (nar_arr _ _) (fit_arr _ _) dX3_init_17 (jz := 9) rfl (fun H locs h => ?_)
  refine r_aload_n C.1 hl (kx := 0) rfl rfl dX3_init_20 ?_
  refine r_bipush C.1 (by decide) dX3_init_21 ?_
  refine rr_newa C h (g := 0) (N := 9) (ty := .int) rfl (by decide) rfl (by decide) (by decide) (kk_22).2 ka_int (by decide) (by decide) dX3_init_23 (z := 22) rfl (fun H h => ?_)
  refine rr_putF C h ok3 kk_19 (by decide) 10 (by decide) kf_3_18 (by decide) rfl (z := 22) rfl (nar_arr _ _) (fit_arr _ _) dX3_init_25 (jz := 10) rfl (fun H locs h => ?_)
  refine r_aload_n C.1 hl (kx := 0) rfl rfl dX3_init_28 ?_
  refine r_bipush C.1 (by decide) dX3_init_29 ?_
  refine rr_newa C h (g := 0) (N := 9) (ty := .int) rfl (by decide) rfl (by decide) (by decide) (kk_23).2 ka_int (by decide) (by decide) dX3_init_31 (z := 23) rfl (fun H h => ?_)
  refine rr_putF C h ok3 kk_19 (by decide) 11 (by decide) kf_3_21 (by decide) rfl (z := 23) rfl (nar_arr _ _) (fit_arr _ _) dX3_init_33 (jz := 11) rfl (fun H locs h => ?_)
  refine r_aload_n C.1 hl (kx := 0) rfl rfl dX3_init_36 ?_
  refine r_bipush C.1 (by decide) dX3_init_37 ?_
  refine rr_newa C h (g := 0) (N := 9) (ty := .int) rfl (by decide) rfl (by decide) (by decide) (kk_24).2 ka_int (by decide) (by decide) dX3_init_39 (z := 24) rfl (fun H h => ?_)
  refine rr_putF C h ok3 kk_19 (by decide) 12 (by decide) kf_3_24 (by decide) rfl (z := 24) rfl (nar_arr _ _) (fit_arr _ _) dX3_init_41 (jz := 12) rfl (fun H locs h => ?_)
  refine r_aload_n C.1 hl (kx := 0) rfl rfl dX3_init_44 ?_
  refine r_bipush C.1 (by decide) dX3_init_45 ?_
  refine rr_newa C h (g := 0) (N := 8) (ty := .int) rfl (by decide) rfl (by decide) (by decide) (kk_25).2 ka_int (by decide) (by decide) dX3_init_47 (z := 25) rfl (fun H h => ?_)
  refine rr_putF C h ok3 kk_19 (by decide) 13 (by decide) kf_3_27 (by decide) rfl (z := 25) rfl (nar_arr _ _) (fit_arr _ _) dX3_init_49 (jz := 13) rfl (fun H locs h => ?_)
  refine r_aload_n C.1 hl (kx := 0) rfl rfl dX3_init_52 ?_
  refine rr_new C h ok4 (kk_26).2 df_4 kd_3_30 kn_4 ki_RX4 (by decide) (by decide) dX3_init_53 (z := 26) rfl (fun H h => ?_)
  refine r_dup C.1 (rfv_cat _ _) dX3_init_56 ?_
  refine rr_callN C hG h (K := []) (ci_X4_26 l D b) mi_X4_init in_X4_init rfl kl_3_32 (by decide) rfl rfl (lvh_sz hl) (by decide) (Nat.le_of_ble_eq_true rfl) (by decide) dX3_init_57 (fun H locs h => ?_)
  refine rr_putF C h ok3 kk_19 (by decide) 14 (by decide) kf_3_33 (by decide) rfl (z := 26) rfl (nar_ref _ _) (fit_ref _ _) dX3_init_60 (jz := 14) rfl (fun H locs h => ?_)
  refine r_aload_n C.1 hl (kx := 0) rfl rfl dX3_init_63 ?_
  refine r_iconst C.1 dX3_init_64 ?_
  refine rr_put C h ok3 kk_19 (by decide) 0 (by decide) kf_3_37 (by decide) (z := 1) rfl rfl rfl dX3_init_65 (jz := 0) rfl (fun H locs h => ?_)
  exact rr_vret C h dX3_init_68
def i_X4_39 (ν : Mem) : Mem := (ms (ms (ms (ms (ms ν 39 0 40) 39 2 41) 39 3 42) 39 4 43) 39 5 44)
set_option maxHeartbeats 4000000 in
set_option maxRecDepth 20000 in
theorem ci_X4_39 (l : Launch) (D : Ds) (b : Nat) {ν : Mem} : CtrI l D b yX4_init cX4_init 1 1 5 974 [(2, 39)] 40 ν 45 (i_X4_39 ν) := by
  refine CtrI.of (by decide +kernel) rfl (Nat.le_of_ble_eq_true rfl) ?_
  intro p e s m below meth c C hG h ls hl
  refine r_aload_n C.1 hl (kx := 0) rfl rfl dX4_init_0 ?_
  refine rr_obj C (by decide) kl_4_3 ki_obj kc_obj (lvh_sz hl) (by decide) (Nat.le_of_ble_eq_true rfl) dX4_init_1 ?_
  refine r_aload_n C.1 hl (kx := 0) rfl rfl dX4_init_4 ?_
  refine r_sipush C.1 (by decide) dX4_init_5 ?_
  refine rr_newa C h (g := 0) (N := 900) (ty := .int) rfl (by decide) rfl (by decide) (by decide) (kk_40).2 ka_int (by decide) (by decide) dX4_init_8 (z := 40) rfl (fun H h => ?_)
  refine rr_putF C h ok4 kk_39 (by decide) 0 (by decide) kf_4_9 (by decide) rfl (z := 40) rfl (nar_arr _ _) (fit_arr _ _) dX4_init_10 (jz := 0) rfl (fun H locs h => ?_)
  refine r_aload_n C.1 hl (kx := 0) rfl rfl dX4_init_13 ?_
  refine r_iconst C.1 dX4_init_14 ?_
  refine rr_newa C h (g := 0) (N := 2) (ty := .int) rfl (by decide) rfl (by decide) (by decide) (kk_41).2 ka_int (by decide) (by decide) dX4_init_15 (z := 41) rfl (fun H h => ?_)
  refine rr_putF C h ok4 kk_39 (by decide) 2 (by decide) kf_4_15 (by decide) rfl (z := 41) rfl (nar_arr _ _) (fit_arr _ _) dX4_init_17 (jz := 2) rfl (fun H locs h => ?_)
  refine r_aload_n C.1 hl (kx := 0) rfl rfl dX4_init_20 ?_
  refine r_iconst C.1 dX4_init_21 ?_
  refine rr_newa C h (g := 0) (N := 2) (ty := .int) rfl (by decide) rfl (by decide) (by decide) (kk_42).2 ka_int (by decide) (by decide) dX4_init_22 (z := 42) rfl (fun H h => ?_)
  refine rr_putF C h ok4 kk_39 (by decide) 3 (by decide) kf_4_18 (by decide) rfl (z := 42) rfl (nar_arr _ _) (fit_arr _ _) dX4_init_24 (jz := 3) rfl (fun H locs h => ?_)
  refine r_aload_n C.1 hl (kx := 0) rfl rfl dX4_init_27 ?_
  refine r_bipush C.1 (by decide) dX4_init_28 ?_
  refine rr_newa C h (g := 0) (N := 6) (ty := .int) rfl (by decide) rfl (by decide) (by decide) (kk_43).2 ka_int (by decide) (by decide) dX4_init_30 (z := 43) rfl (fun H h => ?_)
  refine rr_putF C h ok4 kk_39 (by decide) 4 (by decide) kf_4_21 (by decide) rfl (z := 43) rfl (nar_arr _ _) (fit_arr _ _) dX4_init_32 (jz := 4) rfl (fun H locs h => ?_)
  refine r_aload_n C.1 hl (kx := 0) rfl rfl dX4_init_35 ?_
  refine r_bipush C.1 (by decide) dX4_init_36 ?_
  refine rr_newa C h (g := 0) (N := 64) (ty := .int) rfl (by decide) rfl (by decide) (by decide) (kk_44).2 ka_int (by decide) (by decide) dX4_init_38 (z := 44) rfl (fun H h => ?_)
  refine rr_putF C h ok4 kk_39 (by decide) 5 (by decide) kf_4_24 (by decide) rfl (z := 44) rfl (nar_arr _ _) (fit_arr _ _) dX4_init_40 (jz := 5) rfl (fun H locs h => ?_)
  exact rr_vret C h dX4_init_43
def i_X3_32 (ν : Mem) : Mem := (ms (ms (i_X4_39 (ms (ms (ms (ms (ms (ms ν 32 8 33) 32 9 34) 32 10 35) 32 11 36) 32 12 37) 32 13 38)) 32 14 39) 32 0 1)
set_option maxHeartbeats 4000000 in
set_option maxRecDepth 20000 in
theorem ci_X3_32 (l : Launch) (D : Ds) (b : Nat) {ν : Mem} : CtrI l D b yX3_init cX3_init 1 2 12 1034 [(2, 32)] 33 ν 45 (i_X3_32 ν) := by
  refine CtrI.of (by decide +kernel) rfl (Nat.le_of_ble_eq_true rfl) ?_
  intro p e s m below meth c C hG h ls hl
  refine r_aload_n C.1 hl (kx := 0) rfl rfl dX3_init_0 ?_
  refine rr_obj C (by decide) kl_3_3 ki_obj kc_obj (lvh_sz hl) (by decide) (Nat.le_of_ble_eq_true rfl) dX3_init_1 ?_
  refine r_aload_n C.1 hl (kx := 0) rfl rfl dX3_init_4 ?_
  refine r_bipush C.1 (by decide) dX3_init_5 ?_
  refine rr_newa C h (g := 0) (N := 9) (ty := .int) rfl (by decide) rfl (by decide) (by decide) (kk_33).2 ka_int (by decide) (by decide) dX3_init_7 (z := 33) rfl (fun H h => ?_)
  refine rr_putF C h ok3 kk_32 (by decide) 8 (by decide) kf_3_9 (by decide) rfl (z := 33) rfl (nar_arr _ _) (fit_arr _ _) dX3_init_9 (jz := 8) rfl (fun H locs h => ?_)
  refine r_aload_n C.1 hl (kx := 0) rfl rfl dX3_init_12 ?_
  refine r_bipush C.1 (by decide) dX3_init_13 ?_
  refine rr_newa C h (g := 0) (N := 9) (ty := .int) rfl (by decide) rfl (by decide) (by decide) (kk_34).2 ka_int (by decide) (by decide) dX3_init_15 (z := 34) rfl (fun H h => ?_)
  refine rr_putF C h ok3 kk_32 (by decide) 9 (by decide) kf_3_15 (by decide) rfl (z := 34) rfl (nar_arr _ _) (fit_arr _ _) dX3_init_17 (jz := 9) rfl (fun H locs h => ?_)
  refine r_aload_n C.1 hl (kx := 0) rfl rfl dX3_init_20 ?_
  refine r_bipush C.1 (by decide) dX3_init_21 ?_
  refine rr_newa C h (g := 0) (N := 9) (ty := .int) rfl (by decide) rfl (by decide) (by decide) (kk_35).2 ka_int (by decide) (by decide) dX3_init_23 (z := 35) rfl (fun H h => ?_)
  refine rr_putF C h ok3 kk_32 (by decide) 10 (by decide) kf_3_18 (by decide) rfl (z := 35) rfl (nar_arr _ _) (fit_arr _ _) dX3_init_25 (jz := 10) rfl (fun H locs h => ?_)
  refine r_aload_n C.1 hl (kx := 0) rfl rfl dX3_init_28 ?_
  refine r_bipush C.1 (by decide) dX3_init_29 ?_
  refine rr_newa C h (g := 0) (N := 9) (ty := .int) rfl (by decide) rfl (by decide) (by decide) (kk_36).2 ka_int (by decide) (by decide) dX3_init_31 (z := 36) rfl (fun H h => ?_)
  refine rr_putF C h ok3 kk_32 (by decide) 11 (by decide) kf_3_21 (by decide) rfl (z := 36) rfl (nar_arr _ _) (fit_arr _ _) dX3_init_33 (jz := 11) rfl (fun H locs h => ?_)
  refine r_aload_n C.1 hl (kx := 0) rfl rfl dX3_init_36 ?_
  refine r_bipush C.1 (by decide) dX3_init_37 ?_
  refine rr_newa C h (g := 0) (N := 9) (ty := .int) rfl (by decide) rfl (by decide) (by decide) (kk_37).2 ka_int (by decide) (by decide) dX3_init_39 (z := 37) rfl (fun H h => ?_)
  refine rr_putF C h ok3 kk_32 (by decide) 12 (by decide) kf_3_24 (by decide) rfl (z := 37) rfl (nar_arr _ _) (fit_arr _ _) dX3_init_41 (jz := 12) rfl (fun H locs h => ?_)
  refine r_aload_n C.1 hl (kx := 0) rfl rfl dX3_init_44 ?_
  refine r_bipush C.1 (by decide) dX3_init_45 ?_
  refine rr_newa C h (g := 0) (N := 8) (ty := .int) rfl (by decide) rfl (by decide) (by decide) (kk_38).2 ka_int (by decide) (by decide) dX3_init_47 (z := 38) rfl (fun H h => ?_)
  refine rr_putF C h ok3 kk_32 (by decide) 13 (by decide) kf_3_27 (by decide) rfl (z := 38) rfl (nar_arr _ _) (fit_arr _ _) dX3_init_49 (jz := 13) rfl (fun H locs h => ?_)
  refine r_aload_n C.1 hl (kx := 0) rfl rfl dX3_init_52 ?_
  refine rr_new C h ok4 (kk_39).2 df_4 kd_3_30 kn_4 ki_RX4 (by decide) (by decide) dX3_init_53 (z := 39) rfl (fun H h => ?_)
  refine r_dup C.1 (rfv_cat _ _) dX3_init_56 ?_
  refine rr_callN C hG h (K := []) (ci_X4_39 l D b) mi_X4_init in_X4_init rfl kl_3_32 (by decide) rfl rfl (lvh_sz hl) (by decide) (Nat.le_of_ble_eq_true rfl) (by decide) dX3_init_57 (fun H locs h => ?_)
  refine rr_putF C h ok3 kk_32 (by decide) 14 (by decide) kf_3_33 (by decide) rfl (z := 39) rfl (nar_ref _ _) (fit_ref _ _) dX3_init_60 (jz := 14) rfl (fun H locs h => ?_)
  refine r_aload_n C.1 hl (kx := 0) rfl rfl dX3_init_63 ?_
  refine r_iconst C.1 dX3_init_64 ?_
  refine rr_put C h ok3 kk_32 (by decide) 0 (by decide) kf_3_37 (by decide) (z := 1) rfl rfl rfl dX3_init_65 (jz := 0) rfl (fun H locs h => ?_)
  exact rr_vret C h dX3_init_68
def i_X4_52 (ν : Mem) : Mem := (ms (ms (ms (ms (ms ν 52 0 53) 52 2 54) 52 3 55) 52 4 56) 52 5 57)
set_option maxHeartbeats 4000000 in
set_option maxRecDepth 20000 in
theorem ci_X4_52 (l : Launch) (D : Ds) (b : Nat) {ν : Mem} : CtrI l D b yX4_init cX4_init 1 1 5 974 [(2, 52)] 53 ν 58 (i_X4_52 ν) := by
  refine CtrI.of (by decide +kernel) rfl (Nat.le_of_ble_eq_true rfl) ?_
  intro p e s m below meth c C hG h ls hl
  refine r_aload_n C.1 hl (kx := 0) rfl rfl dX4_init_0 ?_
  refine rr_obj C (by decide) kl_4_3 ki_obj kc_obj (lvh_sz hl) (by decide) (Nat.le_of_ble_eq_true rfl) dX4_init_1 ?_
  refine r_aload_n C.1 hl (kx := 0) rfl rfl dX4_init_4 ?_
  refine r_sipush C.1 (by decide) dX4_init_5 ?_
  refine rr_newa C h (g := 0) (N := 900) (ty := .int) rfl (by decide) rfl (by decide) (by decide) (kk_53).2 ka_int (by decide) (by decide) dX4_init_8 (z := 53) rfl (fun H h => ?_)
  refine rr_putF C h ok4 kk_52 (by decide) 0 (by decide) kf_4_9 (by decide) rfl (z := 53) rfl (nar_arr _ _) (fit_arr _ _) dX4_init_10 (jz := 0) rfl (fun H locs h => ?_)
  refine r_aload_n C.1 hl (kx := 0) rfl rfl dX4_init_13 ?_
  refine r_iconst C.1 dX4_init_14 ?_
  refine rr_newa C h (g := 0) (N := 2) (ty := .int) rfl (by decide) rfl (by decide) (by decide) (kk_54).2 ka_int (by decide) (by decide) dX4_init_15 (z := 54) rfl (fun H h => ?_)
  refine rr_putF C h ok4 kk_52 (by decide) 2 (by decide) kf_4_15 (by decide) rfl (z := 54) rfl (nar_arr _ _) (fit_arr _ _) dX4_init_17 (jz := 2) rfl (fun H locs h => ?_)
  refine r_aload_n C.1 hl (kx := 0) rfl rfl dX4_init_20 ?_
  refine r_iconst C.1 dX4_init_21 ?_
  refine rr_newa C h (g := 0) (N := 2) (ty := .int) rfl (by decide) rfl (by decide) (by decide) (kk_55).2 ka_int (by decide) (by decide) dX4_init_22 (z := 55) rfl (fun H h => ?_)
  refine rr_putF C h ok4 kk_52 (by decide) 3 (by decide) kf_4_18 (by decide) rfl (z := 55) rfl (nar_arr _ _) (fit_arr _ _) dX4_init_24 (jz := 3) rfl (fun H locs h => ?_)
  refine r_aload_n C.1 hl (kx := 0) rfl rfl dX4_init_27 ?_
  refine r_bipush C.1 (by decide) dX4_init_28 ?_
  refine rr_newa C h (g := 0) (N := 6) (ty := .int) rfl (by decide) rfl (by decide) (by decide) (kk_56).2 ka_int (by decide) (by decide) dX4_init_30 (z := 56) rfl (fun H h => ?_)
  refine rr_putF C h ok4 kk_52 (by decide) 4 (by decide) kf_4_21 (by decide) rfl (z := 56) rfl (nar_arr _ _) (fit_arr _ _) dX4_init_32 (jz := 4) rfl (fun H locs h => ?_)
  refine r_aload_n C.1 hl (kx := 0) rfl rfl dX4_init_35 ?_
  refine r_bipush C.1 (by decide) dX4_init_36 ?_
  refine rr_newa C h (g := 0) (N := 64) (ty := .int) rfl (by decide) rfl (by decide) (by decide) (kk_57).2 ka_int (by decide) (by decide) dX4_init_38 (z := 57) rfl (fun H h => ?_)
  refine rr_putF C h ok4 kk_52 (by decide) 5 (by decide) kf_4_24 (by decide) rfl (z := 57) rfl (nar_arr _ _) (fit_arr _ _) dX4_init_40 (jz := 5) rfl (fun H locs h => ?_)
  exact rr_vret C h dX4_init_43
def i_X3_45 (ν : Mem) : Mem := (ms (ms (i_X4_52 (ms (ms (ms (ms (ms (ms ν 45 8 46) 45 9 47) 45 10 48) 45 11 49) 45 12 50) 45 13 51)) 45 14 52) 45 0 1)
set_option maxHeartbeats 4000000 in
set_option maxRecDepth 20000 in
theorem ci_X3_45 (l : Launch) (D : Ds) (b : Nat) {ν : Mem} : CtrI l D b yX3_init cX3_init 1 2 12 1034 [(2, 45)] 46 ν 58 (i_X3_45 ν) := by
  refine CtrI.of (by decide +kernel) rfl (Nat.le_of_ble_eq_true rfl) ?_
  intro p e s m below meth c C hG h ls hl
  refine r_aload_n C.1 hl (kx := 0) rfl rfl dX3_init_0 ?_
  refine rr_obj C (by decide) kl_3_3 ki_obj kc_obj (lvh_sz hl) (by decide) (Nat.le_of_ble_eq_true rfl) dX3_init_1 ?_
  refine r_aload_n C.1 hl (kx := 0) rfl rfl dX3_init_4 ?_
  refine r_bipush C.1 (by decide) dX3_init_5 ?_
  refine rr_newa C h (g := 0) (N := 9) (ty := .int) rfl (by decide) rfl (by decide) (by decide) (kk_46).2 ka_int (by decide) (by decide) dX3_init_7 (z := 46) rfl (fun H h => ?_)
  refine rr_putF C h ok3 kk_45 (by decide) 8 (by decide) kf_3_9 (by decide) rfl (z := 46) rfl (nar_arr _ _) (fit_arr _ _) dX3_init_9 (jz := 8) rfl (fun H locs h => ?_)
  refine r_aload_n C.1 hl (kx := 0) rfl rfl dX3_init_12 ?_
  refine r_bipush C.1 (by decide) dX3_init_13 ?_
  refine rr_newa C h (g := 0) (N := 9) (ty := .int) rfl (by decide) rfl (by decide) (by decide) (kk_47).2 ka_int (by decide) (by decide) dX3_init_15 (z := 47) rfl (fun H h => ?_)
  refine rr_putF C h ok3 kk_45 (by decide) 9 (by decide) kf_3_15 (by decide) rfl (z := 47) rfl (nar_arr _ _) (fit_arr _ _) dX3_init_17 (jz := 9) rfl (fun H locs h => ?_)
  refine r_aload_n C.1 hl (kx := 0) rfl rfl dX3_init_20 ?_
  refine r_bipush C.1 (by decide) dX3_init_21 ?_
  refine rr_newa C h (g := 0) (N := 9) (ty := .int) rfl (by decide) rfl (by decide) (by decide) (kk_48).2 ka_int (by decide) (by decide) dX3_init_23 (z := 48) rfl (fun H h => ?_)
  refine rr_putF C h ok3 kk_45 (by decide) 10 (by decide) kf_3_18 (by decide) rfl (z := 48) rfl (nar_arr _ _) (fit_arr _ _) dX3_init_25 (jz := 10) rfl (fun H locs h => ?_)
  refine r_aload_n C.1 hl (kx := 0) rfl rfl dX3_init_28 ?_
  refine r_bipush C.1 (by decide) dX3_init_29 ?_
  refine rr_newa C h (g := 0) (N := 9) (ty := .int) rfl (by decide) rfl (by decide) (by decide) (kk_49).2 ka_int (by decide) (by decide) dX3_init_31 (z := 49) rfl (fun H h => ?_)
  refine rr_putF C h ok3 kk_45 (by decide) 11 (by decide) kf_3_21 (by decide) rfl (z := 49) rfl (nar_arr _ _) (fit_arr _ _) dX3_init_33 (jz := 11) rfl (fun H locs h => ?_)
  refine r_aload_n C.1 hl (kx := 0) rfl rfl dX3_init_36 ?_
  refine r_bipush C.1 (by decide) dX3_init_37 ?_
  refine rr_newa C h (g := 0) (N := 9) (ty := .int) rfl (by decide) rfl (by decide) (by decide) (kk_50).2 ka_int (by decide) (by decide) dX3_init_39 (z := 50) rfl (fun H h => ?_)
  refine rr_putF C h ok3 kk_45 (by decide) 12 (by decide) kf_3_24 (by decide) rfl (z := 50) rfl (nar_arr _ _) (fit_arr _ _) dX3_init_41 (jz := 12) rfl (fun H locs h => ?_)
  refine r_aload_n C.1 hl (kx := 0) rfl rfl dX3_init_44 ?_
  refine r_bipush C.1 (by decide) dX3_init_45 ?_
  refine rr_newa C h (g := 0) (N := 8) (ty := .int) rfl (by decide) rfl (by decide) (by decide) (kk_51).2 ka_int (by decide) (by decide) dX3_init_47 (z := 51) rfl (fun H h => ?_)
  refine rr_putF C h ok3 kk_45 (by decide) 13 (by decide) kf_3_27 (by decide) rfl (z := 51) rfl (nar_arr _ _) (fit_arr _ _) dX3_init_49 (jz := 13) rfl (fun H locs h => ?_)
  refine r_aload_n C.1 hl (kx := 0) rfl rfl dX3_init_52 ?_
  refine rr_new C h ok4 (kk_52).2 df_4 kd_3_30 kn_4 ki_RX4 (by decide) (by decide) dX3_init_53 (z := 52) rfl (fun H h => ?_)
  refine r_dup C.1 (rfv_cat _ _) dX3_init_56 ?_
  refine rr_callN C hG h (K := []) (ci_X4_52 l D b) mi_X4_init in_X4_init rfl kl_3_32 (by decide) rfl rfl (lvh_sz hl) (by decide) (Nat.le_of_ble_eq_true rfl) (by decide) dX3_init_57 (fun H locs h => ?_)
  refine rr_putF C h ok3 kk_45 (by decide) 14 (by decide) kf_3_33 (by decide) rfl (z := 52) rfl (nar_ref _ _) (fit_ref _ _) dX3_init_60 (jz := 14) rfl (fun H locs h => ?_)
  refine r_aload_n C.1 hl (kx := 0) rfl rfl dX3_init_63 ?_
  refine r_iconst C.1 dX3_init_64 ?_
  refine rr_put C h ok3 kk_45 (by decide) 0 (by decide) kf_3_37 (by decide) (z := 1) rfl rfl rfl dX3_init_65 (jz := 0) rfl (fun H locs h => ?_)
  exact rr_vret C h dX3_init_68
theorem kd_11_31 : Cond.classLink RX11 31 RX0 ∈ gT := gT_in (inT1 (List.mem_of_getElem? (i := 215) rfl)) rfl
theorem kl_0_3 : Cond.methodLink RX0 3 objectInit ∈ gT := gT_in (inT1 (List.mem_of_getElem? (i := 220) rfl)) rfl
def i_X0_58 (ν : Mem) : Mem := (ms (ms ν 58 5 59) 58 0 6)
set_option maxHeartbeats 4000000 in
set_option maxRecDepth 20000 in
theorem ci_X0_58 (l : Launch) (D : Ds) (b : Nat) {ν : Mem} : CtrI l D b yX0_init cX0_init 2 1 1 9 [(2, 58), (2, 6)] 59 ν 60 (i_X0_58 ν) := by
  refine CtrI.of (by decide +kernel) rfl (Nat.le_of_ble_eq_true rfl) ?_
  intro p e s m below meth c C hG h ls hl
  refine r_aload_n C.1 hl (kx := 0) rfl rfl dX0_init_0 ?_
  refine rr_obj C (by decide) kl_0_3 ki_obj kc_obj (lvh_sz hl) (by decide) (Nat.le_of_ble_eq_true rfl) dX0_init_1 ?_
  refine r_aload_n C.1 hl (kx := 0) rfl rfl dX0_init_4 ?_
  refine r_bipush C.1 (by decide) dX0_init_5 ?_
  refine rr_newa C h (g := 0) (N := 9) (ty := .int) rfl (by decide) rfl (by decide) (by decide) (kk_59).2 ka_int (by decide) (by decide) dX0_init_7 (z := 59) rfl (fun H h => ?_)
  refine rr_putF C h ok0 kk_58 (by decide) 5 (by decide) kf_0_9 (by decide) rfl (z := 59) rfl (nar_arr _ _) (fit_arr _ _) dX0_init_9 (jz := 5) rfl (fun H locs h => ?_)
  refine r_aload_n C.1 hl (kx := 0) rfl rfl dX0_init_12 ?_
  refine r_aload_n C.1 hl (kx := 1) rfl rfl dX0_init_13 ?_
  refine rr_put C h ok0 kk_58 (by decide) 0 (by decide) kf_0_15 (by decide) (z := 6) rfl (nar_ref _ _) (fit_ref _ _) dX0_init_14 (jz := 0) rfl (fun H locs h => ?_)
  exact rr_vret C h dX0_init_17
theorem kl_11_33 : Cond.methodLink RX11 33 yX0_init ∈ gT := gT_in (inT1 (List.mem_of_getElem? (i := 217) rfl)) rfl
def i_X0_60 (ν : Mem) : Mem := (ms (ms ν 60 5 61) 60 0 6)
set_option maxHeartbeats 4000000 in
set_option maxRecDepth 20000 in
theorem ci_X0_60 (l : Launch) (D : Ds) (b : Nat) {ν : Mem} : CtrI l D b yX0_init cX0_init 2 1 1 9 [(2, 60), (2, 6)] 61 ν 62 (i_X0_60 ν) := by
  refine CtrI.of (by decide +kernel) rfl (Nat.le_of_ble_eq_true rfl) ?_
  intro p e s m below meth c C hG h ls hl
  refine r_aload_n C.1 hl (kx := 0) rfl rfl dX0_init_0 ?_
  refine rr_obj C (by decide) kl_0_3 ki_obj kc_obj (lvh_sz hl) (by decide) (Nat.le_of_ble_eq_true rfl) dX0_init_1 ?_
  refine r_aload_n C.1 hl (kx := 0) rfl rfl dX0_init_4 ?_
  refine r_bipush C.1 (by decide) dX0_init_5 ?_
  refine rr_newa C h (g := 0) (N := 9) (ty := .int) rfl (by decide) rfl (by decide) (by decide) (kk_61).2 ka_int (by decide) (by decide) dX0_init_7 (z := 61) rfl (fun H h => ?_)
  refine rr_putF C h ok0 kk_60 (by decide) 5 (by decide) kf_0_9 (by decide) rfl (z := 61) rfl (nar_arr _ _) (fit_arr _ _) dX0_init_9 (jz := 5) rfl (fun H locs h => ?_)
  refine r_aload_n C.1 hl (kx := 0) rfl rfl dX0_init_12 ?_
  refine r_aload_n C.1 hl (kx := 1) rfl rfl dX0_init_13 ?_
  refine rr_put C h ok0 kk_60 (by decide) 0 (by decide) kf_0_15 (by decide) (z := 6) rfl (nar_ref _ _) (fit_ref _ _) dX0_init_14 (jz := 0) rfl (fun H locs h => ?_)
  exact rr_vret C h dX0_init_17
theorem kd_11_43 : Cond.classLink RX11 43 RX2 ∈ gT := gT_in (inT2 (List.mem_of_getElem? (i := 16) rfl)) rfl
theorem kl_2_3 : Cond.methodLink RX2 3 objectInit ∈ gT := gT_in (inT2 (List.mem_of_getElem? (i := 21) rfl)) rfl
theorem kd_2_9 : Cond.classLink RX2 9 RX0 ∈ gT := gT_in (inT2 (List.mem_of_getElem? (i := 22) rfl)) rfl
def i_X0_64 (ν : Mem) : Mem := (ms (ms ν 64 5 65) 64 0 6)
set_option maxHeartbeats 4000000 in
set_option maxRecDepth 20000 in
theorem ci_X0_64 (l : Launch) (D : Ds) (b : Nat) {ν : Mem} : CtrI l D b yX0_init cX0_init 2 1 1 9 [(2, 64), (2, 6)] 65 ν 66 (i_X0_64 ν) := by
  refine CtrI.of (by decide +kernel) rfl (Nat.le_of_ble_eq_true rfl) ?_
  intro p e s m below meth c C hG h ls hl
  refine r_aload_n C.1 hl (kx := 0) rfl rfl dX0_init_0 ?_
  refine rr_obj C (by decide) kl_0_3 ki_obj kc_obj (lvh_sz hl) (by decide) (Nat.le_of_ble_eq_true rfl) dX0_init_1 ?_
  refine r_aload_n C.1 hl (kx := 0) rfl rfl dX0_init_4 ?_
  refine r_bipush C.1 (by decide) dX0_init_5 ?_
  refine rr_newa C h (g := 0) (N := 9) (ty := .int) rfl (by decide) rfl (by decide) (by decide) (kk_65).2 ka_int (by decide) (by decide) dX0_init_7 (z := 65) rfl (fun H h => ?_)
  refine rr_putF C h ok0 kk_64 (by decide) 5 (by decide) kf_0_9 (by decide) rfl (z := 65) rfl (nar_arr _ _) (fit_arr _ _) dX0_init_9 (jz := 5) rfl (fun H locs h => ?_)
  refine r_aload_n C.1 hl (kx := 0) rfl rfl dX0_init_12 ?_
  refine r_aload_n C.1 hl (kx := 1) rfl rfl dX0_init_13 ?_
  refine rr_put C h ok0 kk_64 (by decide) 0 (by decide) kf_0_15 (by decide) (z := 6) rfl (nar_ref _ _) (fit_ref _ _) dX0_init_14 (jz := 0) rfl (fun H locs h => ?_)
  exact rr_vret C h dX0_init_17
theorem kl_2_17 : Cond.methodLink RX2 17 yX0_init ∈ gT := gT_in (inT2 (List.mem_of_getElem? (i := 24) rfl)) rfl
def i_X0_66 (ν : Mem) : Mem := (ms (ms ν 66 5 67) 66 0 6)
set_option maxHeartbeats 4000000 in
set_option maxRecDepth 20000 in
theorem ci_X0_66 (l : Launch) (D : Ds) (b : Nat) {ν : Mem} : CtrI l D b yX0_init cX0_init 2 1 1 9 [(2, 66), (2, 6)] 67 ν 68 (i_X0_66 ν) := by
  refine CtrI.of (by decide +kernel) rfl (Nat.le_of_ble_eq_true rfl) ?_
  intro p e s m below meth c C hG h ls hl
  refine r_aload_n C.1 hl (kx := 0) rfl rfl dX0_init_0 ?_
  refine rr_obj C (by decide) kl_0_3 ki_obj kc_obj (lvh_sz hl) (by decide) (Nat.le_of_ble_eq_true rfl) dX0_init_1 ?_
  refine r_aload_n C.1 hl (kx := 0) rfl rfl dX0_init_4 ?_
  refine r_bipush C.1 (by decide) dX0_init_5 ?_
  refine rr_newa C h (g := 0) (N := 9) (ty := .int) rfl (by decide) rfl (by decide) (by decide) (kk_67).2 ka_int (by decide) (by decide) dX0_init_7 (z := 67) rfl (fun H h => ?_)
  refine rr_putF C h ok0 kk_66 (by decide) 5 (by decide) kf_0_9 (by decide) rfl (z := 67) rfl (nar_arr _ _) (fit_arr _ _) dX0_init_9 (jz := 5) rfl (fun H locs h => ?_)
  refine r_aload_n C.1 hl (kx := 0) rfl rfl dX0_init_12 ?_
  refine r_aload_n C.1 hl (kx := 1) rfl rfl dX0_init_13 ?_
  refine rr_put C h ok0 kk_66 (by decide) 0 (by decide) kf_0_15 (by decide) (z := 6) rfl (nar_ref _ _) (fit_ref _ _) dX0_init_14 (jz := 0) rfl (fun H locs h => ?_)
  exact rr_vret C h dX0_init_17
def i_X0_68 (ν : Mem) : Mem := (ms (ms ν 68 5 69) 68 0 6)
set_option maxHeartbeats 4000000 in
set_option maxRecDepth 20000 in
theorem ci_X0_68 (l : Launch) (D : Ds) (b : Nat) {ν : Mem} : CtrI l D b yX0_init cX0_init 2 1 1 9 [(2, 68), (2, 6)] 69 ν 70 (i_X0_68 ν) := by
  refine CtrI.of (by decide +kernel) rfl (Nat.le_of_ble_eq_true rfl) ?_
  intro p e s m below meth c C hG h ls hl
  refine r_aload_n C.1 hl (kx := 0) rfl rfl dX0_init_0 ?_
  refine rr_obj C (by decide) kl_0_3 ki_obj kc_obj (lvh_sz hl) (by decide) (Nat.le_of_ble_eq_true rfl) dX0_init_1 ?_
  refine r_aload_n C.1 hl (kx := 0) rfl rfl dX0_init_4 ?_
  refine r_bipush C.1 (by decide) dX0_init_5 ?_
  refine rr_newa C h (g := 0) (N := 9) (ty := .int) rfl (by decide) rfl (by decide) (by decide) (kk_69).2 ka_int (by decide) (by decide) dX0_init_7 (z := 69) rfl (fun H h => ?_)
  refine rr_putF C h ok0 kk_68 (by decide) 5 (by decide) kf_0_9 (by decide) rfl (z := 69) rfl (nar_arr _ _) (fit_arr _ _) dX0_init_9 (jz := 5) rfl (fun H locs h => ?_)
  refine r_aload_n C.1 hl (kx := 0) rfl rfl dX0_init_12 ?_
  refine r_aload_n C.1 hl (kx := 1) rfl rfl dX0_init_13 ?_
  refine rr_put C h ok0 kk_68 (by decide) 0 (by decide) kf_0_15 (by decide) (z := 6) rfl (nar_ref _ _) (fit_ref _ _) dX0_init_14 (jz := 0) rfl (fun H locs h => ?_)
  exact rr_vret C h dX0_init_17
def i_X0_70 (ν : Mem) : Mem := (ms (ms ν 70 5 71) 70 0 6)
set_option maxHeartbeats 4000000 in
set_option maxRecDepth 20000 in
theorem ci_X0_70 (l : Launch) (D : Ds) (b : Nat) {ν : Mem} : CtrI l D b yX0_init cX0_init 2 1 1 9 [(2, 70), (2, 6)] 71 ν 72 (i_X0_70 ν) := by
  refine CtrI.of (by decide +kernel) rfl (Nat.le_of_ble_eq_true rfl) ?_
  intro p e s m below meth c C hG h ls hl
  refine r_aload_n C.1 hl (kx := 0) rfl rfl dX0_init_0 ?_
  refine rr_obj C (by decide) kl_0_3 ki_obj kc_obj (lvh_sz hl) (by decide) (Nat.le_of_ble_eq_true rfl) dX0_init_1 ?_
  refine r_aload_n C.1 hl (kx := 0) rfl rfl dX0_init_4 ?_
  refine r_bipush C.1 (by decide) dX0_init_5 ?_
  refine rr_newa C h (g := 0) (N := 9) (ty := .int) rfl (by decide) rfl (by decide) (by decide) (kk_71).2 ka_int (by decide) (by decide) dX0_init_7 (z := 71) rfl (fun H h => ?_)
  refine rr_putF C h ok0 kk_70 (by decide) 5 (by decide) kf_0_9 (by decide) rfl (z := 71) rfl (nar_arr _ _) (fit_arr _ _) dX0_init_9 (jz := 5) rfl (fun H locs h => ?_)
  refine r_aload_n C.1 hl (kx := 0) rfl rfl dX0_init_12 ?_
  refine r_aload_n C.1 hl (kx := 1) rfl rfl dX0_init_13 ?_
  refine rr_put C h ok0 kk_70 (by decide) 0 (by decide) kf_0_15 (by decide) (z := 6) rfl (nar_ref _ _) (fit_ref _ _) dX0_init_14 (jz := 0) rfl (fun H locs h => ?_)
  exact rr_vret C h dX0_init_17
def i_X0_72 (ν : Mem) : Mem := (ms (ms ν 72 5 73) 72 0 6)
set_option maxHeartbeats 4000000 in
set_option maxRecDepth 20000 in
theorem ci_X0_72 (l : Launch) (D : Ds) (b : Nat) {ν : Mem} : CtrI l D b yX0_init cX0_init 2 1 1 9 [(2, 72), (2, 6)] 73 ν 74 (i_X0_72 ν) := by
  refine CtrI.of (by decide +kernel) rfl (Nat.le_of_ble_eq_true rfl) ?_
  intro p e s m below meth c C hG h ls hl
  refine r_aload_n C.1 hl (kx := 0) rfl rfl dX0_init_0 ?_
  refine rr_obj C (by decide) kl_0_3 ki_obj kc_obj (lvh_sz hl) (by decide) (Nat.le_of_ble_eq_true rfl) dX0_init_1 ?_
  refine r_aload_n C.1 hl (kx := 0) rfl rfl dX0_init_4 ?_
  refine r_bipush C.1 (by decide) dX0_init_5 ?_
  refine rr_newa C h (g := 0) (N := 9) (ty := .int) rfl (by decide) rfl (by decide) (by decide) (kk_73).2 ka_int (by decide) (by decide) dX0_init_7 (z := 73) rfl (fun H h => ?_)
  refine rr_putF C h ok0 kk_72 (by decide) 5 (by decide) kf_0_9 (by decide) rfl (z := 73) rfl (nar_arr _ _) (fit_arr _ _) dX0_init_9 (jz := 5) rfl (fun H locs h => ?_)
  refine r_aload_n C.1 hl (kx := 0) rfl rfl dX0_init_12 ?_
  refine r_aload_n C.1 hl (kx := 1) rfl rfl dX0_init_13 ?_
  refine rr_put C h ok0 kk_72 (by decide) 0 (by decide) kf_0_15 (by decide) (z := 6) rfl (nar_ref _ _) (fit_ref _ _) dX0_init_14 (jz := 0) rfl (fun H locs h => ?_)
  exact rr_vret C h dX0_init_17
def i_X0_74 (ν : Mem) : Mem := (ms (ms ν 74 5 75) 74 0 6)
set_option maxHeartbeats 4000000 in
set_option maxRecDepth 20000 in
theorem ci_X0_74 (l : Launch) (D : Ds) (b : Nat) {ν : Mem} : CtrI l D b yX0_init cX0_init 2 1 1 9 [(2, 74), (2, 6)] 75 ν 76 (i_X0_74 ν) := by
  refine CtrI.of (by decide +kernel) rfl (Nat.le_of_ble_eq_true rfl) ?_
  intro p e s m below meth c C hG h ls hl
  refine r_aload_n C.1 hl (kx := 0) rfl rfl dX0_init_0 ?_
  refine rr_obj C (by decide) kl_0_3 ki_obj kc_obj (lvh_sz hl) (by decide) (Nat.le_of_ble_eq_true rfl) dX0_init_1 ?_
  refine r_aload_n C.1 hl (kx := 0) rfl rfl dX0_init_4 ?_
  refine r_bipush C.1 (by decide) dX0_init_5 ?_
  refine rr_newa C h (g := 0) (N := 9) (ty := .int) rfl (by decide) rfl (by decide) (by decide) (kk_75).2 ka_int (by decide) (by decide) dX0_init_7 (z := 75) rfl (fun H h => ?_)
  refine rr_putF C h ok0 kk_74 (by decide) 5 (by decide) kf_0_9 (by decide) rfl (z := 75) rfl (nar_arr _ _) (fit_arr _ _) dX0_init_9 (jz := 5) rfl (fun H locs h => ?_)
  refine r_aload_n C.1 hl (kx := 0) rfl rfl dX0_init_12 ?_
  refine r_aload_n C.1 hl (kx := 1) rfl rfl dX0_init_13 ?_
  refine rr_put C h ok0 kk_74 (by decide) 0 (by decide) kf_0_15 (by decide) (z := 6) rfl (nar_ref _ _) (fit_ref _ _) dX0_init_14 (jz := 0) rfl (fun H locs h => ?_)
  exact rr_vret C h dX0_init_17
def i_X0_76 (ν : Mem) : Mem := (ms (ms ν 76 5 77) 76 0 6)
set_option maxHeartbeats 4000000 in
set_option maxRecDepth 20000 in
theorem ci_X0_76 (l : Launch) (D : Ds) (b : Nat) {ν : Mem} : CtrI l D b yX0_init cX0_init 2 1 1 9 [(2, 76), (2, 6)] 77 ν 78 (i_X0_76 ν) := by
  refine CtrI.of (by decide +kernel) rfl (Nat.le_of_ble_eq_true rfl) ?_
  intro p e s m below meth c C hG h ls hl
  refine r_aload_n C.1 hl (kx := 0) rfl rfl dX0_init_0 ?_
  refine rr_obj C (by decide) kl_0_3 ki_obj kc_obj (lvh_sz hl) (by decide) (Nat.le_of_ble_eq_true rfl) dX0_init_1 ?_
  refine r_aload_n C.1 hl (kx := 0) rfl rfl dX0_init_4 ?_
  refine r_bipush C.1 (by decide) dX0_init_5 ?_
  refine rr_newa C h (g := 0) (N := 9) (ty := .int) rfl (by decide) rfl (by decide) (by decide) (kk_77).2 ka_int (by decide) (by decide) dX0_init_7 (z := 77) rfl (fun H h => ?_)
  refine rr_putF C h ok0 kk_76 (by decide) 5 (by decide) kf_0_9 (by decide) rfl (z := 77) rfl (nar_arr _ _) (fit_arr _ _) dX0_init_9 (jz := 5) rfl (fun H locs h => ?_)
  refine r_aload_n C.1 hl (kx := 0) rfl rfl dX0_init_12 ?_
  refine r_aload_n C.1 hl (kx := 1) rfl rfl dX0_init_13 ?_
  refine rr_put C h ok0 kk_76 (by decide) 0 (by decide) kf_0_15 (by decide) (z := 6) rfl (nar_ref _ _) (fit_ref _ _) dX0_init_14 (jz := 0) rfl (fun H locs h => ?_)
  exact rr_vret C h dX0_init_17
def i_X0_78 (ν : Mem) : Mem := (ms (ms ν 78 5 79) 78 0 6)
set_option maxHeartbeats 4000000 in
set_option maxRecDepth 20000 in
theorem ci_X0_78 (l : Launch) (D : Ds) (b : Nat) {ν : Mem} : CtrI l D b yX0_init cX0_init 2 1 1 9 [(2, 78), (2, 6)] 79 ν 80 (i_X0_78 ν) := by
  refine CtrI.of (by decide +kernel) rfl (Nat.le_of_ble_eq_true rfl) ?_
  intro p e s m below meth c C hG h ls hl
  refine r_aload_n C.1 hl (kx := 0) rfl rfl dX0_init_0 ?_
  refine rr_obj C (by decide) kl_0_3 ki_obj kc_obj (lvh_sz hl) (by decide) (Nat.le_of_ble_eq_true rfl) dX0_init_1 ?_
  refine r_aload_n C.1 hl (kx := 0) rfl rfl dX0_init_4 ?_
  refine r_bipush C.1 (by decide) dX0_init_5 ?_
  refine rr_newa C h (g := 0) (N := 9) (ty := .int) rfl (by decide) rfl (by decide) (by decide) (kk_79).2 ka_int (by decide) (by decide) dX0_init_7 (z := 79) rfl (fun H h => ?_)
  refine rr_putF C h ok0 kk_78 (by decide) 5 (by decide) kf_0_9 (by decide) rfl (z := 79) rfl (nar_arr _ _) (fit_arr _ _) dX0_init_9 (jz := 5) rfl (fun H locs h => ?_)
  refine r_aload_n C.1 hl (kx := 0) rfl rfl dX0_init_12 ?_
  refine r_aload_n C.1 hl (kx := 1) rfl rfl dX0_init_13 ?_
  refine rr_put C h ok0 kk_78 (by decide) 0 (by decide) kf_0_15 (by decide) (z := 6) rfl (nar_ref _ _) (fit_ref _ _) dX0_init_14 (jz := 0) rfl (fun H locs h => ?_)
  exact rr_vret C h dX0_init_17
def i_X0_80 (ν : Mem) : Mem := (ms (ms ν 80 5 81) 80 0 6)
set_option maxHeartbeats 4000000 in
set_option maxRecDepth 20000 in
theorem ci_X0_80 (l : Launch) (D : Ds) (b : Nat) {ν : Mem} : CtrI l D b yX0_init cX0_init 2 1 1 9 [(2, 80), (2, 6)] 81 ν 82 (i_X0_80 ν) := by
  refine CtrI.of (by decide +kernel) rfl (Nat.le_of_ble_eq_true rfl) ?_
  intro p e s m below meth c C hG h ls hl
  refine r_aload_n C.1 hl (kx := 0) rfl rfl dX0_init_0 ?_
  refine rr_obj C (by decide) kl_0_3 ki_obj kc_obj (lvh_sz hl) (by decide) (Nat.le_of_ble_eq_true rfl) dX0_init_1 ?_
  refine r_aload_n C.1 hl (kx := 0) rfl rfl dX0_init_4 ?_
  refine r_bipush C.1 (by decide) dX0_init_5 ?_
  refine rr_newa C h (g := 0) (N := 9) (ty := .int) rfl (by decide) rfl (by decide) (by decide) (kk_81).2 ka_int (by decide) (by decide) dX0_init_7 (z := 81) rfl (fun H h => ?_)
  refine rr_putF C h ok0 kk_80 (by decide) 5 (by decide) kf_0_9 (by decide) rfl (z := 81) rfl (nar_arr _ _) (fit_arr _ _) dX0_init_9 (jz := 5) rfl (fun H locs h => ?_)
  refine r_aload_n C.1 hl (kx := 0) rfl rfl dX0_init_12 ?_
  refine r_aload_n C.1 hl (kx := 1) rfl rfl dX0_init_13 ?_
  refine rr_put C h ok0 kk_80 (by decide) 0 (by decide) kf_0_15 (by decide) (z := 6) rfl (nar_ref _ _) (fit_ref _ _) dX0_init_14 (jz := 0) rfl (fun H locs h => ?_)
  exact rr_vret C h dX0_init_17
def i_X0_82 (ν : Mem) : Mem := (ms (ms ν 82 5 83) 82 0 6)
set_option maxHeartbeats 4000000 in
set_option maxRecDepth 20000 in
theorem ci_X0_82 (l : Launch) (D : Ds) (b : Nat) {ν : Mem} : CtrI l D b yX0_init cX0_init 2 1 1 9 [(2, 82), (2, 6)] 83 ν 84 (i_X0_82 ν) := by
  refine CtrI.of (by decide +kernel) rfl (Nat.le_of_ble_eq_true rfl) ?_
  intro p e s m below meth c C hG h ls hl
  refine r_aload_n C.1 hl (kx := 0) rfl rfl dX0_init_0 ?_
  refine rr_obj C (by decide) kl_0_3 ki_obj kc_obj (lvh_sz hl) (by decide) (Nat.le_of_ble_eq_true rfl) dX0_init_1 ?_
  refine r_aload_n C.1 hl (kx := 0) rfl rfl dX0_init_4 ?_
  refine r_bipush C.1 (by decide) dX0_init_5 ?_
  refine rr_newa C h (g := 0) (N := 9) (ty := .int) rfl (by decide) rfl (by decide) (by decide) (kk_83).2 ka_int (by decide) (by decide) dX0_init_7 (z := 83) rfl (fun H h => ?_)
  refine rr_putF C h ok0 kk_82 (by decide) 5 (by decide) kf_0_9 (by decide) rfl (z := 83) rfl (nar_arr _ _) (fit_arr _ _) dX0_init_9 (jz := 5) rfl (fun H locs h => ?_)
  refine r_aload_n C.1 hl (kx := 0) rfl rfl dX0_init_12 ?_
  refine r_aload_n C.1 hl (kx := 1) rfl rfl dX0_init_13 ?_
  refine rr_put C h ok0 kk_82 (by decide) 0 (by decide) kf_0_15 (by decide) (z := 6) rfl (nar_ref _ _) (fit_ref _ _) dX0_init_14 (jz := 0) rfl (fun H locs h => ?_)
  exact rr_vret C h dX0_init_17
def i_X2_62 (ν : Mem) : Mem := (ms (i_X0_82 (ms (i_X0_80 (ms (i_X0_78 (ms (i_X0_76 (ms (i_X0_74 (ms (i_X0_72 (ms (i_X0_70 (ms (i_X0_68 (ms (i_X0_66 (ms (i_X0_64 (ms ν 62 0 63)) 63 0 64)) 63 1 66)) 63 2 68)) 63 3 70)) 63 4 72)) 63 5 74)) 63 6 76)) 63 7 78)) 63 8 80)) 63 9 82)
set_option maxHeartbeats 4000000 in
set_option maxRecDepth 20000 in
theorem ci_X2_62 (l : Launch) (D : Ds) (b : Nat) {ν : Mem} : CtrI l D b yX2_init cX2_init 3 2 21 160 [(2, 62), (2, 6)] 63 ν 84 (i_X2_62 ν) := by
  refine CtrI.of (by decide +kernel) rfl (Nat.le_of_ble_eq_true rfl) ?_
  intro p e s m below meth c C hG h ls hl
  refine r_aload_n C.1 hl (kx := 0) rfl rfl dX2_init_0 ?_
  refine rr_obj C (by decide) kl_2_3 ki_obj kc_obj (lvh_sz hl) (by decide) (Nat.le_of_ble_eq_true rfl) dX2_init_1 ?_
  refine r_aload_n C.1 hl (kx := 0) rfl rfl dX2_init_4 ?_
  refine r_bipush C.1 (by decide) dX2_init_5 ?_
  refine rr_anew C h (g := 5) (N := 10) (by decide) rfl (by decide) (by decide) (kk_63).2 kd_2_9 C.2.2.2.1 (by decide) (by decide) dX2_init_7 (z := 63) rfl (fun H h => ?_)
  refine rr_putF C h ok2 kk_62 (by decide) 0 (by decide) kf_2_11 (by decide) rfl (z := 63) rfl (nar_arr _ _) (fit_arr _ _) dX2_init_10 (jz := 0) rfl (fun H locs h => ?_)
  refine r_iconst C.1 dX2_init_13 ?_
  refine r_istore_n C.1 hl (by decide) (L' := [(2, 0, 0), (0, 2, 62), (1, 2, 6)]) rfl rfl dX2_init_14 (fun ls hl => ?_)
  refine r_iload_n C.1 hl (kx := 0) rfl rfl dX2_init_15 ?_
  refine r_aload_n C.1 hl (kx := 1) rfl rfl dX2_init_16 ?_
  refine rr_get C h ok2 kk_62 (by decide) 0 (by decide) kf_2_11 (z := 63) rfl rfl dX2_init_17 ?_
  refine rr_alen C h (g := 5) (N := 10) (x := 10) (by decide) rfl (by decide) kk_63 (by decide) (by decide) dX2_init_20 ?_
  refine r_icmp_ge C.1 (tgt := 44) (by decide) dX2_init_21 (fun h9 => absurd h9 (by decide)) (fun _ => ?_)
  refine r_aload_n C.1 hl (kx := 1) rfl rfl dX2_init_24 ?_
  refine rr_get C h ok2 kk_62 (by decide) 0 (by decide) kf_2_11 (z := 63) rfl rfl dX2_init_25 ?_
  refine r_iload_n C.1 hl (kx := 0) rfl rfl dX2_init_28 ?_
  refine rr_new C h ok0 (kk_64).2 df_0 kd_2_9 kn_0 ki_RX0 (by decide) (by decide) dX2_init_29 (z := 64) rfl (fun H h => ?_)
  refine r_dup C.1 (rfv_cat _ _) dX2_init_32 ?_
  refine r_aload_n C.1 hl (kx := 2) rfl rfl dX2_init_33 ?_
  refine rr_callI C hG h (K := [(2, 6)]) (ci_X0_64 l D b) mi_X0_init in_X0_init rfl kl_2_17 (by decide) rfl rfl (lvh_sz hl) (by decide) (Nat.le_of_ble_eq_true rfl) (by decide) dX2_init_34 (fun H locs h => ?_)
  refine rr_aast C h ok0 (g := 5) (N := 10) (by decide) rfl (by decide) kk_63 (by decide) kk_64 (by decide) (by decide) dX2_init_37 (jz := 0) (by decide) (fun H locs h => ?_)
  refine r_iinc C.1 hl (kx := 0) rfl (by decide) (L' := [(2, 0, 1), (0, 2, 62), (1, 2, 6)]) rfl dX2_init_38 (fun ls hl => ?_)
  refine r_goto C.1 (tgt := 15) (by decide) dX2_init_41 ?_
  refine r_iload_n C.1 hl (kx := 0) rfl rfl dX2_init_15 ?_
  refine r_aload_n C.1 hl (kx := 1) rfl rfl dX2_init_16 ?_
  refine rr_get C h ok2 kk_62 (by decide) 0 (by decide) kf_2_11 (z := 63) rfl rfl dX2_init_17 ?_
  refine rr_alen C h (g := 5) (N := 10) (x := 10) (by decide) rfl (by decide) kk_63 (by decide) (by decide) dX2_init_20 ?_
  refine r_icmp_ge C.1 (tgt := 44) (by decide) dX2_init_21 (fun h9 => absurd h9 (by decide)) (fun _ => ?_)
  refine r_aload_n C.1 hl (kx := 1) rfl rfl dX2_init_24 ?_
  refine rr_get C h ok2 kk_62 (by decide) 0 (by decide) kf_2_11 (z := 63) rfl rfl dX2_init_25 ?_
  refine r_iload_n C.1 hl (kx := 0) rfl rfl dX2_init_28 ?_
  refine rr_new C h ok0 (kk_66).2 df_0 kd_2_9 kn_0 ki_RX0 (by decide) (by decide) dX2_init_29 (z := 66) rfl (fun H h => ?_)
  refine r_dup C.1 (rfv_cat _ _) dX2_init_32 ?_
  refine r_aload_n C.1 hl (kx := 2) rfl rfl dX2_init_33 ?_
  refine rr_callI C hG h (K := [(2, 6)]) (ci_X0_66 l D b) mi_X0_init in_X0_init rfl kl_2_17 (by decide) rfl rfl (lvh_sz hl) (by decide) (Nat.le_of_ble_eq_true rfl) (by decide) dX2_init_34 (fun H locs h => ?_)
  refine rr_aast C h ok0 (g := 5) (N := 10) (by decide) rfl (by decide) kk_63 (by decide) kk_66 (by decide) (by decide) dX2_init_37 (jz := 1) (by decide) (fun H locs h => ?_)
  refine r_iinc C.1 hl (kx := 0) rfl (by decide) (L' := [(2, 0, 2), (0, 2, 62), (1, 2, 6)]) rfl dX2_init_38 (fun ls hl => ?_)
  refine r_goto C.1 (tgt := 15) (by decide) dX2_init_41 ?_
  refine r_iload_n C.1 hl (kx := 0) rfl rfl dX2_init_15 ?_
  refine r_aload_n C.1 hl (kx := 1) rfl rfl dX2_init_16 ?_
  refine rr_get C h ok2 kk_62 (by decide) 0 (by decide) kf_2_11 (z := 63) rfl rfl dX2_init_17 ?_
  refine rr_alen C h (g := 5) (N := 10) (x := 10) (by decide) rfl (by decide) kk_63 (by decide) (by decide) dX2_init_20 ?_
  refine r_icmp_ge C.1 (tgt := 44) (by decide) dX2_init_21 (fun h9 => absurd h9 (by decide)) (fun _ => ?_)
  refine r_aload_n C.1 hl (kx := 1) rfl rfl dX2_init_24 ?_
  refine rr_get C h ok2 kk_62 (by decide) 0 (by decide) kf_2_11 (z := 63) rfl rfl dX2_init_25 ?_
  refine r_iload_n C.1 hl (kx := 0) rfl rfl dX2_init_28 ?_
  refine rr_new C h ok0 (kk_68).2 df_0 kd_2_9 kn_0 ki_RX0 (by decide) (by decide) dX2_init_29 (z := 68) rfl (fun H h => ?_)
  refine r_dup C.1 (rfv_cat _ _) dX2_init_32 ?_
  refine r_aload_n C.1 hl (kx := 2) rfl rfl dX2_init_33 ?_
  refine rr_callI C hG h (K := [(2, 6)]) (ci_X0_68 l D b) mi_X0_init in_X0_init rfl kl_2_17 (by decide) rfl rfl (lvh_sz hl) (by decide) (Nat.le_of_ble_eq_true rfl) (by decide) dX2_init_34 (fun H locs h => ?_)
  refine rr_aast C h ok0 (g := 5) (N := 10) (by decide) rfl (by decide) kk_63 (by decide) kk_68 (by decide) (by decide) dX2_init_37 (jz := 2) (by decide) (fun H locs h => ?_)
  refine r_iinc C.1 hl (kx := 0) rfl (by decide) (L' := [(2, 0, 3), (0, 2, 62), (1, 2, 6)]) rfl dX2_init_38 (fun ls hl => ?_)
  refine r_goto C.1 (tgt := 15) (by decide) dX2_init_41 ?_
  refine r_iload_n C.1 hl (kx := 0) rfl rfl dX2_init_15 ?_
  refine r_aload_n C.1 hl (kx := 1) rfl rfl dX2_init_16 ?_
  refine rr_get C h ok2 kk_62 (by decide) 0 (by decide) kf_2_11 (z := 63) rfl rfl dX2_init_17 ?_
  refine rr_alen C h (g := 5) (N := 10) (x := 10) (by decide) rfl (by decide) kk_63 (by decide) (by decide) dX2_init_20 ?_
  refine r_icmp_ge C.1 (tgt := 44) (by decide) dX2_init_21 (fun h9 => absurd h9 (by decide)) (fun _ => ?_)
  refine r_aload_n C.1 hl (kx := 1) rfl rfl dX2_init_24 ?_
  refine rr_get C h ok2 kk_62 (by decide) 0 (by decide) kf_2_11 (z := 63) rfl rfl dX2_init_25 ?_
  refine r_iload_n C.1 hl (kx := 0) rfl rfl dX2_init_28 ?_
  refine rr_new C h ok0 (kk_70).2 df_0 kd_2_9 kn_0 ki_RX0 (by decide) (by decide) dX2_init_29 (z := 70) rfl (fun H h => ?_)
  refine r_dup C.1 (rfv_cat _ _) dX2_init_32 ?_
  refine r_aload_n C.1 hl (kx := 2) rfl rfl dX2_init_33 ?_
  refine rr_callI C hG h (K := [(2, 6)]) (ci_X0_70 l D b) mi_X0_init in_X0_init rfl kl_2_17 (by decide) rfl rfl (lvh_sz hl) (by decide) (Nat.le_of_ble_eq_true rfl) (by decide) dX2_init_34 (fun H locs h => ?_)
  refine rr_aast C h ok0 (g := 5) (N := 10) (by decide) rfl (by decide) kk_63 (by decide) kk_70 (by decide) (by decide) dX2_init_37 (jz := 3) (by decide) (fun H locs h => ?_)
  refine r_iinc C.1 hl (kx := 0) rfl (by decide) (L' := [(2, 0, 4), (0, 2, 62), (1, 2, 6)]) rfl dX2_init_38 (fun ls hl => ?_)
  refine r_goto C.1 (tgt := 15) (by decide) dX2_init_41 ?_
  refine r_iload_n C.1 hl (kx := 0) rfl rfl dX2_init_15 ?_
  refine r_aload_n C.1 hl (kx := 1) rfl rfl dX2_init_16 ?_
  refine rr_get C h ok2 kk_62 (by decide) 0 (by decide) kf_2_11 (z := 63) rfl rfl dX2_init_17 ?_
  refine rr_alen C h (g := 5) (N := 10) (x := 10) (by decide) rfl (by decide) kk_63 (by decide) (by decide) dX2_init_20 ?_
  refine r_icmp_ge C.1 (tgt := 44) (by decide) dX2_init_21 (fun h9 => absurd h9 (by decide)) (fun _ => ?_)
  refine r_aload_n C.1 hl (kx := 1) rfl rfl dX2_init_24 ?_
  refine rr_get C h ok2 kk_62 (by decide) 0 (by decide) kf_2_11 (z := 63) rfl rfl dX2_init_25 ?_
  refine r_iload_n C.1 hl (kx := 0) rfl rfl dX2_init_28 ?_
  refine rr_new C h ok0 (kk_72).2 df_0 kd_2_9 kn_0 ki_RX0 (by decide) (by decide) dX2_init_29 (z := 72) rfl (fun H h => ?_)
  refine r_dup C.1 (rfv_cat _ _) dX2_init_32 ?_
  refine r_aload_n C.1 hl (kx := 2) rfl rfl dX2_init_33 ?_
  refine rr_callI C hG h (K := [(2, 6)]) (ci_X0_72 l D b) mi_X0_init in_X0_init rfl kl_2_17 (by decide) rfl rfl (lvh_sz hl) (by decide) (Nat.le_of_ble_eq_true rfl) (by decide) dX2_init_34 (fun H locs h => ?_)
  refine rr_aast C h ok0 (g := 5) (N := 10) (by decide) rfl (by decide) kk_63 (by decide) kk_72 (by decide) (by decide) dX2_init_37 (jz := 4) (by decide) (fun H locs h => ?_)
  refine r_iinc C.1 hl (kx := 0) rfl (by decide) (L' := [(2, 0, 5), (0, 2, 62), (1, 2, 6)]) rfl dX2_init_38 (fun ls hl => ?_)
  refine r_goto C.1 (tgt := 15) (by decide) dX2_init_41 ?_
  refine r_iload_n C.1 hl (kx := 0) rfl rfl dX2_init_15 ?_
  refine r_aload_n C.1 hl (kx := 1) rfl rfl dX2_init_16 ?_
  refine rr_get C h ok2 kk_62 (by decide) 0 (by decide) kf_2_11 (z := 63) rfl rfl dX2_init_17 ?_
  refine rr_alen C h (g := 5) (N := 10) (x := 10) (by decide) rfl (by decide) kk_63 (by decide) (by decide) dX2_init_20 ?_
  refine r_icmp_ge C.1 (tgt := 44) (by decide) dX2_init_21 (fun h9 => absurd h9 (by decide)) (fun _ => ?_)
  refine r_aload_n C.1 hl (kx := 1) rfl rfl dX2_init_24 ?_
  refine rr_get C h ok2 kk_62 (by decide) 0 (by decide) kf_2_11 (z := 63) rfl rfl dX2_init_25 ?_
  refine r_iload_n C.1 hl (kx := 0) rfl rfl dX2_init_28 ?_
  refine rr_new C h ok0 (kk_74).2 df_0 kd_2_9 kn_0 ki_RX0 (by decide) (by decide) dX2_init_29 (z := 74) rfl (fun H h => ?_)
  refine r_dup C.1 (rfv_cat _ _) dX2_init_32 ?_
  refine r_aload_n C.1 hl (kx := 2) rfl rfl dX2_init_33 ?_
  refine rr_callI C hG h (K := [(2, 6)]) (ci_X0_74 l D b) mi_X0_init in_X0_init rfl kl_2_17 (by decide) rfl rfl (lvh_sz hl) (by decide) (Nat.le_of_ble_eq_true rfl) (by decide) dX2_init_34 (fun H locs h => ?_)
  refine rr_aast C h ok0 (g := 5) (N := 10) (by decide) rfl (by decide) kk_63 (by decide) kk_74 (by decide) (by decide) dX2_init_37 (jz := 5) (by decide) (fun H locs h => ?_)
  refine r_iinc C.1 hl (kx := 0) rfl (by decide) (L' := [(2, 0, 6), (0, 2, 62), (1, 2, 6)]) rfl dX2_init_38 (fun ls hl => ?_)
  refine r_goto C.1 (tgt := 15) (by decide) dX2_init_41 ?_
  refine r_iload_n C.1 hl (kx := 0) rfl rfl dX2_init_15 ?_
  refine r_aload_n C.1 hl (kx := 1) rfl rfl dX2_init_16 ?_
  refine rr_get C h ok2 kk_62 (by decide) 0 (by decide) kf_2_11 (z := 63) rfl rfl dX2_init_17 ?_
  refine rr_alen C h (g := 5) (N := 10) (x := 10) (by decide) rfl (by decide) kk_63 (by decide) (by decide) dX2_init_20 ?_
  refine r_icmp_ge C.1 (tgt := 44) (by decide) dX2_init_21 (fun h9 => absurd h9 (by decide)) (fun _ => ?_)
  refine r_aload_n C.1 hl (kx := 1) rfl rfl dX2_init_24 ?_
  refine rr_get C h ok2 kk_62 (by decide) 0 (by decide) kf_2_11 (z := 63) rfl rfl dX2_init_25 ?_
  refine r_iload_n C.1 hl (kx := 0) rfl rfl dX2_init_28 ?_
  refine rr_new C h ok0 (kk_76).2 df_0 kd_2_9 kn_0 ki_RX0 (by decide) (by decide) dX2_init_29 (z := 76) rfl (fun H h => ?_)
  refine r_dup C.1 (rfv_cat _ _) dX2_init_32 ?_
  refine r_aload_n C.1 hl (kx := 2) rfl rfl dX2_init_33 ?_
  refine rr_callI C hG h (K := [(2, 6)]) (ci_X0_76 l D b) mi_X0_init in_X0_init rfl kl_2_17 (by decide) rfl rfl (lvh_sz hl) (by decide) (Nat.le_of_ble_eq_true rfl) (by decide) dX2_init_34 (fun H locs h => ?_)
  refine rr_aast C h ok0 (g := 5) (N := 10) (by decide) rfl (by decide) kk_63 (by decide) kk_76 (by decide) (by decide) dX2_init_37 (jz := 6) (by decide) (fun H locs h => ?_)
  refine r_iinc C.1 hl (kx := 0) rfl (by decide) (L' := [(2, 0, 7), (0, 2, 62), (1, 2, 6)]) rfl dX2_init_38 (fun ls hl => ?_)
  refine r_goto C.1 (tgt := 15) (by decide) dX2_init_41 ?_
  refine r_iload_n C.1 hl (kx := 0) rfl rfl dX2_init_15 ?_
  refine r_aload_n C.1 hl (kx := 1) rfl rfl dX2_init_16 ?_
  refine rr_get C h ok2 kk_62 (by decide) 0 (by decide) kf_2_11 (z := 63) rfl rfl dX2_init_17 ?_
  refine rr_alen C h (g := 5) (N := 10) (x := 10) (by decide) rfl (by decide) kk_63 (by decide) (by decide) dX2_init_20 ?_
  refine r_icmp_ge C.1 (tgt := 44) (by decide) dX2_init_21 (fun h9 => absurd h9 (by decide)) (fun _ => ?_)
  refine r_aload_n C.1 hl (kx := 1) rfl rfl dX2_init_24 ?_
  refine rr_get C h ok2 kk_62 (by decide) 0 (by decide) kf_2_11 (z := 63) rfl rfl dX2_init_25 ?_
  refine r_iload_n C.1 hl (kx := 0) rfl rfl dX2_init_28 ?_
  refine rr_new C h ok0 (kk_78).2 df_0 kd_2_9 kn_0 ki_RX0 (by decide) (by decide) dX2_init_29 (z := 78) rfl (fun H h => ?_)
  refine r_dup C.1 (rfv_cat _ _) dX2_init_32 ?_
  refine r_aload_n C.1 hl (kx := 2) rfl rfl dX2_init_33 ?_
  refine rr_callI C hG h (K := [(2, 6)]) (ci_X0_78 l D b) mi_X0_init in_X0_init rfl kl_2_17 (by decide) rfl rfl (lvh_sz hl) (by decide) (Nat.le_of_ble_eq_true rfl) (by decide) dX2_init_34 (fun H locs h => ?_)
  refine rr_aast C h ok0 (g := 5) (N := 10) (by decide) rfl (by decide) kk_63 (by decide) kk_78 (by decide) (by decide) dX2_init_37 (jz := 7) (by decide) (fun H locs h => ?_)
  refine r_iinc C.1 hl (kx := 0) rfl (by decide) (L' := [(2, 0, 8), (0, 2, 62), (1, 2, 6)]) rfl dX2_init_38 (fun ls hl => ?_)
  refine r_goto C.1 (tgt := 15) (by decide) dX2_init_41 ?_
  refine r_iload_n C.1 hl (kx := 0) rfl rfl dX2_init_15 ?_
  refine r_aload_n C.1 hl (kx := 1) rfl rfl dX2_init_16 ?_
  refine rr_get C h ok2 kk_62 (by decide) 0 (by decide) kf_2_11 (z := 63) rfl rfl dX2_init_17 ?_
  refine rr_alen C h (g := 5) (N := 10) (x := 10) (by decide) rfl (by decide) kk_63 (by decide) (by decide) dX2_init_20 ?_
  refine r_icmp_ge C.1 (tgt := 44) (by decide) dX2_init_21 (fun h9 => absurd h9 (by decide)) (fun _ => ?_)
  refine r_aload_n C.1 hl (kx := 1) rfl rfl dX2_init_24 ?_
  refine rr_get C h ok2 kk_62 (by decide) 0 (by decide) kf_2_11 (z := 63) rfl rfl dX2_init_25 ?_
  refine r_iload_n C.1 hl (kx := 0) rfl rfl dX2_init_28 ?_
  refine rr_new C h ok0 (kk_80).2 df_0 kd_2_9 kn_0 ki_RX0 (by decide) (by decide) dX2_init_29 (z := 80) rfl (fun H h => ?_)
  refine r_dup C.1 (rfv_cat _ _) dX2_init_32 ?_
  refine r_aload_n C.1 hl (kx := 2) rfl rfl dX2_init_33 ?_
  refine rr_callI C hG h (K := [(2, 6)]) (ci_X0_80 l D b) mi_X0_init in_X0_init rfl kl_2_17 (by decide) rfl rfl (lvh_sz hl) (by decide) (Nat.le_of_ble_eq_true rfl) (by decide) dX2_init_34 (fun H locs h => ?_)
  refine rr_aast C h ok0 (g := 5) (N := 10) (by decide) rfl (by decide) kk_63 (by decide) kk_80 (by decide) (by decide) dX2_init_37 (jz := 8) (by decide) (fun H locs h => ?_)
  refine r_iinc C.1 hl (kx := 0) rfl (by decide) (L' := [(2, 0, 9), (0, 2, 62), (1, 2, 6)]) rfl dX2_init_38 (fun ls hl => ?_)
  refine r_goto C.1 (tgt := 15) (by decide) dX2_init_41 ?_
  refine r_iload_n C.1 hl (kx := 0) rfl rfl dX2_init_15 ?_
  refine r_aload_n C.1 hl (kx := 1) rfl rfl dX2_init_16 ?_
  refine rr_get C h ok2 kk_62 (by decide) 0 (by decide) kf_2_11 (z := 63) rfl rfl dX2_init_17 ?_
  refine rr_alen C h (g := 5) (N := 10) (x := 10) (by decide) rfl (by decide) kk_63 (by decide) (by decide) dX2_init_20 ?_
  refine r_icmp_ge C.1 (tgt := 44) (by decide) dX2_init_21 (fun h9 => absurd h9 (by decide)) (fun _ => ?_)
  refine r_aload_n C.1 hl (kx := 1) rfl rfl dX2_init_24 ?_
  refine rr_get C h ok2 kk_62 (by decide) 0 (by decide) kf_2_11 (z := 63) rfl rfl dX2_init_25 ?_
  refine r_iload_n C.1 hl (kx := 0) rfl rfl dX2_init_28 ?_
  refine rr_new C h ok0 (kk_82).2 df_0 kd_2_9 kn_0 ki_RX0 (by decide) (by decide) dX2_init_29 (z := 82) rfl (fun H h => ?_)
  refine r_dup C.1 (rfv_cat _ _) dX2_init_32 ?_
  refine r_aload_n C.1 hl (kx := 2) rfl rfl dX2_init_33 ?_
  refine rr_callI C hG h (K := [(2, 6)]) (ci_X0_82 l D b) mi_X0_init in_X0_init rfl kl_2_17 (by decide) rfl rfl (lvh_sz hl) (by decide) (Nat.le_of_ble_eq_true rfl) (by decide) dX2_init_34 (fun H locs h => ?_)
  refine rr_aast C h ok0 (g := 5) (N := 10) (by decide) rfl (by decide) kk_63 (by decide) kk_82 (by decide) (by decide) dX2_init_37 (jz := 9) (by decide) (fun H locs h => ?_)
  refine r_iinc C.1 hl (kx := 0) rfl (by decide) (L' := [(2, 0, 10), (0, 2, 62), (1, 2, 6)]) rfl dX2_init_38 (fun ls hl => ?_)
  refine r_goto C.1 (tgt := 15) (by decide) dX2_init_41 ?_
  refine r_iload_n C.1 hl (kx := 0) rfl rfl dX2_init_15 ?_
  refine r_aload_n C.1 hl (kx := 1) rfl rfl dX2_init_16 ?_
  refine rr_get C h ok2 kk_62 (by decide) 0 (by decide) kf_2_11 (z := 63) rfl rfl dX2_init_17 ?_
  refine rr_alen C h (g := 5) (N := 10) (x := 10) (by decide) rfl (by decide) kk_63 (by decide) (by decide) dX2_init_20 ?_
  refine r_icmp_ge C.1 (tgt := 44) (by decide) dX2_init_21 (fun _ => ?_) (fun h9 => absurd (by decide) h9)
  exact rr_vret C h dX2_init_44
theorem kl_11_45 : Cond.methodLink RX11 45 yX2_init ∈ gT := gT_in (inT2 (List.mem_of_getElem? (i := 18) rfl)) rfl
def i_X0_85 (ν : Mem) : Mem := (ms (ms ν 85 5 86) 85 0 6)
set_option maxHeartbeats 4000000 in
set_option maxRecDepth 20000 in
theorem ci_X0_85 (l : Launch) (D : Ds) (b : Nat) {ν : Mem} : CtrI l D b yX0_init cX0_init 2 1 1 9 [(2, 85), (2, 6)] 86 ν 87 (i_X0_85 ν) := by
  refine CtrI.of (by decide +kernel) rfl (Nat.le_of_ble_eq_true rfl) ?_
  intro p e s m below meth c C hG h ls hl
  refine r_aload_n C.1 hl (kx := 0) rfl rfl dX0_init_0 ?_
  refine rr_obj C (by decide) kl_0_3 ki_obj kc_obj (lvh_sz hl) (by decide) (Nat.le_of_ble_eq_true rfl) dX0_init_1 ?_
  refine r_aload_n C.1 hl (kx := 0) rfl rfl dX0_init_4 ?_
  refine r_bipush C.1 (by decide) dX0_init_5 ?_
  refine rr_newa C h (g := 0) (N := 9) (ty := .int) rfl (by decide) rfl (by decide) (by decide) (kk_86).2 ka_int (by decide) (by decide) dX0_init_7 (z := 86) rfl (fun H h => ?_)
  refine rr_putF C h ok0 kk_85 (by decide) 5 (by decide) kf_0_9 (by decide) rfl (z := 86) rfl (nar_arr _ _) (fit_arr _ _) dX0_init_9 (jz := 5) rfl (fun H locs h => ?_)
  refine r_aload_n C.1 hl (kx := 0) rfl rfl dX0_init_12 ?_
  refine r_aload_n C.1 hl (kx := 1) rfl rfl dX0_init_13 ?_
  refine rr_put C h ok0 kk_85 (by decide) 0 (by decide) kf_0_15 (by decide) (z := 6) rfl (nar_ref _ _) (fit_ref _ _) dX0_init_14 (jz := 0) rfl (fun H locs h => ?_)
  exact rr_vret C h dX0_init_17
def i_X0_87 (ν : Mem) : Mem := (ms (ms ν 87 5 88) 87 0 6)
set_option maxHeartbeats 4000000 in
set_option maxRecDepth 20000 in
theorem ci_X0_87 (l : Launch) (D : Ds) (b : Nat) {ν : Mem} : CtrI l D b yX0_init cX0_init 2 1 1 9 [(2, 87), (2, 6)] 88 ν 89 (i_X0_87 ν) := by
  refine CtrI.of (by decide +kernel) rfl (Nat.le_of_ble_eq_true rfl) ?_
  intro p e s m below meth c C hG h ls hl
  refine r_aload_n C.1 hl (kx := 0) rfl rfl dX0_init_0 ?_
  refine rr_obj C (by decide) kl_0_3 ki_obj kc_obj (lvh_sz hl) (by decide) (Nat.le_of_ble_eq_true rfl) dX0_init_1 ?_
  refine r_aload_n C.1 hl (kx := 0) rfl rfl dX0_init_4 ?_
  refine r_bipush C.1 (by decide) dX0_init_5 ?_
  refine rr_newa C h (g := 0) (N := 9) (ty := .int) rfl (by decide) rfl (by decide) (by decide) (kk_88).2 ka_int (by decide) (by decide) dX0_init_7 (z := 88) rfl (fun H h => ?_)
  refine rr_putF C h ok0 kk_87 (by decide) 5 (by decide) kf_0_9 (by decide) rfl (z := 88) rfl (nar_arr _ _) (fit_arr _ _) dX0_init_9 (jz := 5) rfl (fun H locs h => ?_)
  refine r_aload_n C.1 hl (kx := 0) rfl rfl dX0_init_12 ?_
  refine r_aload_n C.1 hl (kx := 1) rfl rfl dX0_init_13 ?_
  refine rr_put C h ok0 kk_87 (by decide) 0 (by decide) kf_0_15 (by decide) (z := 6) rfl (nar_ref _ _) (fit_ref _ _) dX0_init_14 (jz := 0) rfl (fun H locs h => ?_)
  exact rr_vret C h dX0_init_17
theorem kd_11_54 : Cond.classLink RX11 54 RX10 ∈ gT := gT_in (inT2 (List.mem_of_getElem? (i := 35) rfl)) rfl
theorem kl_10_3 : Cond.methodLink RX10 3 objectInit ∈ gT := gT_in (inT2 (List.mem_of_getElem? (i := 41) rfl)) rfl
def i_X10_90 (ν : Mem) : Mem := (ms (ms ν 90 0 1) 90 3 91)
set_option maxHeartbeats 4000000 in
set_option maxRecDepth 20000 in
theorem ci_X10_90 (l : Launch) (D : Ds) (b : Nat) {ν : Mem} : CtrI l D b yX10_init cX10_init 1 1 1 40 [(2, 90)] 91 ν 92 (i_X10_90 ν) := by
  refine CtrI.of (by decide +kernel) rfl (Nat.le_of_ble_eq_true rfl) ?_
  intro p e s m below meth c C hG h ls hl
  refine r_aload_n C.1 hl (kx := 0) rfl rfl dX10_init_0 ?_
  refine rr_obj C (by decide) kl_10_3 ki_obj kc_obj (lvh_sz hl) (by decide) (Nat.le_of_ble_eq_true rfl) dX10_init_1 ?_
  refine r_aload_n C.1 hl (kx := 0) rfl rfl dX10_init_4 ?_
  refine r_iconst C.1 dX10_init_5 ?_
  refine rr_put C h ok10 kk_90 (by decide) 0 (by decide) kf_10_9 (by decide) (z := 1) rfl (isB_nar (by decide)).1 (isB_nar (by decide)).2 dX10_init_6 (jz := 0) rfl (fun H locs h => ?_)
  refine r_aload_n C.1 hl (kx := 0) rfl rfl dX10_init_9 ?_
  refine r_bipush C.1 (by decide) dX10_init_10 ?_
  refine rr_newa C h (g := 3) (N := 40) (ty := .long) rfl (by decide) rfl (by decide) (by decide) (kk_91).2 ka_long (by decide) (by decide) dX10_init_12 (z := 91) rfl (fun H h => ?_)
  refine rr_putF C h ok10 kk_90 (by decide) 3 (by decide) kf_10_15 (by decide) rfl (z := 91) rfl (nar_arr _ _) (fit_arr _ _) dX10_init_14 (jz := 3) rfl (fun H locs h => ?_)
  exact rr_vret C h dX10_init_17
theorem kl_11_60 : (RX11, 60, yX10_init, "RutWays") ∈ nestL := List.mem_of_getElem? (i := 3) rfl
def i_X10_92 (ν : Mem) : Mem := (ms (ms ν 92 0 1) 92 3 93)
set_option maxHeartbeats 4000000 in
set_option maxRecDepth 20000 in
theorem ci_X10_92 (l : Launch) (D : Ds) (b : Nat) {ν : Mem} : CtrI l D b yX10_init cX10_init 1 1 1 40 [(2, 92)] 93 ν 94 (i_X10_92 ν) := by
  refine CtrI.of (by decide +kernel) rfl (Nat.le_of_ble_eq_true rfl) ?_
  intro p e s m below meth c C hG h ls hl
  refine r_aload_n C.1 hl (kx := 0) rfl rfl dX10_init_0 ?_
  refine rr_obj C (by decide) kl_10_3 ki_obj kc_obj (lvh_sz hl) (by decide) (Nat.le_of_ble_eq_true rfl) dX10_init_1 ?_
  refine r_aload_n C.1 hl (kx := 0) rfl rfl dX10_init_4 ?_
  refine r_iconst C.1 dX10_init_5 ?_
  refine rr_put C h ok10 kk_92 (by decide) 0 (by decide) kf_10_9 (by decide) (z := 1) rfl (isB_nar (by decide)).1 (isB_nar (by decide)).2 dX10_init_6 (jz := 0) rfl (fun H locs h => ?_)
  refine r_aload_n C.1 hl (kx := 0) rfl rfl dX10_init_9 ?_
  refine r_bipush C.1 (by decide) dX10_init_10 ?_
  refine rr_newa C h (g := 3) (N := 40) (ty := .long) rfl (by decide) rfl (by decide) (by decide) (kk_93).2 ka_long (by decide) (by decide) dX10_init_12 (z := 93) rfl (fun H h => ?_)
  refine rr_putF C h ok10 kk_92 (by decide) 3 (by decide) kf_10_15 (by decide) rfl (z := 93) rfl (nar_arr _ _) (fit_arr _ _) dX10_init_14 (jz := 3) rfl (fun H locs h => ?_)
  exact rr_vret C h dX10_init_17
def i_X10_94 (ν : Mem) : Mem := (ms (ms ν 94 0 1) 94 3 95)
set_option maxHeartbeats 4000000 in
set_option maxRecDepth 20000 in
theorem ci_X10_94 (l : Launch) (D : Ds) (b : Nat) {ν : Mem} : CtrI l D b yX10_init cX10_init 1 1 1 40 [(2, 94)] 95 ν 96 (i_X10_94 ν) := by
  refine CtrI.of (by decide +kernel) rfl (Nat.le_of_ble_eq_true rfl) ?_
  intro p e s m below meth c C hG h ls hl
  refine r_aload_n C.1 hl (kx := 0) rfl rfl dX10_init_0 ?_
  refine rr_obj C (by decide) kl_10_3 ki_obj kc_obj (lvh_sz hl) (by decide) (Nat.le_of_ble_eq_true rfl) dX10_init_1 ?_
  refine r_aload_n C.1 hl (kx := 0) rfl rfl dX10_init_4 ?_
  refine r_iconst C.1 dX10_init_5 ?_
  refine rr_put C h ok10 kk_94 (by decide) 0 (by decide) kf_10_9 (by decide) (z := 1) rfl (isB_nar (by decide)).1 (isB_nar (by decide)).2 dX10_init_6 (jz := 0) rfl (fun H locs h => ?_)
  refine r_aload_n C.1 hl (kx := 0) rfl rfl dX10_init_9 ?_
  refine r_bipush C.1 (by decide) dX10_init_10 ?_
  refine rr_newa C h (g := 3) (N := 40) (ty := .long) rfl (by decide) rfl (by decide) (by decide) (kk_95).2 ka_long (by decide) (by decide) dX10_init_12 (z := 95) rfl (fun H h => ?_)
  refine rr_putF C h ok10 kk_94 (by decide) 3 (by decide) kf_10_15 (by decide) rfl (z := 95) rfl (nar_arr _ _) (fit_arr _ _) dX10_init_14 (jz := 3) rfl (fun H locs h => ?_)
  exact rr_vret C h dX10_init_17
def i_X10_96 (ν : Mem) : Mem := (ms (ms ν 96 0 1) 96 3 97)
set_option maxHeartbeats 4000000 in
set_option maxRecDepth 20000 in
theorem ci_X10_96 (l : Launch) (D : Ds) (b : Nat) {ν : Mem} : CtrI l D b yX10_init cX10_init 1 1 1 40 [(2, 96)] 97 ν 98 (i_X10_96 ν) := by
  refine CtrI.of (by decide +kernel) rfl (Nat.le_of_ble_eq_true rfl) ?_
  intro p e s m below meth c C hG h ls hl
  refine r_aload_n C.1 hl (kx := 0) rfl rfl dX10_init_0 ?_
  refine rr_obj C (by decide) kl_10_3 ki_obj kc_obj (lvh_sz hl) (by decide) (Nat.le_of_ble_eq_true rfl) dX10_init_1 ?_
  refine r_aload_n C.1 hl (kx := 0) rfl rfl dX10_init_4 ?_
  refine r_iconst C.1 dX10_init_5 ?_
  refine rr_put C h ok10 kk_96 (by decide) 0 (by decide) kf_10_9 (by decide) (z := 1) rfl (isB_nar (by decide)).1 (isB_nar (by decide)).2 dX10_init_6 (jz := 0) rfl (fun H locs h => ?_)
  refine r_aload_n C.1 hl (kx := 0) rfl rfl dX10_init_9 ?_
  refine r_bipush C.1 (by decide) dX10_init_10 ?_
  refine rr_newa C h (g := 3) (N := 40) (ty := .long) rfl (by decide) rfl (by decide) (by decide) (kk_97).2 ka_long (by decide) (by decide) dX10_init_12 (z := 97) rfl (fun H h => ?_)
  refine rr_putF C h ok10 kk_96 (by decide) 3 (by decide) kf_10_15 (by decide) rfl (z := 97) rfl (nar_arr _ _) (fit_arr _ _) dX10_init_14 (jz := 3) rfl (fun H locs h => ?_)
  exact rr_vret C h dX10_init_17
theorem kd_11_61 : Cond.classLink RX11 61 RX6 ∈ gT := gT_in (inT2 (List.mem_of_getElem? (i := 58) rfl)) rfl
theorem kl_6_3 : Cond.methodLink RX6 3 objectInit ∈ gT := gT_in (inT2 (List.mem_of_getElem? (i := 63) rfl)) rfl
def i_X6_98 (ν : Mem) : Mem := (ms (ms ν 98 0 99) 98 1 100)
set_option maxHeartbeats 4000000 in
set_option maxRecDepth 20000 in
theorem ci_X6_98 (l : Launch) (D : Ds) (b : Nat) {ν : Mem} : CtrI l D b yX6_init cX6_init 1 1 2 16 [(2, 98)] 99 ν 101 (i_X6_98 ν) := by
  refine CtrI.of (by decide +kernel) rfl (Nat.le_of_ble_eq_true rfl) ?_
  intro p e s m below meth c C hG h ls hl
  refine r_aload_n C.1 hl (kx := 0) rfl rfl dX6_init_0 ?_
  refine rr_obj C (by decide) kl_6_3 ki_obj kc_obj (lvh_sz hl) (by decide) (Nat.le_of_ble_eq_true rfl) dX6_init_1 ?_
  refine r_aload_n C.1 hl (kx := 0) rfl rfl dX6_init_4 ?_
  refine r_bipush C.1 (by decide) dX6_init_5 ?_
  refine rr_newa C h (g := 0) (N := 9) (ty := .int) rfl (by decide) rfl (by decide) (by decide) (kk_99).2 ka_int (by decide) (by decide) dX6_init_7 (z := 99) rfl (fun H h => ?_)
  refine rr_putF C h ok6 kk_98 (by decide) 0 (by decide) kf_6_9 (by decide) rfl (z := 99) rfl (nar_arr _ _) (fit_arr _ _) dX6_init_9 (jz := 0) rfl (fun H locs h => ?_)
  refine r_aload_n C.1 hl (kx := 0) rfl rfl dX6_init_12 ?_
  refine r_bipush C.1 (by decide) dX6_init_13 ?_
  refine rr_newa C h (g := 0) (N := 7) (ty := .int) rfl (by decide) rfl (by decide) (by decide) (kk_100).2 ka_int (by decide) (by decide) dX6_init_15 (z := 100) rfl (fun H h => ?_)
  refine rr_putF C h ok6 kk_98 (by decide) 1 (by decide) kf_6_15 (by decide) rfl (z := 100) rfl (nar_arr _ _) (fit_arr _ _) dX6_init_17 (jz := 1) rfl (fun H locs h => ?_)
  exact rr_vret C h dX6_init_20
theorem kl_11_63 : (RX11, 63, yX6_init, "RutWays") ∈ nestL := List.mem_of_getElem? (i := 4) rfl
theorem kd_11_68 : Cond.classLink RX11 68 RX8 ∈ gT := gT_in (inT2 (List.mem_of_getElem? (i := 71) rfl)) rfl
theorem kl_8_3 : Cond.methodLink RX8 3 objectInit ∈ gT := gT_in (inT2 (List.mem_of_getElem? (i := 76) rfl)) rfl
def i_X8_101 (ν : Mem) : Mem := (ms (ms (ms (ms ν 101 0 102) 101 1 103) 101 2 104) 101 3 105)
set_option maxHeartbeats 4000000 in
set_option maxRecDepth 20000 in
theorem ci_X8_101 (l : Launch) (D : Ds) (b : Nat) {ν : Mem} : CtrI l D b yX8_init cX8_init 1 1 4 142 [(2, 101)] 102 ν 106 (i_X8_101 ν) := by
  refine CtrI.of (by decide +kernel) rfl (Nat.le_of_ble_eq_true rfl) ?_
  intro p e s m below meth c C hG h ls hl
  refine r_aload_n C.1 hl (kx := 0) rfl rfl dX8_init_0 ?_
  refine rr_obj C (by decide) kl_8_3 ki_obj kc_obj (lvh_sz hl) (by decide) (Nat.le_of_ble_eq_true rfl) dX8_init_1 ?_
  refine r_aload_n C.1 hl (kx := 0) rfl rfl dX8_init_4 ?_
  refine r_bipush C.1 (by decide) dX8_init_5 ?_
  refine rr_newa C h (g := 2) (N := 63) (ty := .boolean) rfl (by decide) rfl (by decide) (by decide) (kk_102).2 ka_boolean (by decide) (by decide) dX8_init_7 (z := 102) rfl (fun H h => ?_)
  refine rr_putF C h ok8 kk_101 (by decide) 0 (by decide) kf_8_11 (by decide) rfl (z := 102) rfl (nar_arr _ _) (fit_arr _ _) dX8_init_9 (jz := 0) rfl (fun H locs h => ?_)
  refine r_aload_n C.1 hl (kx := 0) rfl rfl dX8_init_12 ?_
  refine r_bipush C.1 (by decide) dX8_init_13 ?_
  refine rr_newa C h (g := 0) (N := 63) (ty := .int) rfl (by decide) rfl (by decide) (by decide) (kk_103).2 ka_int (by decide) (by decide) dX8_init_15 (z := 103) rfl (fun H h => ?_)
  refine rr_putF C h ok8 kk_101 (by decide) 1 (by decide) kf_8_15 (by decide) rfl (z := 103) rfl (nar_arr _ _) (fit_arr _ _) dX8_init_17 (jz := 1) rfl (fun H locs h => ?_)
  refine r_aload_n C.1 hl (kx := 0) rfl rfl dX8_init_20 ?_
  refine r_bipush C.1 (by decide) dX8_init_21 ?_
  refine rr_newa C h (g := 0) (N := 9) (ty := .int) rfl (by decide) rfl (by decide) (by decide) (kk_104).2 ka_int (by decide) (by decide) dX8_init_23 (z := 104) rfl (fun H h => ?_)
  refine rr_putF C h ok8 kk_101 (by decide) 2 (by decide) kf_8_19 (by decide) rfl (z := 104) rfl (nar_arr _ _) (fit_arr _ _) dX8_init_25 (jz := 2) rfl (fun H locs h => ?_)
  refine r_aload_n C.1 hl (kx := 0) rfl rfl dX8_init_28 ?_
  refine r_bipush C.1 (by decide) dX8_init_29 ?_
  refine rr_newa C h (g := 0) (N := 7) (ty := .int) rfl (by decide) rfl (by decide) (by decide) (kk_105).2 ka_int (by decide) (by decide) dX8_init_31 (z := 105) rfl (fun H h => ?_)
  refine rr_putF C h ok8 kk_101 (by decide) 3 (by decide) kf_8_22 (by decide) rfl (z := 105) rfl (nar_arr _ _) (fit_arr _ _) dX8_init_33 (jz := 3) rfl (fun H locs h => ?_)
  exact rr_vret C h dX8_init_36
theorem kl_11_70 : (RX11, 70, yX8_init, "RutWays") ∈ nestL := List.mem_of_getElem? (i := 5) rfl
theorem kd_11_75 : Cond.classLink RX11 75 RX1 ∈ gT := gT_in (inT2 (List.mem_of_getElem? (i := 100) rfl)) rfl
theorem kl_1_3 : Cond.methodLink RX1 3 objectInit ∈ gT := gT_in (inT2 (List.mem_of_getElem? (i := 105) rfl)) rfl
def i_X1_106 (ν : Mem) : Mem := (ms ν 106 0 107)
set_option maxHeartbeats 4000000 in
set_option maxRecDepth 20000 in
theorem ci_X1_106 (l : Launch) (D : Ds) (b : Nat) {ν : Mem} : CtrI l D b yX1_init cX1_init 1 1 1 512 [(2, 106)] 107 ν 108 (i_X1_106 ν) := by
  refine CtrI.of (by decide +kernel) rfl (Nat.le_of_ble_eq_true rfl) ?_
  intro p e s m below meth c C hG h ls hl
  refine r_aload_n C.1 hl (kx := 0) rfl rfl dX1_init_0 ?_
  refine rr_obj C (by decide) kl_1_3 ki_obj kc_obj (lvh_sz hl) (by decide) (Nat.le_of_ble_eq_true rfl) dX1_init_1 ?_
  refine r_aload_n C.1 hl (kx := 0) rfl rfl dX1_init_4 ?_
  refine r_sipush C.1 (by decide) dX1_init_5 ?_
  refine rr_newa C h (g := 0) (N := 512) (ty := .int) rfl (by decide) rfl (by decide) (by decide) (kk_107).2 ka_int (by decide) (by decide) dX1_init_8 (z := 107) rfl (fun H h => ?_)
  refine rr_putF C h ok1 kk_106 (by decide) 0 (by decide) kf_1_9 (by decide) rfl (z := 107) rfl (nar_arr _ _) (fit_arr _ _) dX1_init_10 (jz := 0) rfl (fun H locs h => ?_)
  exact rr_vret C h dX1_init_13
theorem kl_11_77 : (RX11, 77, yX1_init, "RutWays") ∈ nestL := List.mem_of_getElem? (i := 6) rfl
theorem kd_11_82 : Cond.classLink RX11 82 RX5 ∈ gT := gT_in (inT2 (List.mem_of_getElem? (i := 110) rfl)) rfl
theorem kl_5_3 : Cond.methodLink RX5 3 objectInit ∈ gT := gT_in (inT2 (List.mem_of_getElem? (i := 115) rfl)) rfl
def i_X5_108 (ν : Mem) : Mem := (ms (ms ν 108 0 109) 108 1 110)
set_option maxHeartbeats 4000000 in
set_option maxRecDepth 20000 in
theorem ci_X5_108 (l : Launch) (D : Ds) (b : Nat) {ν : Mem} : CtrI l D b yX5_init cX5_init 1 1 2 14 [(2, 108)] 109 ν 111 (i_X5_108 ν) := by
  refine CtrI.of (by decide +kernel) rfl (Nat.le_of_ble_eq_true rfl) ?_
  intro p e s m below meth c C hG h ls hl
  refine r_aload_n C.1 hl (kx := 0) rfl rfl dX5_init_0 ?_
  refine rr_obj C (by decide) kl_5_3 ki_obj kc_obj (lvh_sz hl) (by decide) (Nat.le_of_ble_eq_true rfl) dX5_init_1 ?_
  refine r_aload_n C.1 hl (kx := 0) rfl rfl dX5_init_4 ?_
  refine r_bipush C.1 (by decide) dX5_init_5 ?_
  refine rr_newa C h (g := 0) (N := 7) (ty := .int) rfl (by decide) rfl (by decide) (by decide) (kk_109).2 ka_int (by decide) (by decide) dX5_init_7 (z := 109) rfl (fun H h => ?_)
  refine rr_put C h ok5 kk_108 (by decide) 0 (by decide) kf_5_9 (by decide) (z := 109) rfl (nar_arr _ _) (fit_arr _ _) dX5_init_9 (jz := 0) rfl (fun H locs h => ?_)
  refine r_aload_n C.1 hl (kx := 0) rfl rfl dX5_init_12 ?_
  refine r_bipush C.1 (by decide) dX5_init_13 ?_
  refine rr_newa C h (g := 0) (N := 7) (ty := .int) rfl (by decide) rfl (by decide) (by decide) (kk_110).2 ka_int (by decide) (by decide) dX5_init_15 (z := 110) rfl (fun H h => ?_)
  refine rr_put C h ok5 kk_108 (by decide) 1 (by decide) kf_5_15 (by decide) (z := 110) rfl (nar_arr _ _) (fit_arr _ _) dX5_init_17 (jz := 1) rfl (fun H locs h => ?_)
  exact rr_vret C h dX5_init_20
theorem kl_11_84 : (RX11, 84, yX5_init, "RutWays") ∈ nestL := List.mem_of_getElem? (i := 7) rfl
def i_X11_0 (ν : Mem) : Mem := (ms (i_X5_108 (ms (i_X1_106 (ms (i_X8_101 (ms (i_X6_98 (ms (i_X10_96 (ms (i_X10_94 (ms (i_X10_92 (ms (i_X10_90 (ms (ms (i_X0_87 (ms (i_X0_85 (ms (ms (i_X2_62 (ms (i_X0_60 (ms (i_X0_58 (ms (i_X3_45 (ms (i_X3_32 (ms (i_X3_19 (ms (i_X3_6 (ms (ms (ms (i_X7_2 (ms ν 0 0 1)) 0 2 2) 0 4 (-1)) 0 5 5)) 5 0 6)) 5 1 19)) 5 2 32)) 5 3 45)) 0 6 58)) 0 7 60)) 0 8 62) 0 9 84)) 84 0 85)) 84 1 87) 0 11 89)) 89 0 90)) 89 1 92)) 89 2 94)) 89 3 96)) 0 12 98)) 0 13 101)) 0 14 106)) 0 15 108)
set_option maxHeartbeats 4000000 in
set_option maxRecDepth 20000 in
theorem ci_X11_0 (l : Launch) (D : Ds) (b : Nat) {ν : Mem} : CtrI l D b yX11_init cX11_init 2 3 110 7117 [(2, 0)] 1 ν 111 (i_X11_0 ν) := by
  refine CtrI.of (by decide +kernel) rfl (Nat.le_of_ble_eq_true rfl) ?_
  intro p e s m below meth c C hG h ls hl
  refine r_aload_n C.1 hl (kx := 0) rfl rfl dX11_init_0 ?_
  refine rr_obj C (by decide) kl_11_1 ki_obj kc_obj (lvh_sz hl) (by decide) (Nat.le_of_ble_eq_true rfl) dX11_init_1 ?_
  refine r_aload_n C.1 hl (kx := 0) rfl rfl dX11_init_4 ?_
  refine r_sipush C.1 (by decide) dX11_init_5 ?_
  refine rr_newa C h (g := 1) (N := 900) (ty := .byte) rfl (by decide) rfl (by decide) (by decide) (kk_1).2 ka_byte (by decide) (by decide) dX11_init_8 (z := 1) rfl (fun H h => ?_)
  refine rr_putF C h ok11 kk_0 (by decide) 0 (by decide) kf_11_9 (by decide) rfl (z := 1) rfl (nar_arr _ _) (fit_arr _ _) dX11_init_10 (jz := 0) rfl (fun H locs h => ?_)
  refine r_aload_n C.1 hl (kx := 0) rfl rfl dX11_init_13 ?_
  refine rr_new C h ok7 (kk_2).2 df_7 kd_11_13 kn_7 ki_RX7 (by decide) (by decide) dX11_init_14 (z := 2) rfl (fun H h => ?_)
  refine r_dup C.1 (rfv_cat _ _) dX11_init_17 ?_
  refine rr_callN C hG h (K := []) (ci_X7_2 l D b) mi_X7_init in_X7_init rfl kl_11_15 (by decide) rfl rfl (lvh_sz hl) (by decide) (Nat.le_of_ble_eq_true rfl) (by decide) dX11_init_18 (fun H locs h => ?_)
  refine rr_putF C h ok11 kk_0 (by decide) 2 (by decide) kf_11_16 (by decide) rfl (z := 2) rfl (nar_ref _ _) (fit_ref _ _) dX11_init_21 (jz := 2) rfl (fun H locs h => ?_)
  refine r_aload_n C.1 hl (kx := 0) rfl rfl dX11_init_24 ?_
  refine r_iconst C.1 dX11_init_25 ?_
  refine rr_put C h ok11 kk_0 (by decide) 4 (by decide) kf_11_20 (by decide) (z := (-1)) rfl rfl rfl dX11_init_26 (jz := 4) rfl (fun H locs h => ?_)
  refine r_aload_n C.1 hl (kx := 0) rfl rfl dX11_init_29 ?_
  refine r_iconst C.1 dX11_init_30 ?_
  refine rr_anew C h (g := 4) (N := 4) (by decide) rfl (by decide) (by decide) (kk_5).2 kd_11_24 C.2.2.1 (by decide) (by decide) dX11_init_31 (z := 5) rfl (fun H h => ?_)
  refine rr_putF C h ok11 kk_0 (by decide) 5 (by decide) kf_11_26 (by decide) rfl (z := 5) rfl (nar_arr _ _) (fit_arr _ _) dX11_init_34 (jz := 5) rfl (fun H locs h => ?_)
  refine r_iconst C.1 dX11_init_37 ?_
  refine r_istore_n C.1 hl (by decide) (L' := [(1, 0, 0), (0, 2, 0)]) rfl rfl dX11_init_38 (fun ls hl => ?_)
  refine r_iload_n C.1 hl (kx := 0) rfl rfl dX11_init_39 ?_
  refine r_aload_n C.1 hl (kx := 1) rfl rfl dX11_init_40 ?_
  refine rr_get C h ok11 kk_0 (by decide) 5 (by decide) kf_11_26 (z := 5) rfl rfl dX11_init_41 ?_
  refine rr_alen C h (g := 4) (N := 4) (x := 4) (by decide) rfl (by decide) kk_5 (by decide) (by decide) dX11_init_44 ?_
  refine r_icmp_ge C.1 (tgt := 67) (by decide) dX11_init_45 (fun h9 => absurd h9 (by decide)) (fun _ => ?_)
  refine r_aload_n C.1 hl (kx := 1) rfl rfl dX11_init_48 ?_
  refine rr_get C h ok11 kk_0 (by decide) 5 (by decide) kf_11_26 (z := 5) rfl rfl dX11_init_49 ?_
  refine r_iload_n C.1 hl (kx := 0) rfl rfl dX11_init_52 ?_
  refine rr_new C h ok3 (kk_6).2 df_3 kd_11_24 kn_3 ki_RX3 (by decide) (by decide) dX11_init_53 (z := 6) rfl (fun H h => ?_)
  refine r_dup C.1 (rfv_cat _ _) dX11_init_56 ?_
  refine rr_callI C hG h (K := []) (ci_X3_6 l D b) mi_X3_init in_X3_init rfl kl_11_30 (by decide) rfl rfl (lvh_sz hl) (by decide) (Nat.le_of_ble_eq_true rfl) (by decide) dX11_init_57 (fun H locs h => ?_)
  refine rr_aast C h ok3 (g := 4) (N := 4) (by decide) rfl (by decide) kk_5 (by decide) kk_6 (by decide) (by decide) dX11_init_60 (jz := 0) (by decide) (fun H locs h => ?_)
  refine r_iinc C.1 hl (kx := 0) rfl (by decide) (L' := [(1, 0, 1), (0, 2, 0)]) rfl dX11_init_61 (fun ls hl => ?_)
  refine r_goto C.1 (tgt := 39) (by decide) dX11_init_64 ?_
  refine r_iload_n C.1 hl (kx := 0) rfl rfl dX11_init_39 ?_
  refine r_aload_n C.1 hl (kx := 1) rfl rfl dX11_init_40 ?_
  refine rr_get C h ok11 kk_0 (by decide) 5 (by decide) kf_11_26 (z := 5) rfl rfl dX11_init_41 ?_
  refine rr_alen C h (g := 4) (N := 4) (x := 4) (by decide) rfl (by decide) kk_5 (by decide) (by decide) dX11_init_44 ?_
  refine r_icmp_ge C.1 (tgt := 67) (by decide) dX11_init_45 (fun h9 => absurd h9 (by decide)) (fun _ => ?_)
  refine r_aload_n C.1 hl (kx := 1) rfl rfl dX11_init_48 ?_
  refine rr_get C h ok11 kk_0 (by decide) 5 (by decide) kf_11_26 (z := 5) rfl rfl dX11_init_49 ?_
  refine r_iload_n C.1 hl (kx := 0) rfl rfl dX11_init_52 ?_
  refine rr_new C h ok3 (kk_19).2 df_3 kd_11_24 kn_3 ki_RX3 (by decide) (by decide) dX11_init_53 (z := 19) rfl (fun H h => ?_)
  refine r_dup C.1 (rfv_cat _ _) dX11_init_56 ?_
  refine rr_callI C hG h (K := []) (ci_X3_19 l D b) mi_X3_init in_X3_init rfl kl_11_30 (by decide) rfl rfl (lvh_sz hl) (by decide) (Nat.le_of_ble_eq_true rfl) (by decide) dX11_init_57 (fun H locs h => ?_)
  refine rr_aast C h ok3 (g := 4) (N := 4) (by decide) rfl (by decide) kk_5 (by decide) kk_19 (by decide) (by decide) dX11_init_60 (jz := 1) (by decide) (fun H locs h => ?_)
  refine r_iinc C.1 hl (kx := 0) rfl (by decide) (L' := [(1, 0, 2), (0, 2, 0)]) rfl dX11_init_61 (fun ls hl => ?_)
  refine r_goto C.1 (tgt := 39) (by decide) dX11_init_64 ?_
  refine r_iload_n C.1 hl (kx := 0) rfl rfl dX11_init_39 ?_
  refine r_aload_n C.1 hl (kx := 1) rfl rfl dX11_init_40 ?_
  refine rr_get C h ok11 kk_0 (by decide) 5 (by decide) kf_11_26 (z := 5) rfl rfl dX11_init_41 ?_
  refine rr_alen C h (g := 4) (N := 4) (x := 4) (by decide) rfl (by decide) kk_5 (by decide) (by decide) dX11_init_44 ?_
  refine r_icmp_ge C.1 (tgt := 67) (by decide) dX11_init_45 (fun h9 => absurd h9 (by decide)) (fun _ => ?_)
  refine r_aload_n C.1 hl (kx := 1) rfl rfl dX11_init_48 ?_
  refine rr_get C h ok11 kk_0 (by decide) 5 (by decide) kf_11_26 (z := 5) rfl rfl dX11_init_49 ?_
  refine r_iload_n C.1 hl (kx := 0) rfl rfl dX11_init_52 ?_
  refine rr_new C h ok3 (kk_32).2 df_3 kd_11_24 kn_3 ki_RX3 (by decide) (by decide) dX11_init_53 (z := 32) rfl (fun H h => ?_)
  refine r_dup C.1 (rfv_cat _ _) dX11_init_56 ?_
  refine rr_callI C hG h (K := []) (ci_X3_32 l D b) mi_X3_init in_X3_init rfl kl_11_30 (by decide) rfl rfl (lvh_sz hl) (by decide) (Nat.le_of_ble_eq_true rfl) (by decide) dX11_init_57 (fun H locs h => ?_)
  refine rr_aast C h ok3 (g := 4) (N := 4) (by decide) rfl (by decide) kk_5 (by decide) kk_32 (by decide) (by decide) dX11_init_60 (jz := 2) (by decide) (fun H locs h => ?_)
  refine r_iinc C.1 hl (kx := 0) rfl (by decide) (L' := [(1, 0, 3), (0, 2, 0)]) rfl dX11_init_61 (fun ls hl => ?_)
  refine r_goto C.1 (tgt := 39) (by decide) dX11_init_64 ?_
  refine r_iload_n C.1 hl (kx := 0) rfl rfl dX11_init_39 ?_
  refine r_aload_n C.1 hl (kx := 1) rfl rfl dX11_init_40 ?_
  refine rr_get C h ok11 kk_0 (by decide) 5 (by decide) kf_11_26 (z := 5) rfl rfl dX11_init_41 ?_
  refine rr_alen C h (g := 4) (N := 4) (x := 4) (by decide) rfl (by decide) kk_5 (by decide) (by decide) dX11_init_44 ?_
  refine r_icmp_ge C.1 (tgt := 67) (by decide) dX11_init_45 (fun h9 => absurd h9 (by decide)) (fun _ => ?_)
  refine r_aload_n C.1 hl (kx := 1) rfl rfl dX11_init_48 ?_
  refine rr_get C h ok11 kk_0 (by decide) 5 (by decide) kf_11_26 (z := 5) rfl rfl dX11_init_49 ?_
  refine r_iload_n C.1 hl (kx := 0) rfl rfl dX11_init_52 ?_
  refine rr_new C h ok3 (kk_45).2 df_3 kd_11_24 kn_3 ki_RX3 (by decide) (by decide) dX11_init_53 (z := 45) rfl (fun H h => ?_)
  refine r_dup C.1 (rfv_cat _ _) dX11_init_56 ?_
  refine rr_callI C hG h (K := []) (ci_X3_45 l D b) mi_X3_init in_X3_init rfl kl_11_30 (by decide) rfl rfl (lvh_sz hl) (by decide) (Nat.le_of_ble_eq_true rfl) (by decide) dX11_init_57 (fun H locs h => ?_)
  refine rr_aast C h ok3 (g := 4) (N := 4) (by decide) rfl (by decide) kk_5 (by decide) kk_45 (by decide) (by decide) dX11_init_60 (jz := 3) (by decide) (fun H locs h => ?_)
  refine r_iinc C.1 hl (kx := 0) rfl (by decide) (L' := [(1, 0, 4), (0, 2, 0)]) rfl dX11_init_61 (fun ls hl => ?_)
  refine r_goto C.1 (tgt := 39) (by decide) dX11_init_64 ?_
  refine r_iload_n C.1 hl (kx := 0) rfl rfl dX11_init_39 ?_
  refine r_aload_n C.1 hl (kx := 1) rfl rfl dX11_init_40 ?_
  refine rr_get C h ok11 kk_0 (by decide) 5 (by decide) kf_11_26 (z := 5) rfl rfl dX11_init_41 ?_
  refine rr_alen C h (g := 4) (N := 4) (x := 4) (by decide) rfl (by decide) kk_5 (by decide) (by decide) dX11_init_44 ?_
  refine r_icmp_ge C.1 (tgt := 67) (by decide) dX11_init_45 (fun _ => ?_) (fun h9 => absurd (by decide) h9)
  refine r_aload_n C.1 hl (kx := 1) rfl rfl dX11_init_67 ?_
  refine rr_new C h ok0 (kk_58).2 df_0 kd_11_31 kn_0 ki_RX0 (by decide) (by decide) dX11_init_68 (z := 58) rfl (fun H h => ?_)
  refine r_dup C.1 (rfv_cat _ _) dX11_init_71 ?_
  refine r_aload_n C.1 hl (kx := 1) rfl rfl dX11_init_72 ?_
  refine rr_get C h ok11 kk_0 (by decide) 5 (by decide) kf_11_26 (z := 5) rfl rfl dX11_init_73 ?_
  refine r_iconst C.1 dX11_init_76 ?_
  refine rr_aald C h (g := 4) (N := 4) (z := 6) (by decide) rfl (by decide) kk_5 (by decide) (by decide) rfl dX11_init_77 ?_
  refine rr_callI C hG h (K := [(2, 6)]) (ci_X0_58 l D b) mi_X0_init in_X0_init rfl kl_11_33 (by decide) rfl rfl (lvh_sz hl) (by decide) (Nat.le_of_ble_eq_true rfl) (by decide) dX11_init_78 (fun H locs h => ?_)
  refine rr_putF C h ok11 kk_0 (by decide) 6 (by decide) kf_11_36 (by decide) rfl (z := 58) rfl (nar_ref _ _) (fit_ref _ _) dX11_init_81 (jz := 6) rfl (fun H locs h => ?_)
  refine r_aload_n C.1 hl (kx := 1) rfl rfl dX11_init_84 ?_
  refine rr_new C h ok0 (kk_60).2 df_0 kd_11_31 kn_0 ki_RX0 (by decide) (by decide) dX11_init_85 (z := 60) rfl (fun H h => ?_)
  refine r_dup C.1 (rfv_cat _ _) dX11_init_88 ?_
  refine r_aload_n C.1 hl (kx := 1) rfl rfl dX11_init_89 ?_
  refine rr_get C h ok11 kk_0 (by decide) 5 (by decide) kf_11_26 (z := 5) rfl rfl dX11_init_90 ?_
  refine r_iconst C.1 dX11_init_93 ?_
  refine rr_aald C h (g := 4) (N := 4) (z := 6) (by decide) rfl (by decide) kk_5 (by decide) (by decide) rfl dX11_init_94 ?_
  refine rr_callI C hG h (K := [(2, 6)]) (ci_X0_60 l D b) mi_X0_init in_X0_init rfl kl_11_33 (by decide) rfl rfl (lvh_sz hl) (by decide) (Nat.le_of_ble_eq_true rfl) (by decide) dX11_init_95 (fun H locs h => ?_)
  refine rr_putF C h ok11 kk_0 (by decide) 7 (by decide) kf_11_40 (by decide) rfl (z := 60) rfl (nar_ref _ _) (fit_ref _ _) dX11_init_98 (jz := 7) rfl (fun H locs h => ?_)
  refine r_aload_n C.1 hl (kx := 1) rfl rfl dX11_init_101 ?_
  refine rr_new C h ok2 (kk_62).2 df_2 kd_11_43 kn_2 ki_RX2 (by decide) (by decide) dX11_init_102 (z := 62) rfl (fun H h => ?_)
  refine r_dup C.1 (rfv_cat _ _) dX11_init_105 ?_
  refine r_aload_n C.1 hl (kx := 1) rfl rfl dX11_init_106 ?_
  refine rr_get C h ok11 kk_0 (by decide) 5 (by decide) kf_11_26 (z := 5) rfl rfl dX11_init_107 ?_
  refine r_iconst C.1 dX11_init_110 ?_
  refine rr_aald C h (g := 4) (N := 4) (z := 6) (by decide) rfl (by decide) kk_5 (by decide) (by decide) rfl dX11_init_111 ?_
  refine rr_callI C hG h (K := [(2, 6)]) (ci_X2_62 l D b) mi_X2_init in_X2_init rfl kl_11_45 (by decide) rfl rfl (lvh_sz hl) (by decide) (Nat.le_of_ble_eq_true rfl) (by decide) dX11_init_112 (fun H locs h => ?_)
  refine rr_putF C h ok11 kk_0 (by decide) 8 (by decide) kf_11_46 (by decide) rfl (z := 62) rfl (nar_ref _ _) (fit_ref _ _) dX11_init_115 (jz := 8) rfl (fun H locs h => ?_)
  refine r_aload_n C.1 hl (kx := 1) rfl rfl dX11_init_118 ?_
  refine r_iconst C.1 dX11_init_119 ?_
  refine rr_anew C h (g := 5) (N := 2) (by decide) rfl (by decide) (by decide) (kk_84).2 kd_11_31 C.2.2.2.1 (by decide) (by decide) dX11_init_120 (z := 84) rfl (fun H h => ?_)
  refine rr_putF C h ok11 kk_0 (by decide) 9 (by decide) kf_11_50 (by decide) rfl (z := 84) rfl (nar_arr _ _) (fit_arr _ _) dX11_init_123 (jz := 9) rfl (fun H locs h => ?_)
  refine r_iconst C.1 dX11_init_126 ?_
  refine r_istore_n C.1 hl (by decide) (L' := [(1, 0, 0), (0, 2, 0)]) rfl rfl dX11_init_127 (fun ls hl => ?_)
  refine r_iload_n C.1 hl (kx := 0) rfl rfl dX11_init_128 ?_
  refine r_aload_n C.1 hl (kx := 1) rfl rfl dX11_init_129 ?_
  refine rr_get C h ok11 kk_0 (by decide) 9 (by decide) kf_11_50 (z := 84) rfl rfl dX11_init_130 ?_
  refine rr_alen C h (g := 5) (N := 2) (x := 2) (by decide) rfl (by decide) kk_84 (by decide) (by decide) dX11_init_133 ?_
  refine r_icmp_ge C.1 (tgt := 162) (by decide) dX11_init_134 (fun h9 => absurd h9 (by decide)) (fun _ => ?_)
  refine r_aload_n C.1 hl (kx := 1) rfl rfl dX11_init_137 ?_
  refine rr_get C h ok11 kk_0 (by decide) 9 (by decide) kf_11_50 (z := 84) rfl rfl dX11_init_138 ?_
  refine r_iload_n C.1 hl (kx := 0) rfl rfl dX11_init_141 ?_
  refine rr_new C h ok0 (kk_85).2 df_0 kd_11_31 kn_0 ki_RX0 (by decide) (by decide) dX11_init_142 (z := 85) rfl (fun H h => ?_)
  refine r_dup C.1 (rfv_cat _ _) dX11_init_145 ?_
  refine r_aload_n C.1 hl (kx := 1) rfl rfl dX11_init_146 ?_
  refine rr_get C h ok11 kk_0 (by decide) 5 (by decide) kf_11_26 (z := 5) rfl rfl dX11_init_147 ?_
  refine r_iconst C.1 dX11_init_150 ?_
  refine rr_aald C h (g := 4) (N := 4) (z := 6) (by decide) rfl (by decide) kk_5 (by decide) (by decide) rfl dX11_init_151 ?_
  refine rr_callI C hG h (K := [(2, 6)]) (ci_X0_85 l D b) mi_X0_init in_X0_init rfl kl_11_33 (by decide) rfl rfl (lvh_sz hl) (by decide) (Nat.le_of_ble_eq_true rfl) (by decide) dX11_init_152 (fun H locs h => ?_)
  refine rr_aast C h ok0 (g := 5) (N := 2) (by decide) rfl (by decide) kk_84 (by decide) kk_85 (by decide) (by decide) dX11_init_155 (jz := 0) (by decide) (fun H locs h => ?_)
  refine r_iinc C.1 hl (kx := 0) rfl (by decide) (L' := [(1, 0, 1), (0, 2, 0)]) rfl dX11_init_156 (fun ls hl => ?_)
  refine r_goto C.1 (tgt := 128) (by decide) dX11_init_159 ?_
  refine r_iload_n C.1 hl (kx := 0) rfl rfl dX11_init_128 ?_
  refine r_aload_n C.1 hl (kx := 1) rfl rfl dX11_init_129 ?_
  refine rr_get C h ok11 kk_0 (by decide) 9 (by decide) kf_11_50 (z := 84) rfl rfl dX11_init_130 ?_
  refine rr_alen C h (g := 5) (N := 2) (x := 2) (by decide) rfl (by decide) kk_84 (by decide) (by decide) dX11_init_133 ?_
  refine r_icmp_ge C.1 (tgt := 162) (by decide) dX11_init_134 (fun h9 => absurd h9 (by decide)) (fun _ => ?_)
  refine r_aload_n C.1 hl (kx := 1) rfl rfl dX11_init_137 ?_
  refine rr_get C h ok11 kk_0 (by decide) 9 (by decide) kf_11_50 (z := 84) rfl rfl dX11_init_138 ?_
  refine r_iload_n C.1 hl (kx := 0) rfl rfl dX11_init_141 ?_
  refine rr_new C h ok0 (kk_87).2 df_0 kd_11_31 kn_0 ki_RX0 (by decide) (by decide) dX11_init_142 (z := 87) rfl (fun H h => ?_)
  refine r_dup C.1 (rfv_cat _ _) dX11_init_145 ?_
  refine r_aload_n C.1 hl (kx := 1) rfl rfl dX11_init_146 ?_
  refine rr_get C h ok11 kk_0 (by decide) 5 (by decide) kf_11_26 (z := 5) rfl rfl dX11_init_147 ?_
  refine r_iconst C.1 dX11_init_150 ?_
  refine rr_aald C h (g := 4) (N := 4) (z := 6) (by decide) rfl (by decide) kk_5 (by decide) (by decide) rfl dX11_init_151 ?_
  refine rr_callI C hG h (K := [(2, 6)]) (ci_X0_87 l D b) mi_X0_init in_X0_init rfl kl_11_33 (by decide) rfl rfl (lvh_sz hl) (by decide) (Nat.le_of_ble_eq_true rfl) (by decide) dX11_init_152 (fun H locs h => ?_)
  refine rr_aast C h ok0 (g := 5) (N := 2) (by decide) rfl (by decide) kk_84 (by decide) kk_87 (by decide) (by decide) dX11_init_155 (jz := 1) (by decide) (fun H locs h => ?_)
  refine r_iinc C.1 hl (kx := 0) rfl (by decide) (L' := [(1, 0, 2), (0, 2, 0)]) rfl dX11_init_156 (fun ls hl => ?_)
  refine r_goto C.1 (tgt := 128) (by decide) dX11_init_159 ?_
  refine r_iload_n C.1 hl (kx := 0) rfl rfl dX11_init_128 ?_
  refine r_aload_n C.1 hl (kx := 1) rfl rfl dX11_init_129 ?_
  refine rr_get C h ok11 kk_0 (by decide) 9 (by decide) kf_11_50 (z := 84) rfl rfl dX11_init_130 ?_
  refine rr_alen C h (g := 5) (N := 2) (x := 2) (by decide) rfl (by decide) kk_84 (by decide) (by decide) dX11_init_133 ?_
  refine r_icmp_ge C.1 (tgt := 162) (by decide) dX11_init_134 (fun _ => ?_) (fun h9 => absurd (by decide) h9)
  refine r_aload_n C.1 hl (kx := 1) rfl rfl dX11_init_162 ?_
  refine r_iconst C.1 dX11_init_163 ?_
  refine rr_anew C h (g := 6) (N := 4) (by decide) rfl (by decide) (by decide) (kk_89).2 kd_11_54 C.2.2.2.2 (by decide) (by decide) dX11_init_164 (z := 89) rfl (fun H h => ?_)
  refine rr_putF C h ok11 kk_0 (by decide) 11 (by decide) kf_11_56 (by decide) rfl (z := 89) rfl (nar_arr _ _) (fit_arr _ _) dX11_init_167 (jz := 11) rfl (fun H locs h => ?_)
  refine r_iconst C.1 dX11_init_170 ?_
  refine r_istore_n C.1 hl (by decide) (L' := [(1, 0, 0), (0, 2, 0)]) rfl rfl dX11_init_171 (fun ls hl => ?_)
  refine r_iload_n C.1 hl (kx := 0) rfl rfl dX11_init_172 ?_
  refine r_aload_n C.1 hl (kx := 1) rfl rfl dX11_init_173 ?_
  refine rr_get C h ok11 kk_0 (by decide) 11 (by decide) kf_11_56 (z := 89) rfl rfl dX11_init_174 ?_
  refine rr_alen C h (g := 6) (N := 4) (x := 4) (by decide) rfl (by decide) kk_89 (by decide) (by decide) dX11_init_177 ?_
  refine r_icmp_ge C.1 (tgt := 200) (by decide) dX11_init_178 (fun h9 => absurd h9 (by decide)) (fun _ => ?_)
  refine r_aload_n C.1 hl (kx := 1) rfl rfl dX11_init_181 ?_
  refine rr_get C h ok11 kk_0 (by decide) 11 (by decide) kf_11_56 (z := 89) rfl rfl dX11_init_182 ?_
  refine r_iload_n C.1 hl (kx := 0) rfl rfl dX11_init_185 ?_
  refine rr_new C h ok10 (kk_90).2 df_10 kd_11_54 kn_10 ki_RX10 (by decide) (by decide) dX11_init_186 (z := 90) rfl (fun H h => ?_)
  refine r_dup C.1 (rfv_cat _ _) dX11_init_189 ?_
  refine rr_callN C hG h (K := []) (ci_X10_90 l D b) mi_X10_init in_X10_init rfl kl_11_60 (by decide) rfl rfl (lvh_sz hl) (by decide) (Nat.le_of_ble_eq_true rfl) (by decide) dX11_init_190 (fun H locs h => ?_)
  refine rr_aast C h ok10 (g := 6) (N := 4) (by decide) rfl (by decide) kk_89 (by decide) kk_90 (by decide) (by decide) dX11_init_193 (jz := 0) (by decide) (fun H locs h => ?_)
  refine r_iinc C.1 hl (kx := 0) rfl (by decide) (L' := [(1, 0, 1), (0, 2, 0)]) rfl dX11_init_194 (fun ls hl => ?_)
  refine r_goto C.1 (tgt := 172) (by decide) dX11_init_197 ?_
  refine r_iload_n C.1 hl (kx := 0) rfl rfl dX11_init_172 ?_
  refine r_aload_n C.1 hl (kx := 1) rfl rfl dX11_init_173 ?_
  refine rr_get C h ok11 kk_0 (by decide) 11 (by decide) kf_11_56 (z := 89) rfl rfl dX11_init_174 ?_
  refine rr_alen C h (g := 6) (N := 4) (x := 4) (by decide) rfl (by decide) kk_89 (by decide) (by decide) dX11_init_177 ?_
  refine r_icmp_ge C.1 (tgt := 200) (by decide) dX11_init_178 (fun h9 => absurd h9 (by decide)) (fun _ => ?_)
  refine r_aload_n C.1 hl (kx := 1) rfl rfl dX11_init_181 ?_
  refine rr_get C h ok11 kk_0 (by decide) 11 (by decide) kf_11_56 (z := 89) rfl rfl dX11_init_182 ?_
  refine r_iload_n C.1 hl (kx := 0) rfl rfl dX11_init_185 ?_
  refine rr_new C h ok10 (kk_92).2 df_10 kd_11_54 kn_10 ki_RX10 (by decide) (by decide) dX11_init_186 (z := 92) rfl (fun H h => ?_)
  refine r_dup C.1 (rfv_cat _ _) dX11_init_189 ?_
  refine rr_callN C hG h (K := []) (ci_X10_92 l D b) mi_X10_init in_X10_init rfl kl_11_60 (by decide) rfl rfl (lvh_sz hl) (by decide) (Nat.le_of_ble_eq_true rfl) (by decide) dX11_init_190 (fun H locs h => ?_)
  refine rr_aast C h ok10 (g := 6) (N := 4) (by decide) rfl (by decide) kk_89 (by decide) kk_92 (by decide) (by decide) dX11_init_193 (jz := 1) (by decide) (fun H locs h => ?_)
  refine r_iinc C.1 hl (kx := 0) rfl (by decide) (L' := [(1, 0, 2), (0, 2, 0)]) rfl dX11_init_194 (fun ls hl => ?_)
  refine r_goto C.1 (tgt := 172) (by decide) dX11_init_197 ?_
  refine r_iload_n C.1 hl (kx := 0) rfl rfl dX11_init_172 ?_
  refine r_aload_n C.1 hl (kx := 1) rfl rfl dX11_init_173 ?_
  refine rr_get C h ok11 kk_0 (by decide) 11 (by decide) kf_11_56 (z := 89) rfl rfl dX11_init_174 ?_
  refine rr_alen C h (g := 6) (N := 4) (x := 4) (by decide) rfl (by decide) kk_89 (by decide) (by decide) dX11_init_177 ?_
  refine r_icmp_ge C.1 (tgt := 200) (by decide) dX11_init_178 (fun h9 => absurd h9 (by decide)) (fun _ => ?_)
  refine r_aload_n C.1 hl (kx := 1) rfl rfl dX11_init_181 ?_
  refine rr_get C h ok11 kk_0 (by decide) 11 (by decide) kf_11_56 (z := 89) rfl rfl dX11_init_182 ?_
  refine r_iload_n C.1 hl (kx := 0) rfl rfl dX11_init_185 ?_
  refine rr_new C h ok10 (kk_94).2 df_10 kd_11_54 kn_10 ki_RX10 (by decide) (by decide) dX11_init_186 (z := 94) rfl (fun H h => ?_)
  refine r_dup C.1 (rfv_cat _ _) dX11_init_189 ?_
  refine rr_callN C hG h (K := []) (ci_X10_94 l D b) mi_X10_init in_X10_init rfl kl_11_60 (by decide) rfl rfl (lvh_sz hl) (by decide) (Nat.le_of_ble_eq_true rfl) (by decide) dX11_init_190 (fun H locs h => ?_)
  refine rr_aast C h ok10 (g := 6) (N := 4) (by decide) rfl (by decide) kk_89 (by decide) kk_94 (by decide) (by decide) dX11_init_193 (jz := 2) (by decide) (fun H locs h => ?_)
  refine r_iinc C.1 hl (kx := 0) rfl (by decide) (L' := [(1, 0, 3), (0, 2, 0)]) rfl dX11_init_194 (fun ls hl => ?_)
  refine r_goto C.1 (tgt := 172) (by decide) dX11_init_197 ?_
  refine r_iload_n C.1 hl (kx := 0) rfl rfl dX11_init_172 ?_
  refine r_aload_n C.1 hl (kx := 1) rfl rfl dX11_init_173 ?_
  refine rr_get C h ok11 kk_0 (by decide) 11 (by decide) kf_11_56 (z := 89) rfl rfl dX11_init_174 ?_
  refine rr_alen C h (g := 6) (N := 4) (x := 4) (by decide) rfl (by decide) kk_89 (by decide) (by decide) dX11_init_177 ?_
  refine r_icmp_ge C.1 (tgt := 200) (by decide) dX11_init_178 (fun h9 => absurd h9 (by decide)) (fun _ => ?_)
  refine r_aload_n C.1 hl (kx := 1) rfl rfl dX11_init_181 ?_
  refine rr_get C h ok11 kk_0 (by decide) 11 (by decide) kf_11_56 (z := 89) rfl rfl dX11_init_182 ?_
  refine r_iload_n C.1 hl (kx := 0) rfl rfl dX11_init_185 ?_
  refine rr_new C h ok10 (kk_96).2 df_10 kd_11_54 kn_10 ki_RX10 (by decide) (by decide) dX11_init_186 (z := 96) rfl (fun H h => ?_)
  refine r_dup C.1 (rfv_cat _ _) dX11_init_189 ?_
  refine rr_callN C hG h (K := []) (ci_X10_96 l D b) mi_X10_init in_X10_init rfl kl_11_60 (by decide) rfl rfl (lvh_sz hl) (by decide) (Nat.le_of_ble_eq_true rfl) (by decide) dX11_init_190 (fun H locs h => ?_)
  refine rr_aast C h ok10 (g := 6) (N := 4) (by decide) rfl (by decide) kk_89 (by decide) kk_96 (by decide) (by decide) dX11_init_193 (jz := 3) (by decide) (fun H locs h => ?_)
  refine r_iinc C.1 hl (kx := 0) rfl (by decide) (L' := [(1, 0, 4), (0, 2, 0)]) rfl dX11_init_194 (fun ls hl => ?_)
  refine r_goto C.1 (tgt := 172) (by decide) dX11_init_197 ?_
  refine r_iload_n C.1 hl (kx := 0) rfl rfl dX11_init_172 ?_
  refine r_aload_n C.1 hl (kx := 1) rfl rfl dX11_init_173 ?_
  refine rr_get C h ok11 kk_0 (by decide) 11 (by decide) kf_11_56 (z := 89) rfl rfl dX11_init_174 ?_
  refine rr_alen C h (g := 6) (N := 4) (x := 4) (by decide) rfl (by decide) kk_89 (by decide) (by decide) dX11_init_177 ?_
  refine r_icmp_ge C.1 (tgt := 200) (by decide) dX11_init_178 (fun _ => ?_) (fun h9 => absurd (by decide) h9)
  refine r_aload_n C.1 hl (kx := 1) rfl rfl dX11_init_200 ?_
  refine rr_new C h ok6 (kk_98).2 df_6 kd_11_61 kn_6 ki_RX6 (by decide) (by decide) dX11_init_201 (z := 98) rfl (fun H h => ?_)
  refine r_dup C.1 (rfv_cat _ _) dX11_init_204 ?_
  refine rr_callN C hG h (K := []) (ci_X6_98 l D b) mi_X6_init in_X6_init rfl kl_11_63 (by decide) rfl rfl (lvh_sz hl) (by decide) (Nat.le_of_ble_eq_true rfl) (by decide) dX11_init_205 (fun H locs h => ?_)
  refine rr_putF C h ok11 kk_0 (by decide) 12 (by decide) kf_11_64 (by decide) rfl (z := 98) rfl (nar_ref _ _) (fit_ref _ _) dX11_init_208 (jz := 12) rfl (fun H locs h => ?_)
  refine r_aload_n C.1 hl (kx := 1) rfl rfl dX11_init_211 ?_
  refine rr_new C h ok8 (kk_101).2 df_8 kd_11_68 kn_8 ki_RX8 (by decide) (by decide) dX11_init_212 (z := 101) rfl (fun H h => ?_)
  refine r_dup C.1 (rfv_cat _ _) dX11_init_215 ?_
  refine rr_callN C hG h (K := []) (ci_X8_101 l D b) mi_X8_init in_X8_init rfl kl_11_70 (by decide) rfl rfl (lvh_sz hl) (by decide) (Nat.le_of_ble_eq_true rfl) (by decide) dX11_init_216 (fun H locs h => ?_)
  refine rr_putF C h ok11 kk_0 (by decide) 13 (by decide) kf_11_71 (by decide) rfl (z := 101) rfl (nar_ref _ _) (fit_ref _ _) dX11_init_219 (jz := 13) rfl (fun H locs h => ?_)
  refine r_aload_n C.1 hl (kx := 1) rfl rfl dX11_init_222 ?_
  refine rr_new C h ok1 (kk_106).2 df_1 kd_11_75 kn_1 ki_RX1 (by decide) (by decide) dX11_init_223 (z := 106) rfl (fun H h => ?_)
  refine r_dup C.1 (rfv_cat _ _) dX11_init_226 ?_
  refine rr_callN C hG h (K := []) (ci_X1_106 l D b) mi_X1_init in_X1_init rfl kl_11_77 (by decide) rfl rfl (lvh_sz hl) (by decide) (Nat.le_of_ble_eq_true rfl) (by decide) dX11_init_227 (fun H locs h => ?_)
  refine rr_putF C h ok11 kk_0 (by decide) 14 (by decide) kf_11_78 (by decide) rfl (z := 106) rfl (nar_ref _ _) (fit_ref _ _) dX11_init_230 (jz := 14) rfl (fun H locs h => ?_)
  refine r_aload_n C.1 hl (kx := 1) rfl rfl dX11_init_233 ?_
  refine rr_new C h ok5 (kk_108).2 df_5 kd_11_82 kn_5 ki_RX5 (by decide) (by decide) dX11_init_234 (z := 108) rfl (fun H h => ?_)
  refine r_dup C.1 (rfv_cat _ _) dX11_init_237 ?_
  refine rr_callN C hG h (K := []) (ci_X5_108 l D b) mi_X5_init in_X5_init rfl kl_11_84 (by decide) rfl rfl (lvh_sz hl) (by decide) (Nat.le_of_ble_eq_true rfl) (by decide) dX11_init_238 (fun H locs h => ?_)
  refine rr_putF C h ok11 kk_0 (by decide) 15 (by decide) kf_11_85 (by decide) rfl (z := 108) rfl (nar_ref _ _) (fit_ref _ _) dX11_init_241 (jz := 15) rfl (fun H locs h => ?_)
  exact rr_vret C h dX11_init_244
theorem kl_12_7 : Cond.methodLink RX12 7 objectInit ∈ gT := gT_in (inT6 (List.mem_of_getElem? (i := 25) rfl)) rfl
def i_X12_111 (ν : Mem) : Mem := (ms (ms (ms (ms (ms (ms (ms (ms (ms (ms (ms (ms (ms (ms (ms (ms (ms (ms (ms (ms (ms (ms ν 111 1 112) 111 2 113) 111 3 114) 111 4 115) 111 14 (-1)) 111 16 116) 111 17 117) 111 18 118) 111 21 119) 111 22 120) 111 23 121) 111 25 122) 111 26 123) 111 27 124) 111 28 125) 126 0 (-1)) 126 1 (-1)) 126 2 (-1)) 126 3 (-1)) 111 29 126) 111 30 127) 111 31 128)
-- X12 stops at (169, [(2, 112)])
