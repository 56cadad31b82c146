/-! Typ: ScriptFront.type(JI)Z -/
theorem am_FTyp : am_co 9 = 0 ∧ am_mL 9 = 5 ∧ am_in 9 = false := by decide +kernel
theorem am_qTyp_0 : am_pk 9 0 = some (.iload_n 3) := by decide +kernel
theorem am_qTyp_1 : am_pk 9 1 = some (.iconst 1) := by decide +kernel
theorem am_qTyp_2 : am_pk 9 2 = some (.if_icmp .lt 24) := by decide +kernel
theorem am_qTyp_5 : am_pk 9 5 = some (.iload_n 3) := by decide +kernel
theorem am_qTyp_6 : am_pk 9 6 = some (.bipush 8) := by decide +kernel
theorem am_qTyp_8 : am_pk 9 8 = some (.if_icmp .gt 18) := by decide +kernel
theorem am_qTyp_11 : am_pk 9 11 = some (.aload_n 0) := by decide +kernel
theorem am_qTyp_12 : am_pk 9 12 = some (.getfield 10) := by decide +kernel
theorem am_qf0_10 : am_fl 0 10 = some (0, 0, .object "ScriptFront$Tape", true) := by decide +kernel
theorem am_qTyp_15 : am_pk 9 15 = some (.getfield 74) := by decide +kernel
theorem am_qf0_74 : am_fl 0 74 = some (1, 1, .int, false) := by decide +kernel
theorem am_qTyp_18 : am_pk 9 18 = some (.iload_n 3) := by decide +kernel
theorem am_qTyp_19 : am_pk 9 19 = some (.iadd) := by decide +kernel
theorem am_qTyp_20 : am_pk 9 20 = some (.sipush 480) := by decide +kernel
theorem am_qTyp_23 : am_pk 9 23 = some (.if_icmp .le 5) := by decide +kernel
theorem am_qTyp_26 : am_pk 9 26 = some (.iconst 0) := by decide +kernel
theorem am_qTyp_27 : am_pr 9 27 = some FieldType.boolean := by decide +kernel
theorem am_qTyp_28 : am_pk 9 28 = some (.iload_n 3) := by decide +kernel
theorem am_qTyp_29 : am_pk 9 29 = some (.iconst 1) := by decide +kernel
theorem am_qTyp_30 : am_pk 9 30 = some (.isub) := by decide +kernel
theorem am_qTyp_31 : am_pk 9 31 = some (.istore 4) := by decide +kernel
theorem am_qTyp_33 : am_pk 9 33 = some (.iload 4) := by decide +kernel
theorem am_qTyp_35 : am_pk 9 35 = some (.ifCond .lt 29) := by decide +kernel
theorem am_qTyp_38 : am_pk 9 38 = some (.lload_n 1) := by decide +kernel
theorem am_qTyp_39 : am_pk 9 39 = some (.bipush 8) := by decide +kernel
theorem am_qTyp_41 : am_pk 9 41 = some (.iload 4) := by decide +kernel
theorem am_qTyp_43 : am_pk 9 43 = some (.imul) := by decide +kernel
theorem am_qTyp_44 : am_pk 9 44 = some (.lushr) := by decide +kernel
theorem am_qTyp_45 : am_pk 9 45 = some (.l2i) := by decide +kernel
theorem am_qTyp_46 : am_pk 9 46 = some (.sipush 255) := by decide +kernel
theorem am_qTyp_49 : am_pk 9 49 = some (.iand) := by decide +kernel
theorem am_qTyp_50 : am_pq 9 50 = some (1, 10, 1, 1) := by decide +kernel
theorem am_qTyp_53 : am_pk 9 53 = some (.ifCond .ne 5) := by decide +kernel
theorem am_qTyp_56 : am_pk 9 56 = some (.iconst 0) := by decide +kernel
theorem am_qTyp_57 : am_pr 9 57 = some FieldType.boolean := by decide +kernel
theorem am_qTyp_58 : am_pk 9 58 = some (.iinc 4 (-1)) := by decide +kernel
theorem am_qTyp_61 : am_pk 9 61 = some (.goto (-28)) := by decide +kernel
theorem am_qTyp_64 : am_pk 9 64 = some (.iload_n 3) := by decide +kernel
theorem am_qTyp_65 : am_pk 9 65 = some (.iconst 1) := by decide +kernel
theorem am_qTyp_66 : am_pk 9 66 = some (.isub) := by decide +kernel
theorem am_qTyp_67 : am_pk 9 67 = some (.istore 4) := by decide +kernel
theorem am_qTyp_69 : am_pk 9 69 = some (.iload 4) := by decide +kernel
theorem am_qTyp_71 : am_pk 9 71 = some (.ifCond .lt 28) := by decide +kernel
theorem am_qTyp_74 : am_pk 9 74 = some (.aload_n 0) := by decide +kernel
theorem am_qTyp_75 : am_pk 9 75 = some (.getfield 10) := by decide +kernel
theorem am_qTyp_78 : am_pk 9 78 = some (.lload_n 1) := by decide +kernel
theorem am_qTyp_79 : am_pk 9 79 = some (.bipush 8) := by decide +kernel
theorem am_qTyp_81 : am_pk 9 81 = some (.iload 4) := by decide +kernel
theorem am_qTyp_83 : am_pk 9 83 = some (.imul) := by decide +kernel
theorem am_qTyp_84 : am_pk 9 84 = some (.lushr) := by decide +kernel
theorem am_qTyp_85 : am_pk 9 85 = some (.l2i) := by decide +kernel
theorem am_qTyp_86 : am_pk 9 86 = some (.sipush 255) := by decide +kernel
theorem am_qTyp_89 : am_pk 9 89 = some (.iand) := by decide +kernel
theorem am_qTyp_90 : am_pq 9 90 = some (0, 12, 1, 1) := by decide +kernel
theorem am_qTyp_93 : am_pk 9 93 = some (.iinc 4 (-1)) := by decide +kernel
theorem am_qTyp_96 : am_pk 9 96 = some (.goto (-27)) := by decide +kernel
theorem am_qTyp_99 : am_pk 9 99 = some (.iconst 1) := by decide +kernel
theorem am_qTyp_100 : am_pr 9 100 = some FieldType.boolean := by decide +kernel
/-! isTy: ScriptFront$Tape.isTypable(I)Z -/
theorem am_FisTy : am_co 10 = 1 ∧ am_mL 10 = 1 ∧ am_in 10 = false := by decide +kernel
theorem am_qisTy_0 : am_pk 10 0 = some (.iload_n 0) := by decide +kernel
theorem am_qisTy_1 : am_pk 10 1 = some (.bipush 32) := by decide +kernel
theorem am_qisTy_3 : am_pk 10 3 = some (.if_icmp .lt 9) := by decide +kernel
theorem am_qisTy_6 : am_pk 10 6 = some (.iload_n 0) := by decide +kernel
theorem am_qisTy_7 : am_pk 10 7 = some (.bipush 126) := by decide +kernel
theorem am_qisTy_9 : am_pk 10 9 = some (.if_icmp .le 16) := by decide +kernel
theorem am_qisTy_12 : am_pk 10 12 = some (.iload_n 0) := by decide +kernel
theorem am_qisTy_13 : am_pk 10 13 = some (.bipush 9) := by decide +kernel
theorem am_qisTy_15 : am_pk 10 15 = some (.if_icmp .eq 10) := by decide +kernel
theorem am_qisTy_18 : am_pk 10 18 = some (.iload_n 0) := by decide +kernel
theorem am_qisTy_19 : am_pq 10 19 = some (1, 11, 1, 1) := by decide +kernel
theorem am_qisTy_22 : am_pk 10 22 = some (.ifCond .eq 7) := by decide +kernel
theorem am_qisTy_25 : am_pk 10 25 = some (.iconst 1) := by decide +kernel
theorem am_qisTy_26 : am_pk 10 26 = some (.goto 4) := by decide +kernel
theorem am_qisTy_29 : am_pk 10 29 = some (.iconst 0) := by decide +kernel
theorem am_qisTy_30 : am_pr 10 30 = some FieldType.boolean := by decide +kernel
/-! isLE: ScriptFront$Tape.isLineEnd(I)Z -/
theorem am_FisLE : am_co 11 = 1 ∧ am_mL 11 = 1 ∧ am_in 11 = false := by decide +kernel
theorem am_qisLE_0 : am_pk 11 0 = some (.iload_n 0) := by decide +kernel
theorem am_qisLE_1 : am_pk 11 1 = some (.bipush 10) := by decide +kernel
theorem am_qisLE_3 : am_pk 11 3 = some (.if_icmp .eq 9) := by decide +kernel
theorem am_qisLE_6 : am_pk 11 6 = some (.iload_n 0) := by decide +kernel
theorem am_qisLE_7 : am_pk 11 7 = some (.bipush 13) := by decide +kernel
theorem am_qisLE_9 : am_pk 11 9 = some (.if_icmp .ne 7) := by decide +kernel
theorem am_qisLE_12 : am_pk 11 12 = some (.iconst 1) := by decide +kernel
theorem am_qisLE_13 : am_pk 11 13 = some (.goto 4) := by decide +kernel
theorem am_qisLE_16 : am_pk 11 16 = some (.iconst 0) := by decide +kernel
theorem am_qisLE_17 : am_pr 11 17 = some FieldType.boolean := by decide +kernel
/-! put: ScriptFront$Tape.put(I)V -/
theorem am_Fput : am_co 12 = 1 ∧ am_mL 12 = 2 ∧ am_in 12 = false := by decide +kernel
theorem am_qput_0 : am_pk 12 0 = some (.aload_n 0) := by decide +kernel
theorem am_qput_1 : am_pk 12 1 = some (.getfield 15) := by decide +kernel
theorem am_qf1_15 : am_fl 1 15 = some (1, 1, .int, false) := by decide +kernel
theorem am_qput_4 : am_pk 12 4 = some (.ifCond .lt 34) := by decide +kernel
theorem am_qput_7 : am_pk 12 7 = some (.aload_n 0) := by decide +kernel
theorem am_qput_8 : am_pk 12 8 = some (.getfield 15) := by decide +kernel
theorem am_qput_11 : am_pk 12 11 = some (.sipush 480) := by decide +kernel
theorem am_qput_14 : am_pk 12 14 = some (.if_icmp .ge 24) := by decide +kernel
theorem am_qput_17 : am_pk 12 17 = some (.aload_n 0) := by decide +kernel
theorem am_qput_18 : am_pk 12 18 = some (.getfield 9) := by decide +kernel
theorem am_qf1_9 : am_fl 1 9 = some (1, 0, .array (.char), true) := by decide +kernel
theorem am_qput_21 : am_pk 12 21 = some (.aload_n 0) := by decide +kernel
theorem am_qput_22 : am_pk 12 22 = some (.getfield 15) := by decide +kernel
theorem am_qput_25 : am_pk 12 25 = some (.iload_n 1) := by decide +kernel
theorem am_qput_26 : am_pk 12 26 = some (.i2c) := by decide +kernel
theorem am_qput_27 : am_pk 12 27 = some (.castore) := by decide +kernel
theorem am_qput_28 : am_pk 12 28 = some (.aload_n 0) := by decide +kernel
theorem am_qput_29 : am_pk 12 29 = some (.dup) := by decide +kernel
theorem am_qput_30 : am_pk 12 30 = some (.getfield 15) := by decide +kernel
theorem am_qput_33 : am_pk 12 33 = some (.iconst 1) := by decide +kernel
theorem am_qput_34 : am_pk 12 34 = some (.iadd) := by decide +kernel
theorem am_qput_35 : am_pk 12 35 = some (.putfield 15) := by decide +kernel
theorem am_qput_38 : am_pv 12 38 = true := by decide +kernel
/-! Flt: ScriptFront.fault(I)I -/
theorem am_FFlt : am_co 13 = 0 ∧ am_mL 13 = 2 ∧ am_in 13 = false := by decide +kernel
theorem am_qFlt_0 : am_pk 13 0 = some (.iload_n 1) := by decide +kernel
theorem am_qFlt_1 : am_pk 13 1 = some (.tableswitch 51 0 2 #[27, 35, 43]) := by decide +kernel
theorem am_qFlt_28 : am_pk 13 28 = some (.aload_n 0) := by decide +kernel
theorem am_qFlt_29 : am_pk 13 29 = some (.getfield 19) := by decide +kernel
theorem am_qf0_19 : am_fl 0 19 = some (0, 1, .object "ScriptFront$Flaw", true) := by decide +kernel
theorem am_qFlt_32 : am_pk 13 32 = some (.getfield 114) := by decide +kernel
theorem am_qf0_114 : am_fl 0 114 = some (2, 0, .int, false) := by decide +kernel
theorem am_qFlt_35 : am_pr 13 35 = some FieldType.int := by decide +kernel
theorem am_qFlt_36 : am_pk 13 36 = some (.aload_n 0) := by decide +kernel
theorem am_qFlt_37 : am_pk 13 37 = some (.getfield 19) := by decide +kernel
theorem am_qFlt_40 : am_pk 13 40 = some (.getfield 117) := by decide +kernel
theorem am_qf0_117 : am_fl 0 117 = some (2, 1, .int, false) := by decide +kernel
theorem am_qFlt_43 : am_pr 13 43 = some FieldType.int := by decide +kernel
theorem am_qFlt_44 : am_pk 13 44 = some (.aload_n 0) := by decide +kernel
theorem am_qFlt_45 : am_pk 13 45 = some (.getfield 19) := by decide +kernel
theorem am_qFlt_48 : am_pk 13 48 = some (.getfield 99) := by decide +kernel
theorem am_qf0_99 : am_fl 0 99 = some (2, 2, .int, false) := by decide +kernel
theorem am_qFlt_51 : am_pr 13 51 = some FieldType.int := by decide +kernel
theorem am_qFlt_52 : am_pk 13 52 = some (.iconst (-1)) := by decide +kernel
theorem am_qFlt_53 : am_pr 13 53 = some FieldType.int := by decide +kernel
/-! Mny: ScriptFront.many(I)I -/
theorem am_FMny : am_co 14 = 0 ∧ am_mL 14 = 4 ∧ am_in 14 = false := by decide +kernel
theorem am_qMny_0 : am_pk 14 0 = some (.iconst 0) := by decide +kernel
theorem am_qMny_1 : am_pk 14 1 = some (.istore_n 2) := by decide +kernel
theorem am_qMny_2 : am_pk 14 2 = some (.iconst 0) := by decide +kernel
theorem am_qMny_3 : am_pk 14 3 = some (.istore_n 3) := by decide +kernel
theorem am_qMny_4 : am_pk 14 4 = some (.iload_n 3) := by decide +kernel
theorem am_qMny_5 : am_pk 14 5 = some (.aload_n 0) := by decide +kernel
theorem am_qMny_6 : am_pk 14 6 = some (.getfield 49) := by decide +kernel
theorem am_qf0_49 : am_fl 0 49 = some (0, 6, .object "ScriptFront$Tree", false) := by decide +kernel
theorem am_qMny_9 : am_pk 14 9 = some (.getfield 111) := by decide +kernel
theorem am_qf0_111 : am_fl 0 111 = some (6, 8, .int, false) := by decide +kernel
theorem am_qMny_12 : am_pk 14 12 = some (.if_icmp .ge 24) := by decide +kernel
theorem am_qMny_15 : am_pk 14 15 = some (.aload_n 0) := by decide +kernel
theorem am_qMny_16 : am_pk 14 16 = some (.getfield 49) := by decide +kernel
theorem am_qMny_19 : am_pk 14 19 = some (.iload_n 3) := by decide +kernel
theorem am_qMny_20 : am_pq 14 20 = some (0, 15, 1, 6) := by decide +kernel
theorem am_qMny_23 : am_pk 14 23 = some (.iload_n 1) := by decide +kernel
theorem am_qMny_24 : am_pk 14 24 = some (.if_icmp .ne 6) := by decide +kernel
theorem am_qMny_27 : am_pk 14 27 = some (.iinc 2 1) := by decide +kernel
theorem am_qMny_30 : am_pk 14 30 = some (.iinc 3 1) := by decide +kernel
theorem am_qMny_33 : am_pk 14 33 = some (.goto (-29)) := by decide +kernel
theorem am_qMny_36 : am_pk 14 36 = some (.iload_n 2) := by decide +kernel
theorem am_qMny_37 : am_pr 14 37 = some FieldType.int := by decide +kernel
/-! Prt: ScriptFront.printed(I)I -/
theorem am_FPrt : am_co 17 = 0 ∧ am_mL 17 = 2 ∧ am_in 17 = false := by decide +kernel
theorem am_qPrt_0 : am_pk 17 0 = some (.iload_n 1) := by decide +kernel
theorem am_qPrt_1 : am_pk 17 1 = some (.iconst (-1)) := by decide +kernel
theorem am_qPrt_2 : am_pk 17 2 = some (.if_icmp .ne 13) := by decide +kernel
theorem am_qPrt_5 : am_pk 17 5 = some (.aload_n 0) := by decide +kernel
theorem am_qPrt_6 : am_pk 17 6 = some (.getfield 70) := by decide +kernel
theorem am_qf0_70 : am_fl 0 70 = some (0, 5, .object "ScriptFront$Printer", true) := by decide +kernel
theorem am_qPrt_9 : am_pk 17 9 = some (.getfield 148) := by decide +kernel
theorem am_qf0_148 : am_fl 0 148 = some (8, 6, .int, false) := by decide +kernel
theorem am_qPrt_12 : am_pk 17 12 = some (.goto 11) := by decide +kernel
theorem am_qPrt_15 : am_pk 17 15 = some (.aload_n 0) := by decide +kernel
theorem am_qPrt_16 : am_pk 17 16 = some (.getfield 70) := by decide +kernel
theorem am_qPrt_19 : am_pk 17 19 = some (.iload_n 1) := by decide +kernel
theorem am_qPrt_20 : am_pq 17 20 = some (0, 18, 1, 8) := by decide +kernel
theorem am_qPrt_23 : am_pr 17 23 = some FieldType.int := by decide +kernel
/-! pAt: ScriptFront$Printer.at(I)I -/
theorem am_FpAt : am_co 18 = 8 ∧ am_mL 18 = 2 ∧ am_in 18 = false := by decide +kernel
theorem am_qpAt_0 : am_pk 18 0 = some (.iload_n 1) := by decide +kernel
theorem am_qpAt_1 : am_pk 18 1 = some (.ifCond .lt 18) := by decide +kernel
theorem am_qpAt_4 : am_pk 18 4 = some (.iload_n 1) := by decide +kernel
theorem am_qpAt_5 : am_pk 18 5 = some (.aload_n 0) := by decide +kernel
theorem am_qpAt_6 : am_pk 18 6 = some (.getfield 30) := by decide +kernel
theorem am_qf8_30 : am_fl 8 30 = some (8, 6, .int, false) := by decide +kernel
theorem am_qpAt_9 : am_pk 18 9 = some (.if_icmp .ge 10) := by decide +kernel
theorem am_qpAt_12 : am_pk 18 12 = some (.iload_n 1) := by decide +kernel
theorem am_qpAt_13 : am_pk 18 13 = some (.sipush 1024) := by decide +kernel
theorem am_qpAt_16 : am_pk 18 16 = some (.if_icmp .lt 7) := by decide +kernel
theorem am_qpAt_19 : am_pk 18 19 = some (.iconst (-1)) := by decide +kernel
theorem am_qpAt_20 : am_pk 18 20 = some (.goto 9) := by decide +kernel
theorem am_qpAt_23 : am_pk 18 23 = some (.aload_n 0) := by decide +kernel
theorem am_qpAt_24 : am_pk 18 24 = some (.getfield 11) := by decide +kernel
theorem am_qf8_11 : am_fl 8 11 = some (8, 1, .array (.char), true) := by decide +kernel
theorem am_qpAt_27 : am_pk 18 27 = some (.iload_n 1) := by decide +kernel
theorem am_qpAt_28 : am_pk 18 28 = some (.caload) := by decide +kernel
theorem am_qpAt_29 : am_pr 18 29 = some FieldType.int := by decide +kernel
/-! Nod: ScriptFront.node(II)I -/
theorem am_FNod : am_co 169 = 0 ∧ am_mL 169 = 3 ∧ am_in 169 = false := by decide +kernel
theorem am_qNod_0 : am_pk 169 0 = some (.iload_n 1) := by decide +kernel
theorem am_qNod_1 : am_pk 169 1 = some (.ifCond .lt 14) := by decide +kernel
theorem am_qNod_4 : am_pk 169 4 = some (.iload_n 1) := by decide +kernel
theorem am_qNod_5 : am_pk 169 5 = some (.aload_n 0) := by decide +kernel
theorem am_qNod_6 : am_pk 169 6 = some (.getfield 49) := by decide +kernel
theorem am_qNod_9 : am_pk 169 9 = some (.getfield 111) := by decide +kernel
theorem am_qNod_12 : am_pk 169 12 = some (.if_icmp .lt 13) := by decide +kernel
theorem am_qNod_15 : am_thr 169 15 = some 1 := by decide +kernel
theorem am_qNod_25 : am_pk 169 25 = some (.iload_n 2) := by decide +kernel
theorem am_qNod_26 : am_pk 169 26 = some (.tableswitch 100 0 5 #[38, 47, 56, 65, 74, 83]) := by decide +kernel
theorem am_qNod_64 : am_pk 169 64 = some (.aload_n 0) := by decide +kernel
theorem am_qNod_65 : am_pk 169 65 = some (.getfield 49) := by decide +kernel
theorem am_qNod_68 : am_pk 169 68 = some (.iload_n 1) := by decide +kernel
theorem am_qNod_69 : am_pq 169 69 = some (0, 15, 1, 6) := by decide +kernel
theorem am_qNod_72 : am_pr 169 72 = some FieldType.int := by decide +kernel
theorem am_qNod_73 : am_pk 169 73 = some (.aload_n 0) := by decide +kernel
theorem am_qNod_74 : am_pk 169 74 = some (.getfield 49) := by decide +kernel
theorem am_qNod_77 : am_pk 169 77 = some (.iload_n 1) := by decide +kernel
theorem am_qNod_78 : am_pq 169 78 = some (0, 120, 1, 6) := by decide +kernel
theorem am_qNod_81 : am_pr 169 81 = some FieldType.int := by decide +kernel
theorem am_qNod_82 : am_pk 169 82 = some (.aload_n 0) := by decide +kernel
theorem am_qNod_83 : am_pk 169 83 = some (.getfield 49) := by decide +kernel
theorem am_qNod_86 : am_pk 169 86 = some (.iload_n 1) := by decide +kernel
theorem am_qNod_87 : am_pq 169 87 = some (0, 121, 1, 6) := by decide +kernel
theorem am_qNod_90 : am_pr 169 90 = some FieldType.int := by decide +kernel
theorem am_qNod_91 : am_pk 169 91 = some (.aload_n 0) := by decide +kernel
theorem am_qNod_92 : am_pk 169 92 = some (.getfield 49) := by decide +kernel
theorem am_qNod_95 : am_pk 169 95 = some (.iload_n 1) := by decide +kernel
theorem am_qNod_96 : am_pq 169 96 = some (0, 124, 1, 6) := by decide +kernel
theorem am_qNod_99 : am_pr 169 99 = some FieldType.int := by decide +kernel
theorem am_qNod_100 : am_pk 169 100 = some (.aload_n 0) := by decide +kernel
theorem am_qNod_101 : am_pk 169 101 = some (.getfield 49) := by decide +kernel
theorem am_qNod_104 : am_pk 169 104 = some (.iload_n 1) := by decide +kernel
theorem am_qNod_105 : am_pq 169 105 = some (0, 117, 1, 6) := by decide +kernel
theorem am_qNod_108 : am_pr 169 108 = some FieldType.int := by decide +kernel
theorem am_qNod_109 : am_pk 169 109 = some (.aload_n 0) := by decide +kernel
theorem am_qNod_110 : am_pk 169 110 = some (.getfield 49) := by decide +kernel
theorem am_qNod_113 : am_pk 169 113 = some (.iload_n 1) := by decide +kernel
theorem am_qNod_114 : am_pq 169 114 = some (0, 123, 1, 6) := by decide +kernel
theorem am_qNod_117 : am_pk 169 117 = some (.ifCond .eq 7) := by decide +kernel
theorem am_qNod_120 : am_pk 169 120 = some (.iconst 1) := by decide +kernel
theorem am_qNod_121 : am_pk 169 121 = some (.goto 4) := by decide +kernel
theorem am_qNod_124 : am_pk 169 124 = some (.iconst 0) := by decide +kernel
theorem am_qNod_125 : am_pr 169 125 = some FieldType.int := by decide +kernel
theorem am_qNod_126 : am_thr 169 126 = some 1 := by decide +kernel
theorem am_qf9_167 : am_fl 9 167 = some (9, 3, .int, false) := by decide +kernel
/-! MTyp: ScriptFrontModel.type(JI)Z -/
theorem am_FMTyp : am_co 172 = 9 ∧ am_mL 172 = 6 ∧ am_in 172 = false := by decide +kernel
theorem am_qMTyp_0 : am_pk 172 0 = some (.aload_n 0) := by decide +kernel
theorem am_qMTyp_1 : am_pk 172 1 = some (.iconst 0) := by decide +kernel
theorem am_qMTyp_2 : am_pk 172 2 = some (.putfield 167) := by decide +kernel
theorem am_qMTyp_5 : am_pk 172 5 = some (.iload_n 3) := by decide +kernel
theorem am_qMTyp_6 : am_pk 172 6 = some (.iconst 1) := by decide +kernel
theorem am_qMTyp_7 : am_pk 172 7 = some (.if_icmp .lt 21) := by decide +kernel
theorem am_qMTyp_10 : am_pk 172 10 = some (.iload_n 3) := by decide +kernel
theorem am_qMTyp_11 : am_pk 172 11 = some (.bipush 8) := by decide +kernel
theorem am_qMTyp_13 : am_pk 172 13 = some (.if_icmp .gt 15) := by decide +kernel
theorem am_qMTyp_16 : am_pk 172 16 = some (.aload_n 0) := by decide +kernel
theorem am_qMTyp_17 : am_pk 172 17 = some (.getfield 170) := by decide +kernel
theorem am_qf9_170 : am_fl 9 170 = some (9, 6, .int, false) := by decide +kernel
theorem am_qMTyp_20 : am_pk 172 20 = some (.iload_n 3) := by decide +kernel
theorem am_qMTyp_21 : am_pk 172 21 = some (.iadd) := by decide +kernel
theorem am_qMTyp_22 : am_pk 172 22 = some (.sipush 480) := by decide +kernel
theorem am_qMTyp_25 : am_pk 172 25 = some (.if_icmp .le 5) := by decide +kernel
theorem am_qMTyp_28 : am_pk 172 28 = some (.iconst 0) := by decide +kernel
theorem am_qMTyp_29 : am_pr 172 29 = some FieldType.boolean := by decide +kernel
theorem am_qMTyp_30 : am_pk 172 30 = some (.iload_n 3) := by decide +kernel
theorem am_qMTyp_31 : am_pk 172 31 = some (.iconst 1) := by decide +kernel
theorem am_qMTyp_32 : am_pk 172 32 = some (.isub) := by decide +kernel
theorem am_qMTyp_33 : am_pk 172 33 = some (.istore 4) := by decide +kernel
theorem am_qMTyp_35 : am_pk 172 35 = some (.iload 4) := by decide +kernel
theorem am_qMTyp_37 : am_pk 172 37 = some (.ifCond .lt 47) := by decide +kernel
theorem am_qMTyp_40 : am_pk 172 40 = some (.lload_n 1) := by decide +kernel
theorem am_qMTyp_41 : am_pk 172 41 = some (.bipush 8) := by decide +kernel
theorem am_qMTyp_43 : am_pk 172 43 = some (.iload 4) := by decide +kernel
theorem am_qMTyp_45 : am_pk 172 45 = some (.imul) := by decide +kernel
theorem am_qMTyp_46 : am_pk 172 46 = some (.lshr) := by decide +kernel
theorem am_qMTyp_47 : am_pk 172 47 = some (.ldc2_w 173) := by decide +kernel
theorem am_qMTyp_50 : am_pk 172 50 = some (.land) := by decide +kernel
theorem am_qMTyp_51 : am_pk 172 51 = some (.l2i) := by decide +kernel
theorem am_qMTyp_52 : am_pk 172 52 = some (.istore 5) := by decide +kernel
theorem am_qMTyp_54 : am_pk 172 54 = some (.iload 5) := by decide +kernel
theorem am_qMTyp_56 : am_pq 172 56 = some (1, 173, 1, 9) := by decide +kernel
theorem am_qMTyp_59 : am_pk 172 59 = some (.ifCond .ne 19) := by decide +kernel
theorem am_qMTyp_62 : am_pk 172 62 = some (.iload 5) := by decide +kernel
theorem am_qMTyp_64 : am_pk 172 64 = some (.bipush 32) := by decide +kernel
theorem am_qMTyp_66 : am_pk 172 66 = some (.if_icmp .lt 10) := by decide +kernel
theorem am_qMTyp_69 : am_pk 172 69 = some (.iload 5) := by decide +kernel
theorem am_qMTyp_71 : am_pk 172 71 = some (.bipush 126) := by decide +kernel
theorem am_qMTyp_73 : am_pk 172 73 = some (.if_icmp .le 5) := by decide +kernel
theorem am_qMTyp_76 : am_pk 172 76 = some (.iconst 0) := by decide +kernel
theorem am_qMTyp_77 : am_pr 172 77 = some FieldType.boolean := by decide +kernel
theorem am_qMTyp_78 : am_pk 172 78 = some (.iinc 4 (-1)) := by decide +kernel
theorem am_qMTyp_81 : am_pk 172 81 = some (.goto (-46)) := by decide +kernel
theorem am_qMTyp_84 : am_pk 172 84 = some (.iload_n 3) := by decide +kernel
theorem am_qMTyp_85 : am_pk 172 85 = some (.iconst 1) := by decide +kernel
theorem am_qMTyp_86 : am_pk 172 86 = some (.isub) := by decide +kernel
theorem am_qMTyp_87 : am_pk 172 87 = some (.istore 4) := by decide +kernel
theorem am_qMTyp_89 : am_pk 172 89 = some (.iload 4) := by decide +kernel
theorem am_qMTyp_91 : am_pk 172 91 = some (.ifCond .lt 41) := by decide +kernel
theorem am_qMTyp_94 : am_pk 172 94 = some (.aload_n 0) := by decide +kernel
theorem am_qMTyp_95 : am_pk 172 95 = some (.getfield 80) := by decide +kernel
theorem am_qf9_80 : am_fl 9 80 = some (9, 4, .array (.byte), true) := by decide +kernel
theorem am_qMTyp_98 : am_pk 172 98 = some (.aload_n 0) := by decide +kernel
theorem am_qMTyp_99 : am_pk 172 99 = some (.getfield 170) := by decide +kernel
theorem am_qMTyp_102 : am_pk 172 102 = some (.lload_n 1) := by decide +kernel
theorem am_qMTyp_103 : am_pk 172 103 = some (.bipush 8) := by decide +kernel
theorem am_qMTyp_105 : am_pk 172 105 = some (.iload 4) := by decide +kernel
theorem am_qMTyp_107 : am_pk 172 107 = some (.imul) := by decide +kernel
theorem am_qMTyp_108 : am_pk 172 108 = some (.lshr) := by decide +kernel
theorem am_qMTyp_109 : am_pk 172 109 = some (.ldc2_w 173) := by decide +kernel
theorem am_qMTyp_112 : am_pk 172 112 = some (.land) := by decide +kernel
theorem am_qMTyp_113 : am_pk 172 113 = some (.l2i) := by decide +kernel
theorem am_qMTyp_114 : am_pk 172 114 = some (.i2b) := by decide +kernel
theorem am_qMTyp_115 : am_pk 172 115 = some (.bastore) := by decide +kernel
theorem am_qMTyp_116 : am_pk 172 116 = some (.aload_n 0) := by decide +kernel
theorem am_qMTyp_117 : am_pk 172 117 = some (.dup) := by decide +kernel
theorem am_qMTyp_118 : am_pk 172 118 = some (.getfield 170) := by decide +kernel
theorem am_qMTyp_121 : am_pk 172 121 = some (.iconst 1) := by decide +kernel
theorem am_qMTyp_122 : am_pk 172 122 = some (.iadd) := by decide +kernel
theorem am_qMTyp_123 : am_pk 172 123 = some (.putfield 170) := by decide +kernel
theorem am_qMTyp_126 : am_pk 172 126 = some (.iinc 4 (-1)) := by decide +kernel
theorem am_qMTyp_129 : am_pk 172 129 = some (.goto (-40)) := by decide +kernel
theorem am_qMTyp_132 : am_pk 172 132 = some (.iconst 1) := by decide +kernel
theorem am_qMTyp_133 : am_pr 172 133 = some FieldType.boolean := by decide +kernel
/-! MBl: ScriptFrontModel.isBlank(I)Z -/
theorem am_FMBl : am_co 173 = 9 ∧ am_mL 173 = 1 ∧ am_in 173 = false := by decide +kernel
theorem am_qMBl_0 : am_pk 173 0 = some (.iload_n 0) := by decide +kernel
theorem am_qMBl_1 : am_pk 173 1 = some (.bipush 9) := by decide +kernel
theorem am_qMBl_3 : am_pk 173 3 = some (.if_icmp .eq 21) := by decide +kernel
theorem am_qMBl_6 : am_pk 173 6 = some (.iload_n 0) := by decide +kernel
theorem am_qMBl_7 : am_pk 173 7 = some (.bipush 10) := by decide +kernel
theorem am_qMBl_9 : am_pk 173 9 = some (.if_icmp .eq 15) := by decide +kernel
theorem am_qMBl_12 : am_pk 173 12 = some (.iload_n 0) := by decide +kernel
theorem am_qMBl_13 : am_pk 173 13 = some (.bipush 13) := by decide +kernel
theorem am_qMBl_15 : am_pk 173 15 = some (.if_icmp .eq 9) := by decide +kernel
theorem am_qMBl_18 : am_pk 173 18 = some (.iload_n 0) := by decide +kernel
theorem am_qMBl_19 : am_pk 173 19 = some (.bipush 32) := by decide +kernel
theorem am_qMBl_21 : am_pk 173 21 = some (.if_icmp .ne 7) := by decide +kernel
theorem am_qMBl_24 : am_pk 173 24 = some (.iconst 1) := by decide +kernel
theorem am_qMBl_25 : am_pk 173 25 = some (.goto 4) := by decide +kernel
theorem am_qMBl_28 : am_pk 173 28 = some (.iconst 0) := by decide +kernel
theorem am_qMBl_29 : am_pr 173 29 = some FieldType.boolean := by decide +kernel
/-! MFlt: ScriptFrontModel.fault(I)I -/
theorem am_FMFlt : am_co 296 = 9 ∧ am_mL 296 = 2 ∧ am_in 296 = false := by decide +kernel
theorem am_qMFlt_0 : am_pk 296 0 = some (.aload_n 0) := by decide +kernel
theorem am_qMFlt_1 : am_pk 296 1 = some (.iconst 0) := by decide +kernel
theorem am_qMFlt_2 : am_pk 296 2 = some (.putfield 167) := by decide +kernel
theorem am_qMFlt_5 : am_pk 296 5 = some (.iload_n 1) := by decide +kernel
theorem am_qMFlt_6 : am_pk 296 6 = some (.ifCond .ne 10) := by decide +kernel
theorem am_qMFlt_9 : am_pk 296 9 = some (.aload_n 0) := by decide +kernel
theorem am_qMFlt_10 : am_pk 296 10 = some (.getfield 188) := by decide +kernel
theorem am_qf9_188 : am_fl 9 188 = some (9, 8, .int, false) := by decide +kernel
theorem am_qMFlt_13 : am_pk 296 13 = some (.goto 28) := by decide +kernel
theorem am_qMFlt_16 : am_pk 296 16 = some (.iload_n 1) := by decide +kernel
theorem am_qMFlt_17 : am_pk 296 17 = some (.iconst 1) := by decide +kernel
theorem am_qMFlt_18 : am_pk 296 18 = some (.if_icmp .ne 10) := by decide +kernel
theorem am_qMFlt_21 : am_pk 296 21 = some (.aload_n 0) := by decide +kernel
theorem am_qMFlt_22 : am_pk 296 22 = some (.getfield 87) := by decide +kernel
theorem am_qf9_87 : am_fl 9 87 = some (9, 9, .int, false) := by decide +kernel
theorem am_qMFlt_25 : am_pk 296 25 = some (.goto 16) := by decide +kernel
theorem am_qMFlt_28 : am_pk 296 28 = some (.iload_n 1) := by decide +kernel
theorem am_qMFlt_29 : am_pk 296 29 = some (.iconst 2) := by decide +kernel
theorem am_qMFlt_30 : am_pk 296 30 = some (.if_icmp .ne 10) := by decide +kernel
theorem am_qMFlt_33 : am_pk 296 33 = some (.aload_n 0) := by decide +kernel
theorem am_qMFlt_34 : am_pk 296 34 = some (.getfield 328) := by decide +kernel
theorem am_qf9_328 : am_fl 9 328 = some (9, 10, .int, false) := by decide +kernel
theorem am_qMFlt_37 : am_pk 296 37 = some (.goto 4) := by decide +kernel
theorem am_qMFlt_40 : am_pk 296 40 = some (.iconst (-1)) := by decide +kernel
theorem am_qMFlt_41 : am_pr 296 41 = some FieldType.int := by decide +kernel
/-! MNod: ScriptFrontModel.node(II)I -/
theorem am_FMNod : am_co 297 = 9 ∧ am_mL 297 = 3 ∧ am_in 297 = false := by decide +kernel
theorem am_qMNod_0 : am_pk 297 0 = some (.aload_n 0) := by decide +kernel
theorem am_qMNod_1 : am_pk 297 1 = some (.iload_n 1) := by decide +kernel
theorem am_qMNod_2 : am_pk 297 2 = some (.ifCond .lt 20) := by decide +kernel
theorem am_qMNod_5 : am_pk 297 5 = some (.iload_n 1) := by decide +kernel
theorem am_qMNod_6 : am_pk 297 6 = some (.aload_n 0) := by decide +kernel
theorem am_qMNod_7 : am_pk 297 7 = some (.getfield 623) := by decide +kernel
theorem am_qf9_623 : am_fl 9 623 = some (9, 43, .int, false) := by decide +kernel
theorem am_qMNod_10 : am_pk 297 10 = some (.if_icmp .ge 12) := by decide +kernel
theorem am_qMNod_13 : am_pk 297 13 = some (.iload_n 2) := by decide +kernel
theorem am_qMNod_14 : am_pk 297 14 = some (.ifCond .lt 8) := by decide +kernel
theorem am_qMNod_17 : am_pk 297 17 = some (.iload_n 2) := by decide +kernel
theorem am_qMNod_18 : am_pk 297 18 = some (.iconst 5) := by decide +kernel
theorem am_qMNod_19 : am_pk 297 19 = some (.if_icmp .le 7) := by decide +kernel
theorem am_qMNod_22 : am_pk 297 22 = some (.iconst 1) := by decide +kernel
theorem am_qMNod_23 : am_pk 297 23 = some (.goto 4) := by decide +kernel
theorem am_qMNod_26 : am_pk 297 26 = some (.iconst 0) := by decide +kernel
theorem am_qMNod_27 : am_pk 297 27 = some (.putfield 167) := by decide +kernel
theorem am_qMNod_30 : am_pk 297 30 = some (.aload_n 0) := by decide +kernel
theorem am_qMNod_31 : am_pk 297 31 = some (.getfield 167) := by decide +kernel
theorem am_qMNod_34 : am_pk 297 34 = some (.ifCond .le 7) := by decide +kernel
theorem am_qMNod_37 : am_pk 297 37 = some (.iconst 0) := by decide +kernel
theorem am_qMNod_38 : am_pk 297 38 = some (.goto 14) := by decide +kernel
theorem am_qMNod_41 : am_pk 297 41 = some (.aload_n 0) := by decide +kernel
theorem am_qMNod_42 : am_pk 297 42 = some (.getfield 152) := by decide +kernel
theorem am_qf9_152 : am_fl 9 152 = some (9, 46, .array (.int), true) := by decide +kernel
theorem am_qMNod_45 : am_pk 297 45 = some (.bipush 6) := by decide +kernel
theorem am_qMNod_47 : am_pk 297 47 = some (.iload_n 1) := by decide +kernel
theorem am_qMNod_48 : am_pk 297 48 = some (.imul) := by decide +kernel
theorem am_qMNod_49 : am_pk 297 49 = some (.iload_n 2) := by decide +kernel
theorem am_qMNod_50 : am_pk 297 50 = some (.iadd) := by decide +kernel
theorem am_qMNod_51 : am_pk 297 51 = some (.iaload) := by decide +kernel
theorem am_qMNod_52 : am_pr 297 52 = some FieldType.int := by decide +kernel
/-! MMny: ScriptFrontModel.many(I)I -/
theorem am_FMMny : am_co 298 = 9 ∧ am_mL 298 = 4 ∧ am_in 298 = false := by decide +kernel
theorem am_qMMny_0 : am_pk 298 0 = some (.aload_n 0) := by decide +kernel
theorem am_qMMny_1 : am_pk 298 1 = some (.iconst 0) := by decide +kernel
theorem am_qMMny_2 : am_pk 298 2 = some (.putfield 167) := by decide +kernel
theorem am_qMMny_5 : am_pk 298 5 = some (.iconst 0) := by decide +kernel
theorem am_qMMny_6 : am_pk 298 6 = some (.istore_n 2) := by decide +kernel
theorem am_qMMny_7 : am_pk 298 7 = some (.iconst 0) := by decide +kernel
theorem am_qMMny_8 : am_pk 298 8 = some (.istore_n 3) := by decide +kernel
theorem am_qMMny_9 : am_pk 298 9 = some (.iload_n 3) := by decide +kernel
theorem am_qMMny_10 : am_pk 298 10 = some (.aload_n 0) := by decide +kernel
theorem am_qMMny_11 : am_pk 298 11 = some (.getfield 623) := by decide +kernel
theorem am_qMMny_14 : am_pk 298 14 = some (.if_icmp .ge 30) := by decide +kernel
theorem am_qMMny_17 : am_pk 298 17 = some (.aload_n 0) := by decide +kernel
theorem am_qMMny_18 : am_pk 298 18 = some (.getfield 152) := by decide +kernel
theorem am_qMMny_21 : am_pk 298 21 = some (.bipush 6) := by decide +kernel
theorem am_qMMny_23 : am_pk 298 23 = some (.iload_n 3) := by decide +kernel
theorem am_qMMny_24 : am_pk 298 24 = some (.imul) := by decide +kernel
theorem am_qMMny_25 : am_pk 298 25 = some (.iaload) := by decide +kernel
theorem am_qMMny_26 : am_pk 298 26 = some (.iload_n 1) := by decide +kernel
theorem am_qMMny_27 : am_pk 298 27 = some (.if_icmp .ne 9) := by decide +kernel
theorem am_qMMny_30 : am_pk 298 30 = some (.iload_n 2) := by decide +kernel
theorem am_qMMny_31 : am_pk 298 31 = some (.iconst 1) := by decide +kernel
theorem am_qMMny_32 : am_pk 298 32 = some (.iadd) := by decide +kernel
theorem am_qMMny_33 : am_pk 298 33 = some (.goto 4) := by decide +kernel
theorem am_qMMny_36 : am_pk 298 36 = some (.iload_n 2) := by decide +kernel
theorem am_qMMny_37 : am_pk 298 37 = some (.istore_n 2) := by decide +kernel
theorem am_qMMny_38 : am_pk 298 38 = some (.iinc 3 1) := by decide +kernel
theorem am_qMMny_41 : am_pk 298 41 = some (.goto (-32)) := by decide +kernel
theorem am_qMMny_44 : am_pk 298 44 = some (.iload_n 2) := by decide +kernel
theorem am_qMMny_45 : am_pr 298 45 = some FieldType.int := by decide +kernel
/-! MPrt: ScriptFrontModel.printed(I)I -/
theorem am_FMPrt : am_co 299 = 9 ∧ am_mL 299 = 2 ∧ am_in 299 = false := by decide +kernel
theorem am_qMPrt_0 : am_pk 299 0 = some (.aload_n 0) := by decide +kernel
theorem am_qMPrt_1 : am_pk 299 1 = some (.iconst 0) := by decide +kernel
theorem am_qMPrt_2 : am_pk 299 2 = some (.putfield 167) := by decide +kernel
theorem am_qMPrt_5 : am_pk 299 5 = some (.iload_n 1) := by decide +kernel
theorem am_qMPrt_6 : am_pk 299 6 = some (.iconst (-1)) := by decide +kernel
theorem am_qMPrt_7 : am_pk 299 7 = some (.if_icmp .ne 10) := by decide +kernel
theorem am_qMPrt_10 : am_pk 299 10 = some (.aload_n 0) := by decide +kernel
theorem am_qMPrt_11 : am_pk 299 11 = some (.getfield 518) := by decide +kernel
theorem am_qf9_518 : am_fl 9 518 = some (9, 48, .int, false) := by decide +kernel
theorem am_qMPrt_14 : am_pk 299 14 = some (.goto 25) := by decide +kernel
theorem am_qMPrt_17 : am_pk 299 17 = some (.iload_n 1) := by decide +kernel
theorem am_qMPrt_18 : am_pk 299 18 = some (.ifCond .lt 20) := by decide +kernel
theorem am_qMPrt_21 : am_pk 299 21 = some (.iload_n 1) := by decide +kernel
theorem am_qMPrt_22 : am_pk 299 22 = some (.aload_n 0) := by decide +kernel
theorem am_qMPrt_23 : am_pk 299 23 = some (.getfield 518) := by decide +kernel
theorem am_qMPrt_26 : am_pk 299 26 = some (.if_icmp .ge 12) := by decide +kernel
theorem am_qMPrt_29 : am_pk 299 29 = some (.aload_n 0) := by decide +kernel
theorem am_qMPrt_30 : am_pk 299 30 = some (.getfield 155) := by decide +kernel
theorem am_qf9_155 : am_fl 9 155 = some (9, 47, .array (.byte), true) := by decide +kernel
theorem am_qMPrt_33 : am_pk 299 33 = some (.iload_n 1) := by decide +kernel
theorem am_qMPrt_34 : am_pk 299 34 = some (.baload) := by decide +kernel
theorem am_qMPrt_35 : am_pk 299 35 = some (.goto 4) := by decide +kernel
theorem am_qMPrt_38 : am_pk 299 38 = some (.iconst (-1)) := by decide +kernel
theorem am_qMPrt_39 : am_pr 299 39 = some FieldType.int := by decide +kernel
