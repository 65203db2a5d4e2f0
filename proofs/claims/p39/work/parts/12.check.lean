-- printed by wip/p39/gen10.py
set_option maxRecDepth 100000 in
theorem ck_0 : ckAll 0 cd_X0_init 37 = true := by decide +kernel
set_option maxRecDepth 100000 in
theorem ck_1 : ckAll 1 cd_X0_isStored 18 = true := by decide +kernel
set_option maxRecDepth 100000 in
theorem ck_2 : ckAll 2 cd_X0_exists 31 = true := by decide +kernel
set_option maxRecDepth 100000 in
theorem ck_3 : ckAll 3 cd_X0_hasStoredAt 28 = true := by decide +kernel
set_option maxRecDepth 100000 in
theorem ck_4 : ckAll 4 cd_X0_countExisting 32 = true := by decide +kernel
set_option maxRecDepth 100000 in
theorem ck_5 : ckAll 5 cd_X0_put 70 = true := by decide +kernel
set_option maxRecDepth 100000 in
theorem ck_6 : ckAll 6 cd_X0_byteAt 34 = true := by decide +kernel
set_option maxRecDepth 100000 in
theorem ck_7 : ckAll 7 cd_X0_firstStoredFrom 39 = true := by decide +kernel
set_option maxRecDepth 100000 in
theorem ck_8 : ckAll 8 cd_X0_lastStoringBefore 51 = true := by decide +kernel
set_option maxRecDepth 100000 in
theorem ck_9 : ckAll 9 cd_X1_init 15 = true := by decide +kernel
set_option maxRecDepth 100000 in
theorem ck_10 : ckAll 10 cd_X1_fill 32 = true := by decide +kernel
set_option maxRecDepth 100000 in
theorem ck_11 : ckAll 11 cd_X2_init 21 = true := by decide +kernel
set_option maxRecDepth 100000 in
theorem ck_12 : ckAll 12 cd_X2_clear 6 = true := by decide +kernel
set_option maxRecDepth 100000 in
theorem ck_13 : ckAll 13 cd_X2_copyFrom 49 = true := by decide +kernel
set_option maxRecDepth 100000 in
theorem ck_14 : ckAll 14 cd_X2_size 38 = true := by decide +kernel
set_option maxRecDepth 100000 in
theorem ck_15 : ckAll 15 cd_X2_overlap 58 = true := by decide +kernel
set_option maxRecDepth 100000 in
theorem ck_16 : ckAll 16 cd_X2_add 119 = true := by decide +kernel
set_option maxRecDepth 100000 in
theorem ck_17 : ckAll 17 cd_X2_cutFirst 43 = true := by decide +kernel
set_option maxRecDepth 100000 in
theorem ck_18 : ckAll 18 cd_X2_number 51 = true := by decide +kernel
set_option maxRecDepth 100000 in
theorem ck_19 : ckAll 19 cd_X2_holeNumber 120 = true := by decide +kernel
set_option maxRecDepth 100000 in
theorem ck_20 : ckAll 20 cd_X2_insert 87 = true := by decide +kernel
set_option maxRecDepth 100000 in
theorem ck_21 : ckAll 21 cd_X2_removeRange 65 = true := by decide +kernel
set_option maxRecDepth 100000 in
theorem ck_22 : ckAll 22 cd_X3_init 41 = true := by decide +kernel
set_option maxRecDepth 100000 in
theorem ck_23 : ckAll 23 cd_X3_copyFrom 40 = true := by decide +kernel
set_option maxRecDepth 100000 in
theorem ck_24 : ckAll 24 cd_X3_placeOf 33 = true := by decide +kernel
set_option maxRecDepth 100000 in
theorem ck_25 : ckAll 25 cd_X3_placeToSend 66 = true := by decide +kernel
set_option maxRecDepth 100000 in
theorem ck_26 : ckAll 26 cd_X3_put 39 = true := by decide +kernel
set_option maxRecDepth 100000 in
theorem ck_27 : ckAll 27 cd_X3_moveToEnd 65 = true := by decide +kernel
set_option maxRecDepth 100000 in
theorem ck_28 : ckAll 28 cd_X3_remove 28 = true := by decide +kernel
set_option maxRecDepth 100000 in
theorem ck_29 : ckAll 29 cd_X4_init 21 = true := by decide +kernel
set_option maxRecDepth 100000 in
theorem ck_30 : ckAll 30 cd_X4_isForDirectory 14 = true := by decide +kernel
set_option maxRecDepth 100000 in
theorem ck_31 : ckAll 31 cd_X4_begin 23 = true := by decide +kernel
set_option maxRecDepth 100000 in
theorem ck_32 : ckAll 32 cd_X4_copyFrom 36 = true := by decide +kernel
set_option maxRecDepth 100000 in
theorem ck_33 : ckAll 33 cd_X5_init 29 = true := by decide +kernel
set_option maxRecDepth 100000 in
theorem ck_34 : ckAll 34 cd_X5_append 33 = true := by decide +kernel
set_option maxRecDepth 100000 in
theorem ck_35 : ckAll 35 cd_X5_read 66 = true := by decide +kernel
set_option maxRecDepth 100000 in
theorem ck_36 : ckAll 36 cd_X5_readSubject 40 = true := by decide +kernel
set_option maxRecDepth 100000 in
theorem ck_37 : ckAll 37 cd_X5_readHoles 87 = true := by decide +kernel
set_option maxRecDepth 100000 in
theorem ck_38 : ckAll 38 cd_X5_skip 38 = true := by decide +kernel
set_option maxRecDepth 100000 in
theorem ck_39 : ckAll 39 cd_X5_readNumber 99 = true := by decide +kernel
set_option maxRecDepth 100000 in
theorem ck_40 : ckAll 40 cd_X5_isDigit 28 = true := by decide +kernel
set_option maxRecDepth 100000 in
theorem ck_41 : ckAll 41 cd_X6_init 74 = true := by decide +kernel
set_option maxRecDepth 100000 in
theorem ck_42 : ckAll 42 cd_X6_copyFrom 84 = true := by decide +kernel
set_option maxRecDepth 100000 in
theorem ck_43 : ckAll 43 cd_X6_admit 63 = true := by decide +kernel
set_option maxRecDepth 100000 in
theorem ck_44 : ckAll 44 cd_X6_isComplete 37 = true := by decide +kernel
set_option maxRecDepth 100000 in
theorem ck_45 : ckAll 45 cd_X6_askDirectory 45 = true := by decide +kernel
set_option maxRecDepth 100000 in
theorem ck_46 : ckAll 46 cd_X6_askFile 69 = true := by decide +kernel
set_option maxRecDepth 100000 in
theorem ck_47 : ckAll 47 cd_X6_askHoles 116 = true := by decide +kernel
set_option maxRecDepth 100000 in
theorem ck_48 : ckAll 48 cd_X6_tick 77 = true := by decide +kernel
set_option maxRecDepth 100000 in
theorem ck_49 : ckAll 49 cd_X6_mayAsk 33 = true := by decide +kernel
set_option maxRecDepth 100000 in
theorem ck_50 : ckAll 50 cd_X6_putFirstHoles 91 = true := by decide +kernel
set_option maxRecDepth 100000 in
theorem ck_51 : ckAll 51 cd_X6_dropRequests 103 = true := by decide +kernel
set_option maxRecDepth 100000 in
theorem ck_52 : ckAll 52 cd_X6_send 86 = true := by decide +kernel
set_option maxRecDepth 100000 in
theorem ck_53 : ckAll 53 cd_X6_sendBytes 43 = true := by decide +kernel
set_option maxRecDepth 100000 in
theorem ck_54 : ckAll 54 cd_X6_sendEntry 126 = true := by decide +kernel
set_option maxRecDepth 100000 in
theorem ck_55 : ckAll 55 cd_X6_deliver 85 = true := by decide +kernel
set_option maxRecDepth 100000 in
theorem ck_56 : ckAll 56 cd_X6_settle 57 = true := by decide +kernel
set_option maxRecDepth 100000 in
theorem ck_57 : ckAll 57 cd_X7_init 76 = true := by decide +kernel
set_option maxRecDepth 100000 in
theorem ck_58 : ckAll 58 cd_X7_copyFrom 125 = true := by decide +kernel
set_option maxRecDepth 100000 in
theorem ck_59 : ckAll 59 cd_X7_sees 26 = true := by decide +kernel
set_option maxRecDepth 100000 in
theorem ck_60 : ckAll 60 cd_X7_firstSight 40 = true := by decide +kernel
set_option maxRecDepth 100000 in
theorem ck_61 : ckAll 61 cd_X7_isHit 49 = true := by decide +kernel
set_option maxRecDepth 100000 in
theorem ck_62 : ckAll 62 cd_X7_knows 18 = true := by decide +kernel
set_option maxRecDepth 100000 in
theorem ck_63 : ckAll 63 cd_X7_countOpen 30 = true := by decide +kernel
set_option maxRecDepth 100000 in
theorem ck_64 : ckAll 64 cd_X7_bytesOf 26 = true := by decide +kernel
set_option maxRecDepth 100000 in
theorem ck_65 : ckAll 65 cd_X7_beginFile 30 = true := by decide +kernel
set_option maxRecDepth 100000 in
theorem ck_66 : ckAll 66 cd_X7_endFile 18 = true := by decide +kernel
set_option maxRecDepth 100000 in
theorem ck_67 : ckAll 67 cd_X7_take 40 = true := by decide +kernel
set_option maxRecDepth 100000 in
theorem ck_68 : ckAll 68 cd_X7_takeBytes 75 = true := by decide +kernel
set_option maxRecDepth 100000 in
theorem ck_69 : ckAll 69 cd_X7_takeEntry 40 = true := by decide +kernel
set_option maxRecDepth 100000 in
theorem ck_70 : ckAll 70 cd_X7_phaseAt 23 = true := by decide +kernel
set_option maxRecDepth 100000 in
theorem ck_71 : ckAll 71 cd_X7_placeOf 27 = true := by decide +kernel
set_option maxRecDepth 100000 in
theorem ck_72 : ckAll 72 cd_X8_init 57 = true := by decide +kernel
set_option maxRecDepth 100000 in
theorem ck_73 : ckAll 73 cd_X8_addStation 56 = true := by decide +kernel
set_option maxRecDepth 100000 in
theorem ck_74 : ckAll 74 cd_X8_setLoss 45 = true := by decide +kernel
set_option maxRecDepth 100000 in
theorem ck_75 : ckAll 75 cd_X8_inView 42 = true := by decide +kernel
set_option maxRecDepth 100000 in
theorem ck_76 : ckAll 76 cd_X8_nextView 34 = true := by decide +kernel
set_option maxRecDepth 100000 in
theorem ck_77 : ckAll 77 cd_X8_receives 52 = true := by decide +kernel
set_option maxRecDepth 100000 in
theorem ck_78 : ckAll 78 cd_X8_store 88 = true := by decide +kernel
set_option maxRecDepth 100000 in
theorem ck_79 : ckAll 79 cd_X8_fileInfo 102 = true := by decide +kernel
set_option maxRecDepth 100000 in
theorem ck_80 : ckAll 80 cd_X8_fileByte 43 = true := by decide +kernel
set_option maxRecDepth 100000 in
theorem ck_81 : ckAll 81 cd_X8_fileCount 8 = true := by decide +kernel
set_option maxRecDepth 100000 in
theorem ck_82 : ckAll 82 cd_X8_existingCount 15 = true := by decide +kernel
set_option maxRecDepth 100000 in
theorem ck_83 : ckAll 83 cd_X8_directory 23 = true := by decide +kernel
set_option maxRecDepth 100000 in
theorem ck_84 : ckAll 84 cd_X8_unknownFiles 76 = true := by decide +kernel
set_option maxRecDepth 100000 in
theorem ck_85 : ckAll 85 cd_X8_covered 32 = true := by decide +kernel
set_option maxRecDepth 100000 in
theorem ck_86 : ckAll 86 cd_X8_timeHole 39 = true := by decide +kernel
set_option maxRecDepth 100000 in
theorem ck_87 : ckAll 87 cd_X8_open 66 = true := by decide +kernel
set_option maxRecDepth 100000 in
theorem ck_88 : ckAll 88 cd_X8_close 57 = true := by decide +kernel
set_option maxRecDepth 100000 in
theorem ck_89 : ckAll 89 cd_X8_receivedBytes 47 = true := by decide +kernel
set_option maxRecDepth 100000 in
theorem ck_90 : ckAll 90 cd_X8_receivedByte 71 = true := by decide +kernel
set_option maxRecDepth 100000 in
theorem ck_91 : ckAll 91 cd_X8_byteHole 67 = true := by decide +kernel
set_option maxRecDepth 100000 in
theorem ck_92 : ckAll 92 cd_X8_completeFiles 48 = true := by decide +kernel
set_option maxRecDepth 100000 in
theorem ck_93 : ckAll 93 cd_X8_requestDirectory 19 = true := by decide +kernel
set_option maxRecDepth 100000 in
theorem ck_94 : ckAll 94 cd_X8_requestFile 31 = true := by decide +kernel
set_option maxRecDepth 100000 in
theorem ck_95 : ckAll 95 cd_X8_withdraw 41 = true := by decide +kernel
set_option maxRecDepth 100000 in
theorem ck_96 : ckAll 96 cd_X8_queueLength 11 = true := by decide +kernel
set_option maxRecDepth 100000 in
theorem ck_97 : ckAll 97 cd_X8_queued 124 = true := by decide +kernel
set_option maxRecDepth 100000 in
theorem ck_98 : ckAll 98 cd_X8_type 36 = true := by decide +kernel
set_option maxRecDepth 100000 in
theorem ck_99 : ckAll 99 cd_X8_clearText 18 = true := by decide +kernel
set_option maxRecDepth 100000 in
theorem ck_100 : ckAll 100 cd_X8_fault 23 = true := by decide +kernel
set_option maxRecDepth 100000 in
theorem ck_101 : ckAll 101 cd_X8_requestText 46 = true := by decide +kernel
set_option maxRecDepth 100000 in
theorem ck_102 : ckAll 102 cd_X8_run 58 = true := by decide +kernel
set_option maxRecDepth 100000 in
theorem ck_103 : ckAll 103 cd_X8_time 8 = true := by decide +kernel
set_option maxRecDepth 100000 in
theorem ck_104 : ckAll 104 cd_X8_lastFrame 101 = true := by decide +kernel
set_option maxRecDepth 100000 in
theorem ck_105 : ckAll 105 cd_X8_total 21 = true := by decide +kernel
set_option maxRecDepth 100000 in
theorem ck_106 : ckAll 106 cd_X8_stationTotal 34 = true := by decide +kernel
set_option maxRecDepth 100000 in
theorem ck_107 : ckAll 107 cd_X8_ticksToComplete 100 = true := by decide +kernel
set_option maxRecDepth 100000 in
theorem ck_108 : ckAll 108 cd_X8_ticksToEmpty 47 = true := by decide +kernel
set_option maxRecDepth 100000 in
theorem ck_109 : ckAll 109 cd_X8_isStation 21 = true := by decide +kernel
set_option maxRecDepth 100000 in
theorem ck_110 : ckAll 110 cd_X8_within 16 = true := by decide +kernel
set_option maxRecDepth 100000 in
theorem ck_111 : ckAll 111 cd_L_part 7 = true := by decide +kernel
set_option maxRecDepth 100000 in
theorem ck_112 : ckAll 112 cd_L_cell 40 = true := by decide +kernel
set_option maxRecDepth 100000 in
theorem ck_113 : ckAll 113 cd_L_adds 208 = true := by decide +kernel
set_option maxRecDepth 100000 in
theorem ck_114 : ckAll 114 cd_L_digest 274 = true := by decide +kernel
set_option maxRecDepth 100000 in
theorem ck_115_0 : (List.range' 0 120).all (ckO 115 cd_L_refused) = true := by decide +kernel
set_option maxRecDepth 100000 in
theorem ck_115_1 : (List.range' 120 120).all (ckO 115 cd_L_refused) = true := by decide +kernel
set_option maxRecDepth 100000 in
theorem ck_115_2 : (List.range' 240 120).all (ckO 115 cd_L_refused) = true := by decide +kernel
set_option maxRecDepth 100000 in
theorem ck_115_3 : (List.range' 360 120).all (ckO 115 cd_L_refused) = true := by decide +kernel
set_option maxRecDepth 100000 in
theorem ck_115_4 : (List.range' 480 120).all (ckO 115 cd_L_refused) = true := by decide +kernel
set_option maxRecDepth 100000 in
theorem ck_115_5 : (List.range' 600 120).all (ckO 115 cd_L_refused) = true := by decide +kernel
theorem ck_115 : ckAll 115 cd_L_refused 667 = true := by
  unfold ckAll
  rw [List.all_eq_true]
  intro pc hpc
  have hlt := List.mem_range.mp hpc
  by_cases h0 : pc < 120
  · exact List.all_eq_true.mp ck_115_0 pc (List.mem_range'_1.mpr ⟨by omega, by omega⟩)
  by_cases h1 : pc < 240
  · exact List.all_eq_true.mp ck_115_1 pc (List.mem_range'_1.mpr ⟨by omega, by omega⟩)
  by_cases h2 : pc < 360
  · exact List.all_eq_true.mp ck_115_2 pc (List.mem_range'_1.mpr ⟨by omega, by omega⟩)
  by_cases h3 : pc < 480
  · exact List.all_eq_true.mp ck_115_3 pc (List.mem_range'_1.mpr ⟨by omega, by omega⟩)
  by_cases h4 : pc < 600
  · exact List.all_eq_true.mp ck_115_4 pc (List.mem_range'_1.mpr ⟨by omega, by omega⟩)
  by_cases h5 : pc < 720
  · exact List.all_eq_true.mp ck_115_5 pc (List.mem_range'_1.mpr ⟨by omega, by omega⟩)
  exact absurd hlt (by omega)
set_option maxRecDepth 100000 in
theorem ck_116 : ckAll 116 cd_L_types 45 = true := by decide +kernel
set_option maxRecDepth 100000 in
theorem ck_117 : ckAll 117 cd_L_faultOf 22 = true := by decide +kernel
set_option maxRecDepth 100000 in
theorem ck_118_0 : (List.range' 0 120).all (ckO 118 cd_L_texts) = true := by decide +kernel
set_option maxRecDepth 100000 in
theorem ck_118_1 : (List.range' 120 120).all (ckO 118 cd_L_texts) = true := by decide +kernel
set_option maxRecDepth 100000 in
theorem ck_118_2 : (List.range' 240 120).all (ckO 118 cd_L_texts) = true := by decide +kernel
theorem ck_118 : ckAll 118 cd_L_texts 317 = true := by
  unfold ckAll
  rw [List.all_eq_true]
  intro pc hpc
  have hlt := List.mem_range.mp hpc
  by_cases h0 : pc < 120
  · exact List.all_eq_true.mp ck_118_0 pc (List.mem_range'_1.mpr ⟨by omega, by omega⟩)
  by_cases h1 : pc < 240
  · exact List.all_eq_true.mp ck_118_1 pc (List.mem_range'_1.mpr ⟨by omega, by omega⟩)
  by_cases h2 : pc < 360
  · exact List.all_eq_true.mp ck_118_2 pc (List.mem_range'_1.mpr ⟨by omega, by omega⟩)
  exact absurd hlt (by omega)
set_option maxRecDepth 100000 in
theorem ck_119_0 : (List.range' 0 120).all (ckO 119 cd_L_known) = true := by decide +kernel
set_option maxRecDepth 100000 in
theorem ck_119_1 : (List.range' 120 120).all (ckO 119 cd_L_known) = true := by decide +kernel
set_option maxRecDepth 100000 in
theorem ck_119_2 : (List.range' 240 120).all (ckO 119 cd_L_known) = true := by decide +kernel
set_option maxRecDepth 100000 in
theorem ck_119_3 : (List.range' 360 120).all (ckO 119 cd_L_known) = true := by decide +kernel
set_option maxRecDepth 100000 in
theorem ck_119_4 : (List.range' 480 120).all (ckO 119 cd_L_known) = true := by decide +kernel
set_option maxRecDepth 100000 in
theorem ck_119_5 : (List.range' 600 120).all (ckO 119 cd_L_known) = true := by decide +kernel
set_option maxRecDepth 100000 in
theorem ck_119_6 : (List.range' 720 120).all (ckO 119 cd_L_known) = true := by decide +kernel
set_option maxRecDepth 100000 in
theorem ck_119_7 : (List.range' 840 120).all (ckO 119 cd_L_known) = true := by decide +kernel
set_option maxRecDepth 100000 in
theorem ck_119_8 : (List.range' 960 120).all (ckO 119 cd_L_known) = true := by decide +kernel
set_option maxRecDepth 100000 in
theorem ck_119_9 : (List.range' 1080 120).all (ckO 119 cd_L_known) = true := by decide +kernel
theorem ck_119 : ckAll 119 cd_L_known 1164 = true := by
  unfold ckAll
  rw [List.all_eq_true]
  intro pc hpc
  have hlt := List.mem_range.mp hpc
  by_cases h0 : pc < 120
  · exact List.all_eq_true.mp ck_119_0 pc (List.mem_range'_1.mpr ⟨by omega, by omega⟩)
  by_cases h1 : pc < 240
  · exact List.all_eq_true.mp ck_119_1 pc (List.mem_range'_1.mpr ⟨by omega, by omega⟩)
  by_cases h2 : pc < 360
  · exact List.all_eq_true.mp ck_119_2 pc (List.mem_range'_1.mpr ⟨by omega, by omega⟩)
  by_cases h3 : pc < 480
  · exact List.all_eq_true.mp ck_119_3 pc (List.mem_range'_1.mpr ⟨by omega, by omega⟩)
  by_cases h4 : pc < 600
  · exact List.all_eq_true.mp ck_119_4 pc (List.mem_range'_1.mpr ⟨by omega, by omega⟩)
  by_cases h5 : pc < 720
  · exact List.all_eq_true.mp ck_119_5 pc (List.mem_range'_1.mpr ⟨by omega, by omega⟩)
  by_cases h6 : pc < 840
  · exact List.all_eq_true.mp ck_119_6 pc (List.mem_range'_1.mpr ⟨by omega, by omega⟩)
  by_cases h7 : pc < 960
  · exact List.all_eq_true.mp ck_119_7 pc (List.mem_range'_1.mpr ⟨by omega, by omega⟩)
  by_cases h8 : pc < 1080
  · exact List.all_eq_true.mp ck_119_8 pc (List.mem_range'_1.mpr ⟨by omega, by omega⟩)
  by_cases h9 : pc < 1200
  · exact List.all_eq_true.mp ck_119_9 pc (List.mem_range'_1.mpr ⟨by omega, by omega⟩)
  exact absurd hlt (by omega)
set_option maxRecDepth 100000 in
theorem ck_120 : ckAll 120 cd_L_full 221 = true := by decide +kernel
set_option maxRecDepth 100000 in
theorem ck_121_0 : (List.range' 0 120).all (ckO 121 cd_L_law) = true := by decide +kernel
set_option maxRecDepth 100000 in
theorem ck_121_1 : (List.range' 120 120).all (ckO 121 cd_L_law) = true := by decide +kernel
set_option maxRecDepth 100000 in
theorem ck_121_2 : (List.range' 240 120).all (ckO 121 cd_L_law) = true := by decide +kernel
theorem ck_121 : ckAll 121 cd_L_law 360 = true := by
  unfold ckAll
  rw [List.all_eq_true]
  intro pc hpc
  have hlt := List.mem_range.mp hpc
  by_cases h0 : pc < 120
  · exact List.all_eq_true.mp ck_121_0 pc (List.mem_range'_1.mpr ⟨by omega, by omega⟩)
  by_cases h1 : pc < 240
  · exact List.all_eq_true.mp ck_121_1 pc (List.mem_range'_1.mpr ⟨by omega, by omega⟩)
  by_cases h2 : pc < 360
  · exact List.all_eq_true.mp ck_121_2 pc (List.mem_range'_1.mpr ⟨by omega, by omega⟩)
  exact absurd hlt (by omega)
/-- every entry that there is -/
theorem ck_all : ∀ j, j < 122 → ∀ pc e, code_of j pc = some e → ckE j pc e = true := by
  intro j hj pc e he
  match j, hj, he with
  | 0, _, he => exact ckAll_of ck_0 (cdo_0 ▸ he)
  | 1, _, he => exact ckAll_of ck_1 (cdo_1 ▸ he)
  | 2, _, he => exact ckAll_of ck_2 (cdo_2 ▸ he)
  | 3, _, he => exact ckAll_of ck_3 (cdo_3 ▸ he)
  | 4, _, he => exact ckAll_of ck_4 (cdo_4 ▸ he)
  | 5, _, he => exact ckAll_of ck_5 (cdo_5 ▸ he)
  | 6, _, he => exact ckAll_of ck_6 (cdo_6 ▸ he)
  | 7, _, he => exact ckAll_of ck_7 (cdo_7 ▸ he)
  | 8, _, he => exact ckAll_of ck_8 (cdo_8 ▸ he)
  | 9, _, he => exact ckAll_of ck_9 (cdo_9 ▸ he)
  | 10, _, he => exact ckAll_of ck_10 (cdo_10 ▸ he)
  | 11, _, he => exact ckAll_of ck_11 (cdo_11 ▸ he)
  | 12, _, he => exact ckAll_of ck_12 (cdo_12 ▸ he)
  | 13, _, he => exact ckAll_of ck_13 (cdo_13 ▸ he)
  | 14, _, he => exact ckAll_of ck_14 (cdo_14 ▸ he)
  | 15, _, he => exact ckAll_of ck_15 (cdo_15 ▸ he)
  | 16, _, he => exact ckAll_of ck_16 (cdo_16 ▸ he)
  | 17, _, he => exact ckAll_of ck_17 (cdo_17 ▸ he)
  | 18, _, he => exact ckAll_of ck_18 (cdo_18 ▸ he)
  | 19, _, he => exact ckAll_of ck_19 (cdo_19 ▸ he)
  | 20, _, he => exact ckAll_of ck_20 (cdo_20 ▸ he)
  | 21, _, he => exact ckAll_of ck_21 (cdo_21 ▸ he)
  | 22, _, he => exact ckAll_of ck_22 (cdo_22 ▸ he)
  | 23, _, he => exact ckAll_of ck_23 (cdo_23 ▸ he)
  | 24, _, he => exact ckAll_of ck_24 (cdo_24 ▸ he)
  | 25, _, he => exact ckAll_of ck_25 (cdo_25 ▸ he)
  | 26, _, he => exact ckAll_of ck_26 (cdo_26 ▸ he)
  | 27, _, he => exact ckAll_of ck_27 (cdo_27 ▸ he)
  | 28, _, he => exact ckAll_of ck_28 (cdo_28 ▸ he)
  | 29, _, he => exact ckAll_of ck_29 (cdo_29 ▸ he)
  | 30, _, he => exact ckAll_of ck_30 (cdo_30 ▸ he)
  | 31, _, he => exact ckAll_of ck_31 (cdo_31 ▸ he)
  | 32, _, he => exact ckAll_of ck_32 (cdo_32 ▸ he)
  | 33, _, he => exact ckAll_of ck_33 (cdo_33 ▸ he)
  | 34, _, he => exact ckAll_of ck_34 (cdo_34 ▸ he)
  | 35, _, he => exact ckAll_of ck_35 (cdo_35 ▸ he)
  | 36, _, he => exact ckAll_of ck_36 (cdo_36 ▸ he)
  | 37, _, he => exact ckAll_of ck_37 (cdo_37 ▸ he)
  | 38, _, he => exact ckAll_of ck_38 (cdo_38 ▸ he)
  | 39, _, he => exact ckAll_of ck_39 (cdo_39 ▸ he)
  | 40, _, he => exact ckAll_of ck_40 (cdo_40 ▸ he)
  | 41, _, he => exact ckAll_of ck_41 (cdo_41 ▸ he)
  | 42, _, he => exact ckAll_of ck_42 (cdo_42 ▸ he)
  | 43, _, he => exact ckAll_of ck_43 (cdo_43 ▸ he)
  | 44, _, he => exact ckAll_of ck_44 (cdo_44 ▸ he)
  | 45, _, he => exact ckAll_of ck_45 (cdo_45 ▸ he)
  | 46, _, he => exact ckAll_of ck_46 (cdo_46 ▸ he)
  | 47, _, he => exact ckAll_of ck_47 (cdo_47 ▸ he)
  | 48, _, he => exact ckAll_of ck_48 (cdo_48 ▸ he)
  | 49, _, he => exact ckAll_of ck_49 (cdo_49 ▸ he)
  | 50, _, he => exact ckAll_of ck_50 (cdo_50 ▸ he)
  | 51, _, he => exact ckAll_of ck_51 (cdo_51 ▸ he)
  | 52, _, he => exact ckAll_of ck_52 (cdo_52 ▸ he)
  | 53, _, he => exact ckAll_of ck_53 (cdo_53 ▸ he)
  | 54, _, he => exact ckAll_of ck_54 (cdo_54 ▸ he)
  | 55, _, he => exact ckAll_of ck_55 (cdo_55 ▸ he)
  | 56, _, he => exact ckAll_of ck_56 (cdo_56 ▸ he)
  | 57, _, he => exact ckAll_of ck_57 (cdo_57 ▸ he)
  | 58, _, he => exact ckAll_of ck_58 (cdo_58 ▸ he)
  | 59, _, he => exact ckAll_of ck_59 (cdo_59 ▸ he)
  | 60, _, he => exact ckAll_of ck_60 (cdo_60 ▸ he)
  | 61, _, he => exact ckAll_of ck_61 (cdo_61 ▸ he)
  | 62, _, he => exact ckAll_of ck_62 (cdo_62 ▸ he)
  | 63, _, he => exact ckAll_of ck_63 (cdo_63 ▸ he)
  | 64, _, he => exact ckAll_of ck_64 (cdo_64 ▸ he)
  | 65, _, he => exact ckAll_of ck_65 (cdo_65 ▸ he)
  | 66, _, he => exact ckAll_of ck_66 (cdo_66 ▸ he)
  | 67, _, he => exact ckAll_of ck_67 (cdo_67 ▸ he)
  | 68, _, he => exact ckAll_of ck_68 (cdo_68 ▸ he)
  | 69, _, he => exact ckAll_of ck_69 (cdo_69 ▸ he)
  | 70, _, he => exact ckAll_of ck_70 (cdo_70 ▸ he)
  | 71, _, he => exact ckAll_of ck_71 (cdo_71 ▸ he)
  | 72, _, he => exact ckAll_of ck_72 (cdo_72 ▸ he)
  | 73, _, he => exact ckAll_of ck_73 (cdo_73 ▸ he)
  | 74, _, he => exact ckAll_of ck_74 (cdo_74 ▸ he)
  | 75, _, he => exact ckAll_of ck_75 (cdo_75 ▸ he)
  | 76, _, he => exact ckAll_of ck_76 (cdo_76 ▸ he)
  | 77, _, he => exact ckAll_of ck_77 (cdo_77 ▸ he)
  | 78, _, he => exact ckAll_of ck_78 (cdo_78 ▸ he)
  | 79, _, he => exact ckAll_of ck_79 (cdo_79 ▸ he)
  | 80, _, he => exact ckAll_of ck_80 (cdo_80 ▸ he)
  | 81, _, he => exact ckAll_of ck_81 (cdo_81 ▸ he)
  | 82, _, he => exact ckAll_of ck_82 (cdo_82 ▸ he)
  | 83, _, he => exact ckAll_of ck_83 (cdo_83 ▸ he)
  | 84, _, he => exact ckAll_of ck_84 (cdo_84 ▸ he)
  | 85, _, he => exact ckAll_of ck_85 (cdo_85 ▸ he)
  | 86, _, he => exact ckAll_of ck_86 (cdo_86 ▸ he)
  | 87, _, he => exact ckAll_of ck_87 (cdo_87 ▸ he)
  | 88, _, he => exact ckAll_of ck_88 (cdo_88 ▸ he)
  | 89, _, he => exact ckAll_of ck_89 (cdo_89 ▸ he)
  | 90, _, he => exact ckAll_of ck_90 (cdo_90 ▸ he)
  | 91, _, he => exact ckAll_of ck_91 (cdo_91 ▸ he)
  | 92, _, he => exact ckAll_of ck_92 (cdo_92 ▸ he)
  | 93, _, he => exact ckAll_of ck_93 (cdo_93 ▸ he)
  | 94, _, he => exact ckAll_of ck_94 (cdo_94 ▸ he)
  | 95, _, he => exact ckAll_of ck_95 (cdo_95 ▸ he)
  | 96, _, he => exact ckAll_of ck_96 (cdo_96 ▸ he)
  | 97, _, he => exact ckAll_of ck_97 (cdo_97 ▸ he)
  | 98, _, he => exact ckAll_of ck_98 (cdo_98 ▸ he)
  | 99, _, he => exact ckAll_of ck_99 (cdo_99 ▸ he)
  | 100, _, he => exact ckAll_of ck_100 (cdo_100 ▸ he)
  | 101, _, he => exact ckAll_of ck_101 (cdo_101 ▸ he)
  | 102, _, he => exact ckAll_of ck_102 (cdo_102 ▸ he)
  | 103, _, he => exact ckAll_of ck_103 (cdo_103 ▸ he)
  | 104, _, he => exact ckAll_of ck_104 (cdo_104 ▸ he)
  | 105, _, he => exact ckAll_of ck_105 (cdo_105 ▸ he)
  | 106, _, he => exact ckAll_of ck_106 (cdo_106 ▸ he)
  | 107, _, he => exact ckAll_of ck_107 (cdo_107 ▸ he)
  | 108, _, he => exact ckAll_of ck_108 (cdo_108 ▸ he)
  | 109, _, he => exact ckAll_of ck_109 (cdo_109 ▸ he)
  | 110, _, he => exact ckAll_of ck_110 (cdo_110 ▸ he)
  | 111, _, he => exact ckAll_of ck_111 (cdo_111 ▸ he)
  | 112, _, he => exact ckAll_of ck_112 (cdo_112 ▸ he)
  | 113, _, he => exact ckAll_of ck_113 (cdo_113 ▸ he)
  | 114, _, he => exact ckAll_of ck_114 (cdo_114 ▸ he)
  | 115, _, he => exact ckAll_of ck_115 (cdo_115 ▸ he)
  | 116, _, he => exact ckAll_of ck_116 (cdo_116 ▸ he)
  | 117, _, he => exact ckAll_of ck_117 (cdo_117 ▸ he)
  | 118, _, he => exact ckAll_of ck_118 (cdo_118 ▸ he)
  | 119, _, he => exact ckAll_of ck_119 (cdo_119 ▸ he)
  | 120, _, he => exact ckAll_of ck_120 (cdo_120 ▸ he)
  | 121, _, he => exact ckAll_of ck_121 (cdo_121 ▸ he)
  | j + 122, hj, _ => exact absurd hj (by omega)
