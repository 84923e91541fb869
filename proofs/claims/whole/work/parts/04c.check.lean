/-! printed by wip/gen/check.py: the code tables against the bytes -/
theorem zo {pc n : Nat} {x : ZOp} (h : n ≤ pc) : (bif Nat.blt pc n then x else oNone).1 = 0 := by
  cases hb : Nat.blt pc n with
  | false => rfl
  | true => exact absurd (Nat.ble_eq.mp hb) (by omega)
theorem zo_0 {pc : Nat} (h : 33 ≤ pc) : (zc_X0_init pc).1 = 0 := zo h
theorem zo_1 {pc : Nat} (h : 26 ≤ pc) : (zc_X0_begin pc).1 = 0 := zo h
theorem zo_2 {pc : Nat} (h : 47 ≤ pc) : (zc_X0_perform pc).1 = 0 := zo h
theorem zo_3 {pc : Nat} (h : 267 ≤ pc) : (zc_X0_runBody pc).1 = 0 := zo h
theorem zo_4 {pc : Nat} (h : 42 ≤ pc) : (zc_X0_holderOf pc).1 = 0 := zo h
theorem zo_5 {pc : Nat} (h : 33 ≤ pc) : (zc_X0_note pc).1 = 0 := zo h
theorem zo_6 {pc : Nat} (h : 30 ≤ pc) : (zc_X1_init pc).1 = 0 := zo h
theorem zo_7 {pc : Nat} (h : 44 ≤ pc) : (zc_X1_put pc).1 = 0 := zo h
theorem zo_8 {pc : Nat} (h : 75 ≤ pc) : (zc_X1_weigh pc).1 = 0 := zo h
theorem zo_9 {pc : Nat} (h : 43 ≤ pc) : (zc_X1_mostWith pc).1 = 0 := zo h
theorem zo_10 {pc : Nat} (h : 42 ≤ pc) : (zc_X1_worthFrom pc).1 = 0 := zo h
theorem zo_11 {pc : Nat} (h : 10 ≤ pc) : (zc_X1_mostOf pc).1 = 0 := zo h
theorem zo_12 {pc : Nat} (h : 75 ≤ pc) : (zc_X1_pick pc).1 = 0 := zo h
theorem zo_13 {pc : Nat} (h : 49 ≤ pc) : (zc_X1_firstOf pc).1 = 0 := zo h
theorem zo_14 {pc : Nat} (h : 18 ≤ pc) : (zc_X2_init pc).1 = 0 := zo h
theorem zo_15 {pc : Nat} (h : 24 ≤ pc) : (zc_X2_becomeAs pc).1 = 0 := zo h
theorem zo_16 {pc : Nat} (h : 30 ≤ pc) : (zc_X2_add pc).1 = 0 := zo h
theorem zo_17 {pc : Nat} (h : 10 ≤ pc) : (zc_X2_matterOf pc).1 = 0 := zo h
theorem zo_18 {pc : Nat} (h : 10 ≤ pc) : (zc_X2_howOf pc).1 = 0 := zo h
theorem zo_19 {pc : Nat} (h : 44 ≤ pc) : (zc_X3_init pc).1 = 0 := zo h
theorem zo_20 {pc : Nat} (h : 16 ≤ pc) : (zc_X3_clear pc).1 = 0 := zo h
theorem zo_21 {pc : Nat} (h : 15 ≤ pc) : (zc_X3_addTest pc).1 = 0 := zo h
theorem zo_22 {pc : Nat} (h : 30 ≤ pc) : (zc_X3_addStep pc).1 = 0 := zo h
theorem zo_23 {pc : Nat} (h : 47 ≤ pc) : (zc_X3_endClause pc).1 = 0 := zo h
theorem zo_24 {pc : Nat} (h : 119 ≤ pc) : (zc_X3_weigh pc).1 = 0 := zo h
theorem zo_25 {pc : Nat} (h : 60 ≤ pc) : (zc_X3_joined pc).1 = 0 := zo h
theorem zo_26 {pc : Nat} (h : 91 ≤ pc) : (zc_X3_meets pc).1 = 0 := zo h
theorem zo_27 {pc : Nat} (h : 23 ≤ pc) : (zc_X4_init pc).1 = 0 := zo h
theorem zo_28 {pc : Nat} (h : 30 ≤ pc) : (zc_X4_add pc).1 = 0 := zo h
theorem zo_29 {pc : Nat} (h : 71 ≤ pc) : (zc_X4_parse pc).1 = 0 := zo h
theorem zo_30 {pc : Nat} (h : 38 ≤ pc) : (zc_X4_passSign pc).1 = 0 := zo h
theorem zo_31 {pc : Nat} (h : 32 ≤ pc) : (zc_X4_passWord pc).1 = 0 := zo h
theorem zo_32 {pc : Nat} (h : 73 ≤ pc) : (zc_X4_passClause pc).1 = 0 := zo h
theorem zo_33 {pc : Nat} (h : 74 ≤ pc) : (zc_X4_passKeyword pc).1 = 0 := zo h
theorem zo_34 {pc : Nat} (h : 79 ≤ pc) : (zc_X4_passNumber pc).1 = 0 := zo h
theorem zo_35 {pc : Nat} (h : 58 ≤ pc) : (zc_X4_passOneOf pc).1 = 0 := zo h
theorem zo_36 {pc : Nat} (h : 53 ≤ pc) : (zc_X4_passEither pc).1 = 0 := zo h
theorem zo_37 {pc : Nat} (h : 53 ≤ pc) : (zc_X4_passBoth pc).1 = 0 := zo h
theorem zo_38 {pc : Nat} (h : 69 ≤ pc) : (zc_X4_passPart pc).1 = 0 := zo h
theorem zo_39 {pc : Nat} (h : 18 ≤ pc) : (zc_X4_passNot pc).1 = 0 := zo h
theorem zo_40 {pc : Nat} (h : 49 ≤ pc) : (zc_X4_passTest pc).1 = 0 := zo h
theorem zo_41 {pc : Nat} (h : 26 ≤ pc) : (zc_X5_init pc).1 = 0 := zo h
theorem zo_42 {pc : Nat} (h : 39 ≤ pc) : (zc_X5_becomeAs pc).1 = 0 := zo h
theorem zo_43 {pc : Nat} (h : 43 ≤ pc) : (zc_X5_add pc).1 = 0 := zo h
theorem zo_44 {pc : Nat} (h : 30 ≤ pc) : (zc_X5_turns pc).1 = 0 := zo h
theorem zo_45 {pc : Nat} (h : 28 ≤ pc) : (zc_X5_firstTurn pc).1 = 0 := zo h
theorem zo_46 {pc : Nat} (h : 46 ≤ pc) : (zc_X5_falseRow pc).1 = 0 := zo h
theorem zo_47 {pc : Nat} (h : 58 ≤ pc) : (zc_X5_fits pc).1 = 0 := zo h
theorem zo_48 {pc : Nat} (h : 54 ≤ pc) : (zc_X6_init pc).1 = 0 := zo h
theorem zo_49 {pc : Nat} (h : 16 ≤ pc) : (zc_X6_isTape pc).1 = 0 := zo h
theorem zo_50 {pc : Nat} (h : 16 ≤ pc) : (zc_X6_holds pc).1 = 0 := zo h
theorem zo_51 {pc : Nat} (h : 24 ≤ pc) : (zc_X6_hasPlace pc).1 = 0 := zo h
theorem zo_52 {pc : Nat} (h : 30 ≤ pc) : (zc_X6_hasPlaces pc).1 = 0 := zo h
theorem zo_53 {pc : Nat} (h : 15 ≤ pc) : (zc_X6_empty pc).1 = 0 := zo h
theorem zo_54 {pc : Nat} (h : 43 ≤ pc) : (zc_X6_lay pc).1 = 0 := zo h
theorem zo_55 {pc : Nat} (h : 12 ≤ pc) : (zc_X6_get pc).1 = 0 := zo h
theorem zo_56 {pc : Nat} (h : 22 ≤ pc) : (zc_X6_set pc).1 = 0 := zo h
theorem zo_57 {pc : Nat} (h : 27 ≤ pc) : (zc_X6_move pc).1 = 0 := zo h
theorem zo_58 {pc : Nat} (h : 64 ≤ pc) : (zc_X6_cut pc).1 = 0 := zo h
theorem zo_59 {pc : Nat} (h : 147 ≤ pc) : (zc_X7_init pc).1 = 0 := zo h
theorem zo_60 {pc : Nat} (h : 176 ≤ pc) : (zc_X7_becomeAs pc).1 = 0 := zo h
theorem zo_61 {pc : Nat} (h : 28 ≤ pc) : (zc_X7_rowOfSeats pc).1 = 0 := zo h
theorem zo_62 {pc : Nat} (h : 12 ≤ pc) : (zc_X7_seatOf pc).1 = 0 := zo h
theorem zo_63 {pc : Nat} (h : 30 ≤ pc) : (zc_X7_sitter pc).1 = 0 := zo h
theorem zo_64 {pc : Nat} (h : 19 ≤ pc) : (zc_X7_tie pc).1 = 0 := zo h
theorem zo_65 {pc : Nat} (h : 85 ≤ pc) : (zc_X7_liking pc).1 = 0 := zo h
theorem zo_66 {pc : Nat} (h : 83 ≤ pc) : (zc_X7_answer pc).1 = 0 := zo h
theorem zo_67 {pc : Nat} (h : 143 ≤ pc) : (zc_X7_answerOfKind pc).1 = 0 := zo h
theorem zo_68 {pc : Nat} (h : 34 ≤ pc) : (zc_X7_heardBy pc).1 = 0 := zo h
theorem zo_69 {pc : Nat} (h : 18 ≤ pc) : (zc_X7_signOf pc).1 = 0 := zo h
theorem zo_70 {pc : Nat} (h : 29 ≤ pc) : (zc_X7_hear pc).1 = 0 := zo h
theorem zo_71 {pc : Nat} (h : 35 ≤ pc) : (zc_X7_silent pc).1 = 0 := zo h
theorem zo_72 {pc : Nat} (h : 46 ≤ pc) : (zc_X7_breakSilence pc).1 = 0 := zo h
theorem zo_73 {pc : Nat} (h : 43 ≤ pc) : (zc_X7_votesOfWhoSay pc).1 = 0 := zo h
theorem zo_74 {pc : Nat} (h : 54 ≤ pc) : (zc_X7_goes pc).1 = 0 := zo h
theorem zo_75 {pc : Nat} (h : 44 ≤ pc) : (zc_X7_isVetoed pc).1 = 0 := zo h
theorem zo_76 {pc : Nat} (h : 81 ≤ pc) : (zc_X7_goesByTie pc).1 = 0 := zo h
theorem zo_77 {pc : Nat} (h : 40 ≤ pc) : (zc_X7_decide pc).1 = 0 := zo h
theorem zo_78 {pc : Nat} (h : 111 ≤ pc) : (zc_X7_resign pc).1 = 0 := zo h
theorem zo_79 {pc : Nat} (h : 147 ≤ pc) : (zc_X8_init pc).1 = 0 := zo h
theorem zo_80 {pc : Nat} (h : 46 ≤ pc) : (zc_X8_seats pc).1 = 0 := zo h
theorem zo_81 {pc : Nat} (h : 63 ≤ pc) : (zc_X8_seat pc).1 = 0 := zo h
theorem zo_82 {pc : Nat} (h : 92 ≤ pc) : (zc_X8_person pc).1 = 0 := zo h
theorem zo_83 {pc : Nat} (h : 67 ≤ pc) : (zc_X8_of pc).1 = 0 := zo h
theorem zo_84 {pc : Nat} (h : 21 ≤ pc) : (zc_X8_who pc).1 = 0 := zo h
theorem zo_85 {pc : Nat} (h : 133 ≤ pc) : (zc_X8_matter pc).1 = 0 := zo h
theorem zo_86 {pc : Nat} (h : 100 ≤ pc) : (zc_X8_at pc).1 = 0 := zo h
theorem zo_87 {pc : Nat} (h : 37 ≤ pc) : (zc_X8_feed pc).1 = 0 := zo h
theorem zo_88 {pc : Nat} (h : 76 ≤ pc) : (zc_X8_house pc).1 = 0 := zo h
theorem zo_89 {pc : Nat} (h : 83 ≤ pc) : (zc_X8_told pc).1 = 0 := zo h
theorem zo_90 {pc : Nat} (h : 23 ≤ pc) : (zc_X8_toldOfSeat pc).1 = 0 := zo h
theorem zo_91 {pc : Nat} (h : 32 ≤ pc) : (zc_X8_like pc).1 = 0 := zo h
theorem zo_92 {pc : Nat} (h : 32 ≤ pc) : (zc_X8_says pc).1 = 0 := zo h
theorem zo_93 {pc : Nat} (h : 48 ≤ pc) : (zc_X8_vote pc).1 = 0 := zo h
theorem zo_94 {pc : Nat} (h : 52 ≤ pc) : (zc_X8_idle pc).1 = 0 := zo h
theorem zo_95 {pc : Nat} (h : 34 ≤ pc) : (zc_X8_would pc).1 = 0 := zo h
theorem zo_96 {pc : Nat} (h : 43 ≤ pc) : (zc_X8_soon pc).1 = 0 := zo h
theorem zo_97 {pc : Nat} (h : 63 ≤ pc) : (zc_X8_order pc).1 = 0 := zo h
theorem zo_98 {pc : Nat} (h : 64 ≤ pc) : (zc_X8_areOpen pc).1 = 0 := zo h
theorem zo_99 {pc : Nat} (h : 101 ≤ pc) : (zc_X8_lookAhead pc).1 = 0 := zo h
theorem zo_100 {pc : Nat} (h : 62 ≤ pc) : (zc_X8_hold pc).1 = 0 := zo h
theorem zo_101 {pc : Nat} (h : 82 ≤ pc) : (zc_X8_decides pc).1 = 0 := zo h
theorem zo_102 {pc : Nat} (h : 119 ≤ pc) : (zc_X8_power pc).1 = 0 := zo h
theorem zo_103 {pc : Nat} (h : 74 ≤ pc) : (zc_X8_leadOfOthers pc).1 = 0 := zo h
theorem zo_104 {pc : Nat} (h : 116 ≤ pc) : (zc_X8_meet pc).1 = 0 := zo h
theorem zo_105 {pc : Nat} (h : 86 ≤ pc) : (zc_X8_wheels pc).1 = 0 := zo h
theorem zo_106 {pc : Nat} (h : 37 ≤ pc) : (zc_X8_up pc).1 = 0 := zo h
theorem zo_107 {pc : Nat} (h : 63 ≤ pc) : (zc_X8_bestSeat pc).1 = 0 := zo h
theorem zo_108 {pc : Nat} (h : 87 ≤ pc) : (zc_X8_leadWithMore pc).1 = 0 := zo h
theorem zo_109 {pc : Nat} (h : 58 ≤ pc) : (zc_X8_see pc).1 = 0 := zo h
theorem zo_110 {pc : Nat} (h : 76 ≤ pc) : (zc_X8_stood pc).1 = 0 := zo h
theorem zo_111 {pc : Nat} (h : 115 ≤ pc) : (zc_X8_odds pc).1 = 0 := zo h
theorem zo_112 {pc : Nat} (h : 95 ≤ pc) : (zc_X8_mean pc).1 = 0 := zo h
theorem zo_113 {pc : Nat} (h : 64 ≤ pc) : (zc_X8_book pc).1 = 0 := zo h
theorem zo_114 {pc : Nat} (h : 69 ≤ pc) : (zc_X8_looked pc).1 = 0 := zo h
theorem zo_115 {pc : Nat} (h : 108 ≤ pc) : (zc_X8_judge pc).1 = 0 := zo h
theorem zo_116 {pc : Nat} (h : 46 ≤ pc) : (zc_X8_image pc).1 = 0 := zo h
theorem zo_117 {pc : Nat} (h : 51 ≤ pc) : (zc_X8_undo pc).1 = 0 := zo h
theorem zo_118 {pc : Nat} (h : 56 ≤ pc) : (zc_X8_act pc).1 = 0 := zo h
theorem zo_119 {pc : Nat} (h : 41 ≤ pc) : (zc_X8_trace pc).1 = 0 := zo h
theorem zo_120 {pc : Nat} (h : 49 ≤ pc) : (zc_X8_taken pc).1 = 0 := zo h
theorem zo_121 {pc : Nat} (h : 35 ≤ pc) : (zc_X8_isUnder pc).1 = 0 := zo h
theorem zo_122 {pc : Nat} (h : 100 ≤ pc) : (zc_X8_count pc).1 = 0 := zo h
theorem zo_123 {pc : Nat} (h : 61 ≤ pc) : (zc_X8_tape pc).1 = 0 := zo h
theorem zo_124 {pc : Nat} (h : 51 ≤ pc) : (zc_X8_item pc).1 = 0 := zo h
theorem zo_125 {pc : Nat} (h : 36 ≤ pc) : (zc_X8_read pc).1 = 0 := zo h
theorem zo_126 {pc : Nat} (h : 114 ≤ pc) : (zc_X8_shift pc).1 = 0 := zo h
theorem zo_127 {pc : Nat} (h : 21 ≤ pc) : (zc_X8_isSeat pc).1 = 0 := zo h
theorem zo_128 {pc : Nat} (h : 21 ≤ pc) : (zc_X8_isPerson pc).1 = 0 := zo h
theorem zo_129 {pc : Nat} (h : 21 ≤ pc) : (zc_X8_isMatter pc).1 = 0 := zo h
theorem zo_130 {pc : Nat} (h : 15 ≤ pc) : (zc_X8_isPart pc).1 = 0 := zo h
theorem zo_131 {pc : Nat} (h : 12 ≤ pc) : (zc_X8_ask pc).1 = 0 := zo h
theorem zo_132 {pc : Nat} (h : 33 ≤ pc) : (zc_X8_goesBehind pc).1 = 0 := zo h
theorem zo_133 {pc : Nat} (h : 27 ≤ pc) : (zc_X8_inLowestTerms pc).1 = 0 := zo h
theorem zo_134 {pc : Nat} (h : 36 ≤ pc) : (zc_X8_greatestDivisor pc).1 = 0 := zo h
theorem zo_135 {pc : Nat} (h : 617 ≤ pc) : (zc_X9_init pc).1 = 0 := zo h
theorem zo_136 {pc : Nat} (h : 16 ≤ pc) : (zc_X9_in pc).1 = 0 := zo h
theorem zo_137 {pc : Nat} (h : 15 ≤ pc) : (zc_X9_has pc).1 = 0 := zo h
theorem zo_138 {pc : Nat} (h : 13 ≤ pc) : (zc_X9_isSeat pc).1 = 0 := zo h
theorem zo_139 {pc : Nat} (h : 13 ≤ pc) : (zc_X9_isPerson pc).1 = 0 := zo h
theorem zo_140 {pc : Nat} (h : 13 ≤ pc) : (zc_X9_isMatter pc).1 = 0 := zo h
theorem zo_141 {pc : Nat} (h : 12 ≤ pc) : (zc_X9_seatOf pc).1 = 0 := zo h
theorem zo_142 {pc : Nat} (h : 29 ≤ pc) : (zc_X9_whoIn pc).1 = 0 := zo h
theorem zo_143 {pc : Nat} (h : 37 ≤ pc) : (zc_X9_seats pc).1 = 0 := zo h
theorem zo_144 {pc : Nat} (h : 115 ≤ pc) : (zc_X9_seat pc).1 = 0 := zo h
theorem zo_145 {pc : Nat} (h : 78 ≤ pc) : (zc_X9_person pc).1 = 0 := zo h
theorem zo_146 {pc : Nat} (h : 52 ≤ pc) : (zc_X9_of pc).1 = 0 := zo h
theorem zo_147 {pc : Nat} (h : 27 ≤ pc) : (zc_X9_who pc).1 = 0 := zo h
theorem zo_148 {pc : Nat} (h : 109 ≤ pc) : (zc_X9_matter pc).1 = 0 := zo h
theorem zo_149 {pc : Nat} (h : 92 ≤ pc) : (zc_X9_at pc).1 = 0 := zo h
theorem zo_150 {pc : Nat} (h : 51 ≤ pc) : (zc_X9_feed pc).1 = 0 := zo h
theorem zo_151 {pc : Nat} (h : 25 ≤ pc) : (zc_X9_next pc).1 = 0 := zo h
theorem zo_152 {pc : Nat} (h : 29 ≤ pc) : (zc_X9_second pc).1 = 0 := zo h
theorem zo_153 {pc : Nat} (h : 22 ≤ pc) : (zc_X9_takes pc).1 = 0 := zo h
theorem zo_154 {pc : Nat} (h : 37 ≤ pc) : (zc_X9_takesWord pc).1 = 0 := zo h
theorem zo_155 {pc : Nat} (h : 13 ≤ pc) : (zc_X9_isDigit pc).1 = 0 := zo h
theorem zo_156 {pc : Nat} (h : 65 ≤ pc) : (zc_X9_takesNumber pc).1 = 0 := zo h
theorem zo_157 {pc : Nat} (h : 21 ≤ pc) : (zc_X9_put pc).1 = 0 := zo h
theorem zo_158 {pc : Nat} (h : 53 ≤ pc) : (zc_X9_whole pc).1 = 0 := zo h
theorem zo_159 {pc : Nat} (h : 73 ≤ pc) : (zc_X9_settle pc).1 = 0 := zo h
theorem zo_160 {pc : Nat} (h : 82 ≤ pc) : (zc_X9_place pc).1 = 0 := zo h
theorem zo_161 {pc : Nat} (h : 91 ≤ pc) : (zc_X9_takesTest pc).1 = 0 := zo h
theorem zo_162 {pc : Nat} (h : 230 ≤ pc) : (zc_X9_takesE pc).1 = 0 := zo h
theorem zo_163 {pc : Nat} (h : 68 ≤ pc) : (zc_X9_takesHead pc).1 = 0 := zo h
theorem zo_164 {pc : Nat} (h : 60 ≤ pc) : (zc_X9_takesClause pc).1 = 0 := zo h
theorem zo_165 {pc : Nat} (h : 70 ≤ pc) : (zc_X9_goesText pc).1 = 0 := zo h
theorem zo_166 {pc : Nat} (h : 61 ≤ pc) : (zc_X9_house pc).1 = 0 := zo h
theorem zo_167 {pc : Nat} (h : 19 ≤ pc) : (zc_X9_begin pc).1 = 0 := zo h
theorem zo_168 {pc : Nat} (h : 29 ≤ pc) : (zc_X9_behind pc).1 = 0 := zo h
theorem zo_169 {pc : Nat} (h : 44 ≤ pc) : (zc_X9_tieNow pc).1 = 0 := zo h
theorem zo_170 {pc : Nat} (h : 72 ≤ pc) : (zc_X9_factOf pc).1 = 0 := zo h
theorem zo_171 {pc : Nat} (h : 260 ≤ pc) : (zc_X9_holds pc).1 = 0 := zo h
theorem zo_172 {pc : Nat} (h : 81 ≤ pc) : (zc_X9_likeOf pc).1 = 0 := zo h
theorem zo_173 {pc : Nat} (h : 118 ≤ pc) : (zc_X9_told pc).1 = 0 := zo h
theorem zo_174 {pc : Nat} (h : 25 ≤ pc) : (zc_X9_plain pc).1 = 0 := zo h
theorem zo_175 {pc : Nat} (h : 24 ≤ pc) : (zc_X9_idly pc).1 = 0 := zo h
theorem zo_176 {pc : Nat} (h : 46 ≤ pc) : (zc_X9_sided pc).1 = 0 := zo h
theorem zo_177 {pc : Nat} (h : 27 ≤ pc) : (zc_X9_away pc).1 = 0 := zo h
theorem zo_178 {pc : Nat} (h : 149 ≤ pc) : (zc_X9_saysOf pc).1 = 0 := zo h
theorem zo_179 {pc : Nat} (h : 29 ≤ pc) : (zc_X9_like pc).1 = 0 := zo h
theorem zo_180 {pc : Nat} (h : 29 ≤ pc) : (zc_X9_says pc).1 = 0 := zo h
theorem zo_181 {pc : Nat} (h : 29 ≤ pc) : (zc_X9_laySaid pc).1 = 0 := zo h
theorem zo_182 {pc : Nat} (h : 47 ≤ pc) : (zc_X9_votesOf pc).1 = 0 := zo h
theorem zo_183 {pc : Nat} (h : 162 ≤ pc) : (zc_X9_goesBy pc).1 = 0 := zo h
theorem zo_184 {pc : Nat} (h : 11 ≤ pc) : (zc_X9_goes pc).1 = 0 := zo h
theorem zo_185 {pc : Nat} (h : 75 ≤ pc) : (zc_X9_vote pc).1 = 0 := zo h
theorem zo_186 {pc : Nat} (h : 44 ≤ pc) : (zc_X9_idle pc).1 = 0 := zo h
theorem zo_187 {pc : Nat} (h : 28 ≤ pc) : (zc_X9_wouldBy pc).1 = 0 := zo h
theorem zo_188 {pc : Nat} (h : 33 ≤ pc) : (zc_X9_would pc).1 = 0 := zo h
theorem zo_189 {pc : Nat} (h : 39 ≤ pc) : (zc_X9_soon pc).1 = 0 := zo h
theorem zo_190 {pc : Nat} (h : 22 ≤ pc) : (zc_X9_ones pc).1 = 0 := zo h
theorem zo_191 {pc : Nat} (h : 151 ≤ pc) : (zc_X9_layOrder pc).1 = 0 := zo h
theorem zo_192 {pc : Nat} (h : 87 ≤ pc) : (zc_X9_worthOfOrder pc).1 = 0 := zo h
theorem zo_193 {pc : Nat} (h : 174 ≤ pc) : (zc_X9_order pc).1 = 0 := zo h
theorem zo_194 {pc : Nat} (h : 18 ≤ pc) : (zc_X9_goesIf pc).1 = 0 := zo h
theorem zo_195 {pc : Nat} (h : 44 ≤ pc) : (zc_X9_hold pc).1 = 0 := zo h
theorem zo_196 {pc : Nat} (h : 85 ≤ pc) : (zc_X9_decides pc).1 = 0 := zo h
theorem zo_197 {pc : Nat} (h : 34 ≤ pc) : (zc_X9_divisor pc).1 = 0 := zo h
theorem zo_198 {pc : Nat} (h : 25 ≤ pc) : (zc_X9_lowest pc).1 = 0 := zo h
theorem zo_199 {pc : Nat} (h : 184 ≤ pc) : (zc_X9_power pc).1 = 0 := zo h
theorem zo_200 {pc : Nat} (h : 102 ≤ pc) : (zc_X9_meet pc).1 = 0 := zo h
theorem zo_201 {pc : Nat} (h : 85 ≤ pc) : (zc_X9_wheels pc).1 = 0 := zo h
theorem zo_202 {pc : Nat} (h : 277 ≤ pc) : (zc_X9_up pc).1 = 0 := zo h
theorem zo_203 {pc : Nat} (h : 59 ≤ pc) : (zc_X9_forsOff pc).1 = 0 := zo h
theorem zo_204 {pc : Nat} (h : 82 ≤ pc) : (zc_X9_bestSeat pc).1 = 0 := zo h
theorem zo_205 {pc : Nat} (h : 77 ≤ pc) : (zc_X9_see pc).1 = 0 := zo h
theorem zo_206 {pc : Nat} (h : 49 ≤ pc) : (zc_X9_couldBe pc).1 = 0 := zo h
theorem zo_207 {pc : Nat} (h : 37 ≤ pc) : (zc_X9_manyStood pc).1 = 0 := zo h
theorem zo_208 {pc : Nat} (h : 92 ≤ pc) : (zc_X9_stood pc).1 = 0 := zo h
theorem zo_209 {pc : Nat} (h : 166 ≤ pc) : (zc_X9_odds pc).1 = 0 := zo h
theorem zo_210 {pc : Nat} (h : 90 ≤ pc) : (zc_X9_mean pc).1 = 0 := zo h
theorem zo_211 {pc : Nat} (h : 74 ≤ pc) : (zc_X9_book pc).1 = 0 := zo h
theorem zo_212 {pc : Nat} (h : 63 ≤ pc) : (zc_X9_goesSo pc).1 = 0 := zo h
theorem zo_213 {pc : Nat} (h : 119 ≤ pc) : (zc_X9_looked pc).1 = 0 := zo h
theorem zo_214 {pc : Nat} (h : 98 ≤ pc) : (zc_X9_judge pc).1 = 0 := zo h
theorem zo_215 {pc : Nat} (h : 266 ≤ pc) : (zc_X9_image pc).1 = 0 := zo h
theorem zo_216 {pc : Nat} (h : 271 ≤ pc) : (zc_X9_undo pc).1 = 0 := zo h
theorem zo_217 {pc : Nat} (h : 30 ≤ pc) : (zc_X9_body pc).1 = 0 := zo h
theorem zo_218 {pc : Nat} (h : 10 ≤ pc) : (zc_X9_voiceRises pc).1 = 0 := zo h
theorem zo_219 {pc : Nat} (h : 96 ≤ pc) : (zc_X9_risesAct pc).1 = 0 := zo h
theorem zo_220 {pc : Nat} (h : 20 ≤ pc) : (zc_X9_voiceSits pc).1 = 0 := zo h
theorem zo_221 {pc : Nat} (h : 16 ≤ pc) : (zc_X9_firmSits pc).1 = 0 := zo h
theorem zo_222 {pc : Nat} (h : 91 ≤ pc) : (zc_X9_sitsAct pc).1 = 0 := zo h
theorem zo_223 {pc : Nat} (h : 15 ≤ pc) : (zc_X9_voiceTells pc).1 = 0 := zo h
theorem zo_224 {pc : Nat} (h : 80 ≤ pc) : (zc_X9_tellsAct pc).1 = 0 := zo h
theorem zo_225 {pc : Nat} (h : 59 ≤ pc) : (zc_X9_act pc).1 = 0 := zo h
theorem zo_226 {pc : Nat} (h : 30 ≤ pc) : (zc_X9_trace pc).1 = 0 := zo h
theorem zo_227 {pc : Nat} (h : 79 ≤ pc) : (zc_X9_taken pc).1 = 0 := zo h
theorem zo_228 {pc : Nat} (h : 82 ≤ pc) : (zc_X9_count pc).1 = 0 := zo h
theorem zo_229 {pc : Nat} (h : 8 ≤ pc) : (zc_X9_isTape pc).1 = 0 := zo h
theorem zo_230 {pc : Nat} (h : 97 ≤ pc) : (zc_X9_tape pc).1 = 0 := zo h
theorem zo_231 {pc : Nat} (h : 55 ≤ pc) : (zc_X9_narrow pc).1 = 0 := zo h
theorem zo_232 {pc : Nat} (h : 66 ≤ pc) : (zc_X9_item pc).1 = 0 := zo h
theorem zo_233 {pc : Nat} (h : 52 ≤ pc) : (zc_X9_read pc).1 = 0 := zo h
theorem zo_234 {pc : Nat} (h : 179 ≤ pc) : (zc_X9_shift pc).1 = 0 := zo h
theorem zo_235 {pc : Nat} (h : 53 ≤ pc) : (zc_J6_bitCount_0f7a4 pc).1 = 0 := zo h
theorem zo_236 {pc : Nat} (h : 11 ≤ pc) : (zc_J0_length_8abf5 pc).1 = 0 := zo h
theorem zo_237 {pc : Nat} (h : 25 ≤ pc) : (zc_J0_charAt_5068e pc).1 = 0 := zo h
theorem zo_238 {pc : Nat} (h : 15 ≤ pc) : (zc_J0_coder_7d493 pc).1 = 0 := zo h
theorem zo_239 {pc : Nat} (h : 19 ≤ pc) : (zc_J0_isLatin1_aae02 pc).1 = 0 := zo h
theorem zo_240 {pc : Nat} (h : 10 ≤ pc) : (zc_J0_checkIndex_df160 pc).1 = 0 := zo h
theorem zo_241 {pc : Nat} (h : 15 ≤ pc) : (zc_J1_charAt_3b067 pc).1 = 0 := zo h
theorem zo_242 {pc : Nat} (h : 18 ≤ pc) : (zc_J3_checkIndex_8e157 pc).1 = 0 := zo h
theorem zo_243 {pc : Nat} (h : 1527 ≤ pc) : (zc_L_law pc).1 = 0 := zo h
theorem zo_all (m : Nat) (hm : m < 244) (pc : Nat) (h : zcl m ≤ pc) : (zcode m pc).1 = 0 := by
  rcases Nat.lt_or_ge m 122 with q | q
  · rcases Nat.lt_or_ge m 61 with q | q
    · rcases Nat.lt_or_ge m 30 with q | q
      · rcases Nat.lt_or_ge m 15 with q | q
        · rcases Nat.lt_or_ge m 7 with q | q
          · rcases Nat.lt_or_ge m 3 with q | q
            · rcases Nat.lt_or_ge m 1 with q | q
              · have e : m = 0 := by omega
                subst e
                exact zo_0 h
              · rcases Nat.lt_or_ge m 2 with q | q
                · have e : m = 1 := by omega
                  subst e
                  exact zo_1 h
                · have e : m = 2 := by omega
                  subst e
                  exact zo_2 h
            · rcases Nat.lt_or_ge m 5 with q | q
              · rcases Nat.lt_or_ge m 4 with q | q
                · have e : m = 3 := by omega
                  subst e
                  exact zo_3 h
                · have e : m = 4 := by omega
                  subst e
                  exact zo_4 h
              · rcases Nat.lt_or_ge m 6 with q | q
                · have e : m = 5 := by omega
                  subst e
                  exact zo_5 h
                · have e : m = 6 := by omega
                  subst e
                  exact zo_6 h
          · rcases Nat.lt_or_ge m 11 with q | q
            · rcases Nat.lt_or_ge m 9 with q | q
              · rcases Nat.lt_or_ge m 8 with q | q
                · have e : m = 7 := by omega
                  subst e
                  exact zo_7 h
                · have e : m = 8 := by omega
                  subst e
                  exact zo_8 h
              · rcases Nat.lt_or_ge m 10 with q | q
                · have e : m = 9 := by omega
                  subst e
                  exact zo_9 h
                · have e : m = 10 := by omega
                  subst e
                  exact zo_10 h
            · rcases Nat.lt_or_ge m 13 with q | q
              · rcases Nat.lt_or_ge m 12 with q | q
                · have e : m = 11 := by omega
                  subst e
                  exact zo_11 h
                · have e : m = 12 := by omega
                  subst e
                  exact zo_12 h
              · rcases Nat.lt_or_ge m 14 with q | q
                · have e : m = 13 := by omega
                  subst e
                  exact zo_13 h
                · have e : m = 14 := by omega
                  subst e
                  exact zo_14 h
        · rcases Nat.lt_or_ge m 22 with q | q
          · rcases Nat.lt_or_ge m 18 with q | q
            · rcases Nat.lt_or_ge m 16 with q | q
              · have e : m = 15 := by omega
                subst e
                exact zo_15 h
              · rcases Nat.lt_or_ge m 17 with q | q
                · have e : m = 16 := by omega
                  subst e
                  exact zo_16 h
                · have e : m = 17 := by omega
                  subst e
                  exact zo_17 h
            · rcases Nat.lt_or_ge m 20 with q | q
              · rcases Nat.lt_or_ge m 19 with q | q
                · have e : m = 18 := by omega
                  subst e
                  exact zo_18 h
                · have e : m = 19 := by omega
                  subst e
                  exact zo_19 h
              · rcases Nat.lt_or_ge m 21 with q | q
                · have e : m = 20 := by omega
                  subst e
                  exact zo_20 h
                · have e : m = 21 := by omega
                  subst e
                  exact zo_21 h
          · rcases Nat.lt_or_ge m 26 with q | q
            · rcases Nat.lt_or_ge m 24 with q | q
              · rcases Nat.lt_or_ge m 23 with q | q
                · have e : m = 22 := by omega
                  subst e
                  exact zo_22 h
                · have e : m = 23 := by omega
                  subst e
                  exact zo_23 h
              · rcases Nat.lt_or_ge m 25 with q | q
                · have e : m = 24 := by omega
                  subst e
                  exact zo_24 h
                · have e : m = 25 := by omega
                  subst e
                  exact zo_25 h
            · rcases Nat.lt_or_ge m 28 with q | q
              · rcases Nat.lt_or_ge m 27 with q | q
                · have e : m = 26 := by omega
                  subst e
                  exact zo_26 h
                · have e : m = 27 := by omega
                  subst e
                  exact zo_27 h
              · rcases Nat.lt_or_ge m 29 with q | q
                · have e : m = 28 := by omega
                  subst e
                  exact zo_28 h
                · have e : m = 29 := by omega
                  subst e
                  exact zo_29 h
      · rcases Nat.lt_or_ge m 45 with q | q
        · rcases Nat.lt_or_ge m 37 with q | q
          · rcases Nat.lt_or_ge m 33 with q | q
            · rcases Nat.lt_or_ge m 31 with q | q
              · have e : m = 30 := by omega
                subst e
                exact zo_30 h
              · rcases Nat.lt_or_ge m 32 with q | q
                · have e : m = 31 := by omega
                  subst e
                  exact zo_31 h
                · have e : m = 32 := by omega
                  subst e
                  exact zo_32 h
            · rcases Nat.lt_or_ge m 35 with q | q
              · rcases Nat.lt_or_ge m 34 with q | q
                · have e : m = 33 := by omega
                  subst e
                  exact zo_33 h
                · have e : m = 34 := by omega
                  subst e
                  exact zo_34 h
              · rcases Nat.lt_or_ge m 36 with q | q
                · have e : m = 35 := by omega
                  subst e
                  exact zo_35 h
                · have e : m = 36 := by omega
                  subst e
                  exact zo_36 h
          · rcases Nat.lt_or_ge m 41 with q | q
            · rcases Nat.lt_or_ge m 39 with q | q
              · rcases Nat.lt_or_ge m 38 with q | q
                · have e : m = 37 := by omega
                  subst e
                  exact zo_37 h
                · have e : m = 38 := by omega
                  subst e
                  exact zo_38 h
              · rcases Nat.lt_or_ge m 40 with q | q
                · have e : m = 39 := by omega
                  subst e
                  exact zo_39 h
                · have e : m = 40 := by omega
                  subst e
                  exact zo_40 h
            · rcases Nat.lt_or_ge m 43 with q | q
              · rcases Nat.lt_or_ge m 42 with q | q
                · have e : m = 41 := by omega
                  subst e
                  exact zo_41 h
                · have e : m = 42 := by omega
                  subst e
                  exact zo_42 h
              · rcases Nat.lt_or_ge m 44 with q | q
                · have e : m = 43 := by omega
                  subst e
                  exact zo_43 h
                · have e : m = 44 := by omega
                  subst e
                  exact zo_44 h
        · rcases Nat.lt_or_ge m 53 with q | q
          · rcases Nat.lt_or_ge m 49 with q | q
            · rcases Nat.lt_or_ge m 47 with q | q
              · rcases Nat.lt_or_ge m 46 with q | q
                · have e : m = 45 := by omega
                  subst e
                  exact zo_45 h
                · have e : m = 46 := by omega
                  subst e
                  exact zo_46 h
              · rcases Nat.lt_or_ge m 48 with q | q
                · have e : m = 47 := by omega
                  subst e
                  exact zo_47 h
                · have e : m = 48 := by omega
                  subst e
                  exact zo_48 h
            · rcases Nat.lt_or_ge m 51 with q | q
              · rcases Nat.lt_or_ge m 50 with q | q
                · have e : m = 49 := by omega
                  subst e
                  exact zo_49 h
                · have e : m = 50 := by omega
                  subst e
                  exact zo_50 h
              · rcases Nat.lt_or_ge m 52 with q | q
                · have e : m = 51 := by omega
                  subst e
                  exact zo_51 h
                · have e : m = 52 := by omega
                  subst e
                  exact zo_52 h
          · rcases Nat.lt_or_ge m 57 with q | q
            · rcases Nat.lt_or_ge m 55 with q | q
              · rcases Nat.lt_or_ge m 54 with q | q
                · have e : m = 53 := by omega
                  subst e
                  exact zo_53 h
                · have e : m = 54 := by omega
                  subst e
                  exact zo_54 h
              · rcases Nat.lt_or_ge m 56 with q | q
                · have e : m = 55 := by omega
                  subst e
                  exact zo_55 h
                · have e : m = 56 := by omega
                  subst e
                  exact zo_56 h
            · rcases Nat.lt_or_ge m 59 with q | q
              · rcases Nat.lt_or_ge m 58 with q | q
                · have e : m = 57 := by omega
                  subst e
                  exact zo_57 h
                · have e : m = 58 := by omega
                  subst e
                  exact zo_58 h
              · rcases Nat.lt_or_ge m 60 with q | q
                · have e : m = 59 := by omega
                  subst e
                  exact zo_59 h
                · have e : m = 60 := by omega
                  subst e
                  exact zo_60 h
    · rcases Nat.lt_or_ge m 91 with q | q
      · rcases Nat.lt_or_ge m 76 with q | q
        · rcases Nat.lt_or_ge m 68 with q | q
          · rcases Nat.lt_or_ge m 64 with q | q
            · rcases Nat.lt_or_ge m 62 with q | q
              · have e : m = 61 := by omega
                subst e
                exact zo_61 h
              · rcases Nat.lt_or_ge m 63 with q | q
                · have e : m = 62 := by omega
                  subst e
                  exact zo_62 h
                · have e : m = 63 := by omega
                  subst e
                  exact zo_63 h
            · rcases Nat.lt_or_ge m 66 with q | q
              · rcases Nat.lt_or_ge m 65 with q | q
                · have e : m = 64 := by omega
                  subst e
                  exact zo_64 h
                · have e : m = 65 := by omega
                  subst e
                  exact zo_65 h
              · rcases Nat.lt_or_ge m 67 with q | q
                · have e : m = 66 := by omega
                  subst e
                  exact zo_66 h
                · have e : m = 67 := by omega
                  subst e
                  exact zo_67 h
          · rcases Nat.lt_or_ge m 72 with q | q
            · rcases Nat.lt_or_ge m 70 with q | q
              · rcases Nat.lt_or_ge m 69 with q | q
                · have e : m = 68 := by omega
                  subst e
                  exact zo_68 h
                · have e : m = 69 := by omega
                  subst e
                  exact zo_69 h
              · rcases Nat.lt_or_ge m 71 with q | q
                · have e : m = 70 := by omega
                  subst e
                  exact zo_70 h
                · have e : m = 71 := by omega
                  subst e
                  exact zo_71 h
            · rcases Nat.lt_or_ge m 74 with q | q
              · rcases Nat.lt_or_ge m 73 with q | q
                · have e : m = 72 := by omega
                  subst e
                  exact zo_72 h
                · have e : m = 73 := by omega
                  subst e
                  exact zo_73 h
              · rcases Nat.lt_or_ge m 75 with q | q
                · have e : m = 74 := by omega
                  subst e
                  exact zo_74 h
                · have e : m = 75 := by omega
                  subst e
                  exact zo_75 h
        · rcases Nat.lt_or_ge m 83 with q | q
          · rcases Nat.lt_or_ge m 79 with q | q
            · rcases Nat.lt_or_ge m 77 with q | q
              · have e : m = 76 := by omega
                subst e
                exact zo_76 h
              · rcases Nat.lt_or_ge m 78 with q | q
                · have e : m = 77 := by omega
                  subst e
                  exact zo_77 h
                · have e : m = 78 := by omega
                  subst e
                  exact zo_78 h
            · rcases Nat.lt_or_ge m 81 with q | q
              · rcases Nat.lt_or_ge m 80 with q | q
                · have e : m = 79 := by omega
                  subst e
                  exact zo_79 h
                · have e : m = 80 := by omega
                  subst e
                  exact zo_80 h
              · rcases Nat.lt_or_ge m 82 with q | q
                · have e : m = 81 := by omega
                  subst e
                  exact zo_81 h
                · have e : m = 82 := by omega
                  subst e
                  exact zo_82 h
          · rcases Nat.lt_or_ge m 87 with q | q
            · rcases Nat.lt_or_ge m 85 with q | q
              · rcases Nat.lt_or_ge m 84 with q | q
                · have e : m = 83 := by omega
                  subst e
                  exact zo_83 h
                · have e : m = 84 := by omega
                  subst e
                  exact zo_84 h
              · rcases Nat.lt_or_ge m 86 with q | q
                · have e : m = 85 := by omega
                  subst e
                  exact zo_85 h
                · have e : m = 86 := by omega
                  subst e
                  exact zo_86 h
            · rcases Nat.lt_or_ge m 89 with q | q
              · rcases Nat.lt_or_ge m 88 with q | q
                · have e : m = 87 := by omega
                  subst e
                  exact zo_87 h
                · have e : m = 88 := by omega
                  subst e
                  exact zo_88 h
              · rcases Nat.lt_or_ge m 90 with q | q
                · have e : m = 89 := by omega
                  subst e
                  exact zo_89 h
                · have e : m = 90 := by omega
                  subst e
                  exact zo_90 h
      · rcases Nat.lt_or_ge m 106 with q | q
        · rcases Nat.lt_or_ge m 98 with q | q
          · rcases Nat.lt_or_ge m 94 with q | q
            · rcases Nat.lt_or_ge m 92 with q | q
              · have e : m = 91 := by omega
                subst e
                exact zo_91 h
              · rcases Nat.lt_or_ge m 93 with q | q
                · have e : m = 92 := by omega
                  subst e
                  exact zo_92 h
                · have e : m = 93 := by omega
                  subst e
                  exact zo_93 h
            · rcases Nat.lt_or_ge m 96 with q | q
              · rcases Nat.lt_or_ge m 95 with q | q
                · have e : m = 94 := by omega
                  subst e
                  exact zo_94 h
                · have e : m = 95 := by omega
                  subst e
                  exact zo_95 h
              · rcases Nat.lt_or_ge m 97 with q | q
                · have e : m = 96 := by omega
                  subst e
                  exact zo_96 h
                · have e : m = 97 := by omega
                  subst e
                  exact zo_97 h
          · rcases Nat.lt_or_ge m 102 with q | q
            · rcases Nat.lt_or_ge m 100 with q | q
              · rcases Nat.lt_or_ge m 99 with q | q
                · have e : m = 98 := by omega
                  subst e
                  exact zo_98 h
                · have e : m = 99 := by omega
                  subst e
                  exact zo_99 h
              · rcases Nat.lt_or_ge m 101 with q | q
                · have e : m = 100 := by omega
                  subst e
                  exact zo_100 h
                · have e : m = 101 := by omega
                  subst e
                  exact zo_101 h
            · rcases Nat.lt_or_ge m 104 with q | q
              · rcases Nat.lt_or_ge m 103 with q | q
                · have e : m = 102 := by omega
                  subst e
                  exact zo_102 h
                · have e : m = 103 := by omega
                  subst e
                  exact zo_103 h
              · rcases Nat.lt_or_ge m 105 with q | q
                · have e : m = 104 := by omega
                  subst e
                  exact zo_104 h
                · have e : m = 105 := by omega
                  subst e
                  exact zo_105 h
        · rcases Nat.lt_or_ge m 114 with q | q
          · rcases Nat.lt_or_ge m 110 with q | q
            · rcases Nat.lt_or_ge m 108 with q | q
              · rcases Nat.lt_or_ge m 107 with q | q
                · have e : m = 106 := by omega
                  subst e
                  exact zo_106 h
                · have e : m = 107 := by omega
                  subst e
                  exact zo_107 h
              · rcases Nat.lt_or_ge m 109 with q | q
                · have e : m = 108 := by omega
                  subst e
                  exact zo_108 h
                · have e : m = 109 := by omega
                  subst e
                  exact zo_109 h
            · rcases Nat.lt_or_ge m 112 with q | q
              · rcases Nat.lt_or_ge m 111 with q | q
                · have e : m = 110 := by omega
                  subst e
                  exact zo_110 h
                · have e : m = 111 := by omega
                  subst e
                  exact zo_111 h
              · rcases Nat.lt_or_ge m 113 with q | q
                · have e : m = 112 := by omega
                  subst e
                  exact zo_112 h
                · have e : m = 113 := by omega
                  subst e
                  exact zo_113 h
          · rcases Nat.lt_or_ge m 118 with q | q
            · rcases Nat.lt_or_ge m 116 with q | q
              · rcases Nat.lt_or_ge m 115 with q | q
                · have e : m = 114 := by omega
                  subst e
                  exact zo_114 h
                · have e : m = 115 := by omega
                  subst e
                  exact zo_115 h
              · rcases Nat.lt_or_ge m 117 with q | q
                · have e : m = 116 := by omega
                  subst e
                  exact zo_116 h
                · have e : m = 117 := by omega
                  subst e
                  exact zo_117 h
            · rcases Nat.lt_or_ge m 120 with q | q
              · rcases Nat.lt_or_ge m 119 with q | q
                · have e : m = 118 := by omega
                  subst e
                  exact zo_118 h
                · have e : m = 119 := by omega
                  subst e
                  exact zo_119 h
              · rcases Nat.lt_or_ge m 121 with q | q
                · have e : m = 120 := by omega
                  subst e
                  exact zo_120 h
                · have e : m = 121 := by omega
                  subst e
                  exact zo_121 h
  · rcases Nat.lt_or_ge m 183 with q | q
    · rcases Nat.lt_or_ge m 152 with q | q
      · rcases Nat.lt_or_ge m 137 with q | q
        · rcases Nat.lt_or_ge m 129 with q | q
          · rcases Nat.lt_or_ge m 125 with q | q
            · rcases Nat.lt_or_ge m 123 with q | q
              · have e : m = 122 := by omega
                subst e
                exact zo_122 h
              · rcases Nat.lt_or_ge m 124 with q | q
                · have e : m = 123 := by omega
                  subst e
                  exact zo_123 h
                · have e : m = 124 := by omega
                  subst e
                  exact zo_124 h
            · rcases Nat.lt_or_ge m 127 with q | q
              · rcases Nat.lt_or_ge m 126 with q | q
                · have e : m = 125 := by omega
                  subst e
                  exact zo_125 h
                · have e : m = 126 := by omega
                  subst e
                  exact zo_126 h
              · rcases Nat.lt_or_ge m 128 with q | q
                · have e : m = 127 := by omega
                  subst e
                  exact zo_127 h
                · have e : m = 128 := by omega
                  subst e
                  exact zo_128 h
          · rcases Nat.lt_or_ge m 133 with q | q
            · rcases Nat.lt_or_ge m 131 with q | q
              · rcases Nat.lt_or_ge m 130 with q | q
                · have e : m = 129 := by omega
                  subst e
                  exact zo_129 h
                · have e : m = 130 := by omega
                  subst e
                  exact zo_130 h
              · rcases Nat.lt_or_ge m 132 with q | q
                · have e : m = 131 := by omega
                  subst e
                  exact zo_131 h
                · have e : m = 132 := by omega
                  subst e
                  exact zo_132 h
            · rcases Nat.lt_or_ge m 135 with q | q
              · rcases Nat.lt_or_ge m 134 with q | q
                · have e : m = 133 := by omega
                  subst e
                  exact zo_133 h
                · have e : m = 134 := by omega
                  subst e
                  exact zo_134 h
              · rcases Nat.lt_or_ge m 136 with q | q
                · have e : m = 135 := by omega
                  subst e
                  exact zo_135 h
                · have e : m = 136 := by omega
                  subst e
                  exact zo_136 h
        · rcases Nat.lt_or_ge m 144 with q | q
          · rcases Nat.lt_or_ge m 140 with q | q
            · rcases Nat.lt_or_ge m 138 with q | q
              · have e : m = 137 := by omega
                subst e
                exact zo_137 h
              · rcases Nat.lt_or_ge m 139 with q | q
                · have e : m = 138 := by omega
                  subst e
                  exact zo_138 h
                · have e : m = 139 := by omega
                  subst e
                  exact zo_139 h
            · rcases Nat.lt_or_ge m 142 with q | q
              · rcases Nat.lt_or_ge m 141 with q | q
                · have e : m = 140 := by omega
                  subst e
                  exact zo_140 h
                · have e : m = 141 := by omega
                  subst e
                  exact zo_141 h
              · rcases Nat.lt_or_ge m 143 with q | q
                · have e : m = 142 := by omega
                  subst e
                  exact zo_142 h
                · have e : m = 143 := by omega
                  subst e
                  exact zo_143 h
          · rcases Nat.lt_or_ge m 148 with q | q
            · rcases Nat.lt_or_ge m 146 with q | q
              · rcases Nat.lt_or_ge m 145 with q | q
                · have e : m = 144 := by omega
                  subst e
                  exact zo_144 h
                · have e : m = 145 := by omega
                  subst e
                  exact zo_145 h
              · rcases Nat.lt_or_ge m 147 with q | q
                · have e : m = 146 := by omega
                  subst e
                  exact zo_146 h
                · have e : m = 147 := by omega
                  subst e
                  exact zo_147 h
            · rcases Nat.lt_or_ge m 150 with q | q
              · rcases Nat.lt_or_ge m 149 with q | q
                · have e : m = 148 := by omega
                  subst e
                  exact zo_148 h
                · have e : m = 149 := by omega
                  subst e
                  exact zo_149 h
              · rcases Nat.lt_or_ge m 151 with q | q
                · have e : m = 150 := by omega
                  subst e
                  exact zo_150 h
                · have e : m = 151 := by omega
                  subst e
                  exact zo_151 h
      · rcases Nat.lt_or_ge m 167 with q | q
        · rcases Nat.lt_or_ge m 159 with q | q
          · rcases Nat.lt_or_ge m 155 with q | q
            · rcases Nat.lt_or_ge m 153 with q | q
              · have e : m = 152 := by omega
                subst e
                exact zo_152 h
              · rcases Nat.lt_or_ge m 154 with q | q
                · have e : m = 153 := by omega
                  subst e
                  exact zo_153 h
                · have e : m = 154 := by omega
                  subst e
                  exact zo_154 h
            · rcases Nat.lt_or_ge m 157 with q | q
              · rcases Nat.lt_or_ge m 156 with q | q
                · have e : m = 155 := by omega
                  subst e
                  exact zo_155 h
                · have e : m = 156 := by omega
                  subst e
                  exact zo_156 h
              · rcases Nat.lt_or_ge m 158 with q | q
                · have e : m = 157 := by omega
                  subst e
                  exact zo_157 h
                · have e : m = 158 := by omega
                  subst e
                  exact zo_158 h
          · rcases Nat.lt_or_ge m 163 with q | q
            · rcases Nat.lt_or_ge m 161 with q | q
              · rcases Nat.lt_or_ge m 160 with q | q
                · have e : m = 159 := by omega
                  subst e
                  exact zo_159 h
                · have e : m = 160 := by omega
                  subst e
                  exact zo_160 h
              · rcases Nat.lt_or_ge m 162 with q | q
                · have e : m = 161 := by omega
                  subst e
                  exact zo_161 h
                · have e : m = 162 := by omega
                  subst e
                  exact zo_162 h
            · rcases Nat.lt_or_ge m 165 with q | q
              · rcases Nat.lt_or_ge m 164 with q | q
                · have e : m = 163 := by omega
                  subst e
                  exact zo_163 h
                · have e : m = 164 := by omega
                  subst e
                  exact zo_164 h
              · rcases Nat.lt_or_ge m 166 with q | q
                · have e : m = 165 := by omega
                  subst e
                  exact zo_165 h
                · have e : m = 166 := by omega
                  subst e
                  exact zo_166 h
        · rcases Nat.lt_or_ge m 175 with q | q
          · rcases Nat.lt_or_ge m 171 with q | q
            · rcases Nat.lt_or_ge m 169 with q | q
              · rcases Nat.lt_or_ge m 168 with q | q
                · have e : m = 167 := by omega
                  subst e
                  exact zo_167 h
                · have e : m = 168 := by omega
                  subst e
                  exact zo_168 h
              · rcases Nat.lt_or_ge m 170 with q | q
                · have e : m = 169 := by omega
                  subst e
                  exact zo_169 h
                · have e : m = 170 := by omega
                  subst e
                  exact zo_170 h
            · rcases Nat.lt_or_ge m 173 with q | q
              · rcases Nat.lt_or_ge m 172 with q | q
                · have e : m = 171 := by omega
                  subst e
                  exact zo_171 h
                · have e : m = 172 := by omega
                  subst e
                  exact zo_172 h
              · rcases Nat.lt_or_ge m 174 with q | q
                · have e : m = 173 := by omega
                  subst e
                  exact zo_173 h
                · have e : m = 174 := by omega
                  subst e
                  exact zo_174 h
          · rcases Nat.lt_or_ge m 179 with q | q
            · rcases Nat.lt_or_ge m 177 with q | q
              · rcases Nat.lt_or_ge m 176 with q | q
                · have e : m = 175 := by omega
                  subst e
                  exact zo_175 h
                · have e : m = 176 := by omega
                  subst e
                  exact zo_176 h
              · rcases Nat.lt_or_ge m 178 with q | q
                · have e : m = 177 := by omega
                  subst e
                  exact zo_177 h
                · have e : m = 178 := by omega
                  subst e
                  exact zo_178 h
            · rcases Nat.lt_or_ge m 181 with q | q
              · rcases Nat.lt_or_ge m 180 with q | q
                · have e : m = 179 := by omega
                  subst e
                  exact zo_179 h
                · have e : m = 180 := by omega
                  subst e
                  exact zo_180 h
              · rcases Nat.lt_or_ge m 182 with q | q
                · have e : m = 181 := by omega
                  subst e
                  exact zo_181 h
                · have e : m = 182 := by omega
                  subst e
                  exact zo_182 h
    · rcases Nat.lt_or_ge m 213 with q | q
      · rcases Nat.lt_or_ge m 198 with q | q
        · rcases Nat.lt_or_ge m 190 with q | q
          · rcases Nat.lt_or_ge m 186 with q | q
            · rcases Nat.lt_or_ge m 184 with q | q
              · have e : m = 183 := by omega
                subst e
                exact zo_183 h
              · rcases Nat.lt_or_ge m 185 with q | q
                · have e : m = 184 := by omega
                  subst e
                  exact zo_184 h
                · have e : m = 185 := by omega
                  subst e
                  exact zo_185 h
            · rcases Nat.lt_or_ge m 188 with q | q
              · rcases Nat.lt_or_ge m 187 with q | q
                · have e : m = 186 := by omega
                  subst e
                  exact zo_186 h
                · have e : m = 187 := by omega
                  subst e
                  exact zo_187 h
              · rcases Nat.lt_or_ge m 189 with q | q
                · have e : m = 188 := by omega
                  subst e
                  exact zo_188 h
                · have e : m = 189 := by omega
                  subst e
                  exact zo_189 h
          · rcases Nat.lt_or_ge m 194 with q | q
            · rcases Nat.lt_or_ge m 192 with q | q
              · rcases Nat.lt_or_ge m 191 with q | q
                · have e : m = 190 := by omega
                  subst e
                  exact zo_190 h
                · have e : m = 191 := by omega
                  subst e
                  exact zo_191 h
              · rcases Nat.lt_or_ge m 193 with q | q
                · have e : m = 192 := by omega
                  subst e
                  exact zo_192 h
                · have e : m = 193 := by omega
                  subst e
                  exact zo_193 h
            · rcases Nat.lt_or_ge m 196 with q | q
              · rcases Nat.lt_or_ge m 195 with q | q
                · have e : m = 194 := by omega
                  subst e
                  exact zo_194 h
                · have e : m = 195 := by omega
                  subst e
                  exact zo_195 h
              · rcases Nat.lt_or_ge m 197 with q | q
                · have e : m = 196 := by omega
                  subst e
                  exact zo_196 h
                · have e : m = 197 := by omega
                  subst e
                  exact zo_197 h
        · rcases Nat.lt_or_ge m 205 with q | q
          · rcases Nat.lt_or_ge m 201 with q | q
            · rcases Nat.lt_or_ge m 199 with q | q
              · have e : m = 198 := by omega
                subst e
                exact zo_198 h
              · rcases Nat.lt_or_ge m 200 with q | q
                · have e : m = 199 := by omega
                  subst e
                  exact zo_199 h
                · have e : m = 200 := by omega
                  subst e
                  exact zo_200 h
            · rcases Nat.lt_or_ge m 203 with q | q
              · rcases Nat.lt_or_ge m 202 with q | q
                · have e : m = 201 := by omega
                  subst e
                  exact zo_201 h
                · have e : m = 202 := by omega
                  subst e
                  exact zo_202 h
              · rcases Nat.lt_or_ge m 204 with q | q
                · have e : m = 203 := by omega
                  subst e
                  exact zo_203 h
                · have e : m = 204 := by omega
                  subst e
                  exact zo_204 h
          · rcases Nat.lt_or_ge m 209 with q | q
            · rcases Nat.lt_or_ge m 207 with q | q
              · rcases Nat.lt_or_ge m 206 with q | q
                · have e : m = 205 := by omega
                  subst e
                  exact zo_205 h
                · have e : m = 206 := by omega
                  subst e
                  exact zo_206 h
              · rcases Nat.lt_or_ge m 208 with q | q
                · have e : m = 207 := by omega
                  subst e
                  exact zo_207 h
                · have e : m = 208 := by omega
                  subst e
                  exact zo_208 h
            · rcases Nat.lt_or_ge m 211 with q | q
              · rcases Nat.lt_or_ge m 210 with q | q
                · have e : m = 209 := by omega
                  subst e
                  exact zo_209 h
                · have e : m = 210 := by omega
                  subst e
                  exact zo_210 h
              · rcases Nat.lt_or_ge m 212 with q | q
                · have e : m = 211 := by omega
                  subst e
                  exact zo_211 h
                · have e : m = 212 := by omega
                  subst e
                  exact zo_212 h
      · rcases Nat.lt_or_ge m 228 with q | q
        · rcases Nat.lt_or_ge m 220 with q | q
          · rcases Nat.lt_or_ge m 216 with q | q
            · rcases Nat.lt_or_ge m 214 with q | q
              · have e : m = 213 := by omega
                subst e
                exact zo_213 h
              · rcases Nat.lt_or_ge m 215 with q | q
                · have e : m = 214 := by omega
                  subst e
                  exact zo_214 h
                · have e : m = 215 := by omega
                  subst e
                  exact zo_215 h
            · rcases Nat.lt_or_ge m 218 with q | q
              · rcases Nat.lt_or_ge m 217 with q | q
                · have e : m = 216 := by omega
                  subst e
                  exact zo_216 h
                · have e : m = 217 := by omega
                  subst e
                  exact zo_217 h
              · rcases Nat.lt_or_ge m 219 with q | q
                · have e : m = 218 := by omega
                  subst e
                  exact zo_218 h
                · have e : m = 219 := by omega
                  subst e
                  exact zo_219 h
          · rcases Nat.lt_or_ge m 224 with q | q
            · rcases Nat.lt_or_ge m 222 with q | q
              · rcases Nat.lt_or_ge m 221 with q | q
                · have e : m = 220 := by omega
                  subst e
                  exact zo_220 h
                · have e : m = 221 := by omega
                  subst e
                  exact zo_221 h
              · rcases Nat.lt_or_ge m 223 with q | q
                · have e : m = 222 := by omega
                  subst e
                  exact zo_222 h
                · have e : m = 223 := by omega
                  subst e
                  exact zo_223 h
            · rcases Nat.lt_or_ge m 226 with q | q
              · rcases Nat.lt_or_ge m 225 with q | q
                · have e : m = 224 := by omega
                  subst e
                  exact zo_224 h
                · have e : m = 225 := by omega
                  subst e
                  exact zo_225 h
              · rcases Nat.lt_or_ge m 227 with q | q
                · have e : m = 226 := by omega
                  subst e
                  exact zo_226 h
                · have e : m = 227 := by omega
                  subst e
                  exact zo_227 h
        · rcases Nat.lt_or_ge m 236 with q | q
          · rcases Nat.lt_or_ge m 232 with q | q
            · rcases Nat.lt_or_ge m 230 with q | q
              · rcases Nat.lt_or_ge m 229 with q | q
                · have e : m = 228 := by omega
                  subst e
                  exact zo_228 h
                · have e : m = 229 := by omega
                  subst e
                  exact zo_229 h
              · rcases Nat.lt_or_ge m 231 with q | q
                · have e : m = 230 := by omega
                  subst e
                  exact zo_230 h
                · have e : m = 231 := by omega
                  subst e
                  exact zo_231 h
            · rcases Nat.lt_or_ge m 234 with q | q
              · rcases Nat.lt_or_ge m 233 with q | q
                · have e : m = 232 := by omega
                  subst e
                  exact zo_232 h
                · have e : m = 233 := by omega
                  subst e
                  exact zo_233 h
              · rcases Nat.lt_or_ge m 235 with q | q
                · have e : m = 234 := by omega
                  subst e
                  exact zo_234 h
                · have e : m = 235 := by omega
                  subst e
                  exact zo_235 h
          · rcases Nat.lt_or_ge m 240 with q | q
            · rcases Nat.lt_or_ge m 238 with q | q
              · rcases Nat.lt_or_ge m 237 with q | q
                · have e : m = 236 := by omega
                  subst e
                  exact zo_236 h
                · have e : m = 237 := by omega
                  subst e
                  exact zo_237 h
              · rcases Nat.lt_or_ge m 239 with q | q
                · have e : m = 238 := by omega
                  subst e
                  exact zo_238 h
                · have e : m = 239 := by omega
                  subst e
                  exact zo_239 h
            · rcases Nat.lt_or_ge m 242 with q | q
              · rcases Nat.lt_or_ge m 241 with q | q
                · have e : m = 240 := by omega
                  subst e
                  exact zo_240 h
                · have e : m = 241 := by omega
                  subst e
                  exact zo_241 h
              · rcases Nat.lt_or_ge m 243 with q | q
                · have e : m = 242 := by omega
                  subst e
                  exact zo_242 h
                · have e : m = 243 := by omega
                  subst e
                  exact zo_243 h
set_option maxRecDepth 100000 in
theorem zg_0 : ((List.range' 0 6).all fun m => (List.range (zcl m)).all (zchkP m)) = true := by decide +kernel
set_option maxRecDepth 100000 in
theorem zg_6 : ((List.range' 6 8).all fun m => (List.range (zcl m)).all (zchkP m)) = true := by decide +kernel
set_option maxRecDepth 100000 in
theorem zg_14 : ((List.range' 14 12).all fun m => (List.range (zcl m)).all (zchkP m)) = true := by decide +kernel
set_option maxRecDepth 100000 in
theorem zg_26 : ((List.range' 26 8).all fun m => (List.range (zcl m)).all (zchkP m)) = true := by decide +kernel
set_option maxRecDepth 100000 in
theorem zg_34 : ((List.range' 34 8).all fun m => (List.range (zcl m)).all (zchkP m)) = true := by decide +kernel
set_option maxRecDepth 100000 in
theorem zg_42 : ((List.range' 42 11).all fun m => (List.range (zcl m)).all (zchkP m)) = true := by decide +kernel
set_option maxRecDepth 100000 in
theorem zg_53 : ((List.range' 53 8).all fun m => (List.range (zcl m)).all (zchkP m)) = true := by decide +kernel
set_option maxRecDepth 100000 in
theorem zg_61 : ((List.range' 61 8).all fun m => (List.range (zcl m)).all (zchkP m)) = true := by decide +kernel
set_option maxRecDepth 100000 in
theorem zg_69 : ((List.range' 69 9).all fun m => (List.range (zcl m)).all (zchkP m)) = true := by decide +kernel
set_option maxRecDepth 100000 in
theorem zg_78 : ((List.range' 78 5).all fun m => (List.range (zcl m)).all (zchkP m)) = true := by decide +kernel
set_option maxRecDepth 100000 in
theorem zg_83 : ((List.range' 83 7).all fun m => (List.range (zcl m)).all (zchkP m)) = true := by decide +kernel
set_option maxRecDepth 100000 in
theorem zg_90 : ((List.range' 90 10).all fun m => (List.range (zcl m)).all (zchkP m)) = true := by decide +kernel
set_option maxRecDepth 100000 in
theorem zg_100 : ((List.range' 100 5).all fun m => (List.range (zcl m)).all (zchkP m)) = true := by decide +kernel
set_option maxRecDepth 100000 in
theorem zg_105 : ((List.range' 105 7).all fun m => (List.range (zcl m)).all (zchkP m)) = true := by decide +kernel
set_option maxRecDepth 100000 in
theorem zg_112 : ((List.range' 112 6).all fun m => (List.range (zcl m)).all (zchkP m)) = true := by decide +kernel
set_option maxRecDepth 100000 in
theorem zg_118 : ((List.range' 118 9).all fun m => (List.range (zcl m)).all (zchkP m)) = true := by decide +kernel
set_option maxRecDepth 100000 in
theorem zg_127 : ((List.range' 127 8).all fun m => (List.range (zcl m)).all (zchkP m)) = true := by decide +kernel
set_option maxRecDepth 100000 in
theorem zk_135_0 : ((List.range' 0 155).all (zchkP 135)) = true := by decide +kernel
set_option maxRecDepth 100000 in
theorem zk_135_1 : ((List.range' 155 155).all (zchkP 135)) = true := by decide +kernel
set_option maxRecDepth 100000 in
theorem zk_135_2 : ((List.range' 310 155).all (zchkP 135)) = true := by decide +kernel
set_option maxRecDepth 100000 in
theorem zk_135_3 : ((List.range' 465 152).all (zchkP 135)) = true := by decide +kernel
set_option maxRecDepth 100000 in
theorem zg_136 : ((List.range' 136 11).all fun m => (List.range (zcl m)).all (zchkP m)) = true := by decide +kernel
set_option maxRecDepth 100000 in
theorem zg_147 : ((List.range' 147 9).all fun m => (List.range (zcl m)).all (zchkP m)) = true := by decide +kernel
set_option maxRecDepth 100000 in
theorem zg_156 : ((List.range' 156 7).all fun m => (List.range (zcl m)).all (zchkP m)) = true := by decide +kernel
set_option maxRecDepth 100000 in
theorem zg_163 : ((List.range' 163 8).all fun m => (List.range (zcl m)).all (zchkP m)) = true := by decide +kernel
set_option maxRecDepth 100000 in
theorem zg_171 : ((List.range' 171 3).all fun m => (List.range (zcl m)).all (zchkP m)) = true := by decide +kernel
set_option maxRecDepth 100000 in
theorem zg_174 : ((List.range' 174 9).all fun m => (List.range (zcl m)).all (zchkP m)) = true := by decide +kernel
set_option maxRecDepth 100000 in
theorem zg_183 : ((List.range' 183 7).all fun m => (List.range (zcl m)).all (zchkP m)) = true := by decide +kernel
set_option maxRecDepth 100000 in
theorem zg_190 : ((List.range' 190 4).all fun m => (List.range (zcl m)).all (zchkP m)) = true := by decide +kernel
set_option maxRecDepth 100000 in
theorem zg_194 : ((List.range' 194 7).all fun m => (List.range (zcl m)).all (zchkP m)) = true := by decide +kernel
set_option maxRecDepth 100000 in
theorem zg_201 : ((List.range' 201 3).all fun m => (List.range (zcl m)).all (zchkP m)) = true := by decide +kernel
set_option maxRecDepth 100000 in
theorem zg_204 : ((List.range' 204 6).all fun m => (List.range (zcl m)).all (zchkP m)) = true := by decide +kernel
set_option maxRecDepth 100000 in
theorem zg_210 : ((List.range' 210 5).all fun m => (List.range (zcl m)).all (zchkP m)) = true := by decide +kernel
set_option maxRecDepth 100000 in
theorem zg_215 : ((List.range' 215 2).all fun m => (List.range (zcl m)).all (zchkP m)) = true := by decide +kernel
set_option maxRecDepth 100000 in
theorem zg_217 : ((List.range' 217 10).all fun m => (List.range (zcl m)).all (zchkP m)) = true := by decide +kernel
set_option maxRecDepth 100000 in
theorem zg_227 : ((List.range' 227 7).all fun m => (List.range (zcl m)).all (zchkP m)) = true := by decide +kernel
set_option maxRecDepth 100000 in
theorem zg_234 : ((List.range' 234 9).all fun m => (List.range (zcl m)).all (zchkP m)) = true := by decide +kernel
set_option maxRecDepth 100000 in
theorem zk_243_0 : ((List.range' 0 153).all (zchkP 243)) = true := by decide +kernel
set_option maxRecDepth 100000 in
theorem zk_243_1 : ((List.range' 153 153).all (zchkP 243)) = true := by decide +kernel
set_option maxRecDepth 100000 in
theorem zk_243_2 : ((List.range' 306 153).all (zchkP 243)) = true := by decide +kernel
set_option maxRecDepth 100000 in
theorem zk_243_3 : ((List.range' 459 153).all (zchkP 243)) = true := by decide +kernel
set_option maxRecDepth 100000 in
theorem zk_243_4 : ((List.range' 612 153).all (zchkP 243)) = true := by decide +kernel
set_option maxRecDepth 100000 in
theorem zk_243_5 : ((List.range' 765 153).all (zchkP 243)) = true := by decide +kernel
set_option maxRecDepth 100000 in
theorem zk_243_6 : ((List.range' 918 153).all (zchkP 243)) = true := by decide +kernel
set_option maxRecDepth 100000 in
theorem zk_243_7 : ((List.range' 1071 153).all (zchkP 243)) = true := by decide +kernel
set_option maxRecDepth 100000 in
theorem zk_243_8 : ((List.range' 1224 153).all (zchkP 243)) = true := by decide +kernel
set_option maxRecDepth 100000 in
theorem zk_243_9 : ((List.range' 1377 150).all (zchkP 243)) = true := by decide +kernel
theorem zin_r {a n x : Nat} {f : Nat → Bool} (h : ((List.range' a n).all f) = true) (h1 : a ≤ x) (h2 : x < a + n) : f x = true := List.all_eq_true.mp h x (by rw [List.mem_range'_1]; omega)
theorem zchk_all (m : Nat) (hm : m < 244) (pc : Nat) (h : pc < zcl m) : zchkP m pc = true := by
  rcases Nat.lt_or_ge m 135 with q | q
  · rcases Nat.lt_or_ge m 69 with q | q
    · rcases Nat.lt_or_ge m 34 with q | q
      · rcases Nat.lt_or_ge m 14 with q | q
        · rcases Nat.lt_or_ge m 6 with q | q
          · exact List.all_eq_true.mp (zin_r zg_0 (x := m) (by omega) (by omega)) pc (List.mem_range.mpr h)
          · exact List.all_eq_true.mp (zin_r zg_6 (x := m) (by omega) (by omega)) pc (List.mem_range.mpr h)
        · rcases Nat.lt_or_ge m 26 with q | q
          · exact List.all_eq_true.mp (zin_r zg_14 (x := m) (by omega) (by omega)) pc (List.mem_range.mpr h)
          · exact List.all_eq_true.mp (zin_r zg_26 (x := m) (by omega) (by omega)) pc (List.mem_range.mpr h)
      · rcases Nat.lt_or_ge m 53 with q | q
        · rcases Nat.lt_or_ge m 42 with q | q
          · exact List.all_eq_true.mp (zin_r zg_34 (x := m) (by omega) (by omega)) pc (List.mem_range.mpr h)
          · exact List.all_eq_true.mp (zin_r zg_42 (x := m) (by omega) (by omega)) pc (List.mem_range.mpr h)
        · rcases Nat.lt_or_ge m 61 with q | q
          · exact List.all_eq_true.mp (zin_r zg_53 (x := m) (by omega) (by omega)) pc (List.mem_range.mpr h)
          · exact List.all_eq_true.mp (zin_r zg_61 (x := m) (by omega) (by omega)) pc (List.mem_range.mpr h)
    · rcases Nat.lt_or_ge m 100 with q | q
      · rcases Nat.lt_or_ge m 83 with q | q
        · rcases Nat.lt_or_ge m 78 with q | q
          · exact List.all_eq_true.mp (zin_r zg_69 (x := m) (by omega) (by omega)) pc (List.mem_range.mpr h)
          · exact List.all_eq_true.mp (zin_r zg_78 (x := m) (by omega) (by omega)) pc (List.mem_range.mpr h)
        · rcases Nat.lt_or_ge m 90 with q | q
          · exact List.all_eq_true.mp (zin_r zg_83 (x := m) (by omega) (by omega)) pc (List.mem_range.mpr h)
          · exact List.all_eq_true.mp (zin_r zg_90 (x := m) (by omega) (by omega)) pc (List.mem_range.mpr h)
      · rcases Nat.lt_or_ge m 112 with q | q
        · rcases Nat.lt_or_ge m 105 with q | q
          · exact List.all_eq_true.mp (zin_r zg_100 (x := m) (by omega) (by omega)) pc (List.mem_range.mpr h)
          · exact List.all_eq_true.mp (zin_r zg_105 (x := m) (by omega) (by omega)) pc (List.mem_range.mpr h)
        · rcases Nat.lt_or_ge m 118 with q | q
          · exact List.all_eq_true.mp (zin_r zg_112 (x := m) (by omega) (by omega)) pc (List.mem_range.mpr h)
          · rcases Nat.lt_or_ge m 127 with q | q
            · exact List.all_eq_true.mp (zin_r zg_118 (x := m) (by omega) (by omega)) pc (List.mem_range.mpr h)
            · exact List.all_eq_true.mp (zin_r zg_127 (x := m) (by omega) (by omega)) pc (List.mem_range.mpr h)
  · rcases Nat.lt_or_ge m 194 with q | q
    · rcases Nat.lt_or_ge m 163 with q | q
      · rcases Nat.lt_or_ge m 147 with q | q
        · rcases Nat.lt_or_ge m 136 with q | q
          · have e : m = 135 := by omega
            subst e
            have h9 : pc < 617 := h
            rcases Nat.lt_or_ge pc 310 with r | r
            · rcases Nat.lt_or_ge pc 155 with r | r
              · exact zin_r zk_135_0 (by omega) (by omega)
              · exact zin_r zk_135_1 (by omega) (by omega)
            · rcases Nat.lt_or_ge pc 465 with r | r
              · exact zin_r zk_135_2 (by omega) (by omega)
              · exact zin_r zk_135_3 (by omega) (by omega)
          · exact List.all_eq_true.mp (zin_r zg_136 (x := m) (by omega) (by omega)) pc (List.mem_range.mpr h)
        · rcases Nat.lt_or_ge m 156 with q | q
          · exact List.all_eq_true.mp (zin_r zg_147 (x := m) (by omega) (by omega)) pc (List.mem_range.mpr h)
          · exact List.all_eq_true.mp (zin_r zg_156 (x := m) (by omega) (by omega)) pc (List.mem_range.mpr h)
      · rcases Nat.lt_or_ge m 174 with q | q
        · rcases Nat.lt_or_ge m 171 with q | q
          · exact List.all_eq_true.mp (zin_r zg_163 (x := m) (by omega) (by omega)) pc (List.mem_range.mpr h)
          · exact List.all_eq_true.mp (zin_r zg_171 (x := m) (by omega) (by omega)) pc (List.mem_range.mpr h)
        · rcases Nat.lt_or_ge m 183 with q | q
          · exact List.all_eq_true.mp (zin_r zg_174 (x := m) (by omega) (by omega)) pc (List.mem_range.mpr h)
          · rcases Nat.lt_or_ge m 190 with q | q
            · exact List.all_eq_true.mp (zin_r zg_183 (x := m) (by omega) (by omega)) pc (List.mem_range.mpr h)
            · exact List.all_eq_true.mp (zin_r zg_190 (x := m) (by omega) (by omega)) pc (List.mem_range.mpr h)
    · rcases Nat.lt_or_ge m 215 with q | q
      · rcases Nat.lt_or_ge m 204 with q | q
        · rcases Nat.lt_or_ge m 201 with q | q
          · exact List.all_eq_true.mp (zin_r zg_194 (x := m) (by omega) (by omega)) pc (List.mem_range.mpr h)
          · exact List.all_eq_true.mp (zin_r zg_201 (x := m) (by omega) (by omega)) pc (List.mem_range.mpr h)
        · rcases Nat.lt_or_ge m 210 with q | q
          · exact List.all_eq_true.mp (zin_r zg_204 (x := m) (by omega) (by omega)) pc (List.mem_range.mpr h)
          · exact List.all_eq_true.mp (zin_r zg_210 (x := m) (by omega) (by omega)) pc (List.mem_range.mpr h)
      · rcases Nat.lt_or_ge m 227 with q | q
        · rcases Nat.lt_or_ge m 217 with q | q
          · exact List.all_eq_true.mp (zin_r zg_215 (x := m) (by omega) (by omega)) pc (List.mem_range.mpr h)
          · exact List.all_eq_true.mp (zin_r zg_217 (x := m) (by omega) (by omega)) pc (List.mem_range.mpr h)
        · rcases Nat.lt_or_ge m 234 with q | q
          · exact List.all_eq_true.mp (zin_r zg_227 (x := m) (by omega) (by omega)) pc (List.mem_range.mpr h)
          · rcases Nat.lt_or_ge m 243 with q | q
            · exact List.all_eq_true.mp (zin_r zg_234 (x := m) (by omega) (by omega)) pc (List.mem_range.mpr h)
            · have e : m = 243 := by omega
              subst e
              have h9 : pc < 1527 := h
              rcases Nat.lt_or_ge pc 765 with r | r
              · rcases Nat.lt_or_ge pc 306 with r | r
                · rcases Nat.lt_or_ge pc 153 with r | r
                  · exact zin_r zk_243_0 (by omega) (by omega)
                  · exact zin_r zk_243_1 (by omega) (by omega)
                · rcases Nat.lt_or_ge pc 459 with r | r
                  · exact zin_r zk_243_2 (by omega) (by omega)
                  · rcases Nat.lt_or_ge pc 612 with r | r
                    · exact zin_r zk_243_3 (by omega) (by omega)
                    · exact zin_r zk_243_4 (by omega) (by omega)
              · rcases Nat.lt_or_ge pc 1071 with r | r
                · rcases Nat.lt_or_ge pc 918 with r | r
                  · exact zin_r zk_243_5 (by omega) (by omega)
                  · exact zin_r zk_243_6 (by omega) (by omega)
                · rcases Nat.lt_or_ge pc 1224 with r | r
                  · exact zin_r zk_243_7 (by omega) (by omega)
                  · rcases Nat.lt_or_ge pc 1377 with r | r
                    · exact zin_r zk_243_8 (by omega) (by omega)
                    · exact zin_r zk_243_9 (by omega) (by omega)
theorem zck_all : ∀ m, m < 244 → ∀ pc, (zcode m pc).1 = 0 ∨ ∃ (i : Instr) (len : Nat), decode (zby m) pc = .ok (i, len) ∧ zcode m pc = zcomp m pc i len := by
  intro m hm pc
  rcases Nat.lt_or_ge pc (zcl m) with h | h
  · have h1 := zchk_all m hm pc h
    unfold zchkP at h1
    rw [Bool.or_eq_true] at h1
    rcases h1 with h1 | h1
    · exact Or.inl (Nat.eq_of_beq_eq_true h1)
    · refine Or.inr ?_
      unfold zchk at h1
      split at h1
      · rename_i i len hd
        exact ⟨i, len, hd, zopeq_eq h1⟩
      · cases h1
  · exact Or.inl (zo_all m hm pc h)
