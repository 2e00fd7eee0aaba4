/-! words of the tables by their places, and small facts -/
theorem wd_0 : Cond.selects RX7 yX7_split yX7_split ∈ qws := qw_p 0 rfl rfl
theorem wd_1 : Cond.selects RX7 yX7_addToken yX7_addToken ∈ qws := qw_p 1 rfl rfl
theorem wd_2 : Cond.selects RX7 yX7_put yX7_put ∈ qws := qw_p 2 rfl rfl
theorem wd_3 : Cond.selects RX7 yX7_kindAt yX7_kindAt ∈ qws := qw_p 3 rfl rfl
theorem wd_4 : Cond.selects RX7 yX7_firstUnfit yX7_firstUnfit ∈ qws := qw_p 4 rfl rfl
theorem wd_5 : Cond.selects RX7 yX7_behindStatement yX7_behindStatement ∈ qws := qw_p 5 rfl rfl
theorem wd_6 : Cond.selects RX7 yX7_valueAt yX7_valueAt ∈ qws := qw_p 6 rfl rfl
theorem wd_7 : Cond.selects RX7 yX7_startAt yX7_startAt ∈ qws := qw_p 7 rfl rfl
theorem wd_8 : Cond.selects RX7 yX7_blame yX7_blame ∈ qws := qw_p 8 rfl rfl
theorem wd_9 : Cond.selects RX7 yX7_findWrongNumber yX7_findWrongNumber ∈ qws := qw_p 9 rfl rfl
theorem wd_10 : Cond.selects RX7 yX7_lastToken yX7_lastToken ∈ qws := qw_p 10 rfl rfl
theorem wd_11 : Cond.selects RX7 yX7_checkNumbers yX7_checkNumbers ∈ qws := qw_p 11 rfl rfl
theorem wd_12 : Cond.selects RX7 yX7_tellsOfMissing yX7_tellsOfMissing ∈ qws := qw_p 12 rfl rfl
theorem wd_13 : Cond.selects RX7 yX7_bookTellsOfMissing yX7_bookTellsOfMissing ∈ qws := qw_p 13 rfl rfl
theorem wd_14 : Cond.selects RX7 yX7_townTellsOfMissing yX7_townTellsOfMissing ∈ qws := qw_p 14 rfl rfl
theorem wd_15 : Cond.selects RX7 yX7_fillBook yX7_fillBook ∈ qws := qw_p 15 rfl rfl
theorem wd_16 : Cond.selects RX7 yX7_tellBook yX7_tellBook ∈ qws := qw_p 16 rfl rfl
theorem wd_17 : Cond.selects RX0 yX0_addFollower yX0_addFollower ∈ qws := qw_p 17 rfl rfl
theorem wd_18 : Cond.selects RX7 yX7_fillEvening yX7_fillEvening ∈ qws := qw_p 18 rfl rfl
theorem wd_19 : Cond.selects RX7 yX7_fillLog yX7_fillLog ∈ qws := qw_p 19 rfl rfl
theorem wd_20 : Cond.selects RX7 yX7_fillTown yX7_fillTown ∈ qws := qw_p 20 rfl rfl
theorem wd_21 : Cond.selects RX7 yX7_tellTown yX7_tellTown ∈ qws := qw_p 21 rfl rfl
theorem wd_22 : Cond.selects RX0 yX0_showLine yX0_showLine ∈ qws := qw_p 22 rfl rfl
theorem wd_23 : Cond.selects RX1 yX1_has yX1_has ∈ qws := qw_p 23 rfl rfl
theorem wd_24 : Cond.selects RX8 yX8_begin yX8_begin ∈ qws := qw_p 24 rfl rfl
theorem wd_25 : Cond.selects RX8 yX8_perform yX8_perform ∈ qws := qw_p 25 rfl rfl
theorem wd_26 : Cond.selects RX8 yX8_sayLine yX8_sayLine ∈ qws := qw_p 26 rfl rfl
theorem wd_27 : Cond.selects RX8 yX8_due yX8_due ∈ qws := qw_p 27 rfl rfl
theorem wd_28 : Cond.selects RX8 yX8_isIn yX8_isIn ∈ qws := qw_p 28 rfl rfl
theorem wd_29 : Cond.selects RX8 yX8_speak yX8_speak ∈ qws := qw_p 29 rfl rfl
theorem wd_30 : Cond.selects RX8 yX8_move yX8_move ∈ qws := qw_p 30 rfl rfl
theorem wd_31 : Cond.selects RX8 yX8_dryUp yX8_dryUp ∈ qws := qw_p 31 rfl rfl
theorem wd_32 : Cond.selects RX8 yX8_promptDue yX8_promptDue ∈ qws := qw_p 32 rfl rfl
theorem wd_33 : Cond.selects RX8 yX8_cutDue yX8_cutDue ∈ qws := qw_p 33 rfl rfl
theorem wd_34 : Cond.selects RX8 yX8_fines yX8_fines ∈ qws := qw_p 34 rfl rfl
theorem wd_35 : Cond.selects RX6 yX6_fewestFrom yX6_fewestFrom ∈ qws := qw_p 35 rfl rfl
theorem wd_36 : Cond.selects RX6 yX6_fewestAt yX6_fewestAt ∈ qws := qw_p 36 rfl rfl
theorem wd_37 : Cond.selects RX6 yX6_stepStrayings yX6_stepStrayings ∈ qws := qw_p 37 rfl rfl
theorem wd_38 : Cond.selects RX6 yX6_stepTogether yX6_stepTogether ∈ qws := qw_p 38 rfl rfl
theorem wd_39 : Cond.selects RX5 yX5_takeHarm yX5_takeHarm ∈ qws := qw_p 39 rfl rfl
theorem wd_40 : Cond.selects RX5 yX5_takeScene yX5_takeScene ∈ qws := qw_p 40 rfl rfl
theorem wd_41 : Cond.selects RX5 yX5_step yX5_step ∈ qws := qw_p 41 rfl rfl
theorem wd_42 : Cond.selects RX5 yX5_reduce yX5_reduce ∈ qws := qw_p 42 rfl rfl
theorem wd_43 : Cond.selects RX0 yX0_nextWithout yX0_nextWithout ∈ qws := qw_p 43 rfl rfl
theorem wd_44 : Cond.selects RX4 yX4_shortestFrom yX4_shortestFrom ∈ qws := qw_p 44 rfl rfl
theorem wd_45 : Cond.selects RX4 yX4_isShared yX4_isShared ∈ qws := qw_p 45 rfl rfl
theorem wd_46 : Cond.selects RX4 yX4_shortestAt yX4_shortestAt ∈ qws := qw_p 46 rfl rfl
theorem wd_47 : Cond.selects RX4 yX4_fillRow yX4_fillRow ∈ qws := qw_p 47 rfl rfl
theorem wd_48 : Cond.selects RX4 yX4_takesOne yX4_takesOne ∈ qws := qw_p 48 rfl rfl
theorem wd_49 : Cond.selects RX2 yX2_countFrom yX2_countFrom ∈ qws := qw_p 49 rfl rfl
theorem wd_50 : Cond.selects RX2 yX2_behind yX2_behind ∈ qws := qw_p 50 rfl rfl
theorem wd_51 : Cond.selects RX2 yX2_fewestBehind yX2_fewestBehind ∈ qws := qw_p 51 rfl rfl
theorem wd_52 : Cond.selects RX2 yX2_bestGuess yX2_bestGuess ∈ qws := qw_p 52 rfl rfl
theorem wd_53 : Cond.selects RX2 yX2_countUpTo yX2_countUpTo ∈ qws := qw_p 53 rfl rfl
theorem wd_54 : Cond.selects RX2 yX2_mostOfOnePerson yX2_mostOfOnePerson ∈ qws := qw_p 54 rfl rfl
theorem wd_55 : Cond.selects RX2 yX2_through yX2_through ∈ qws := qw_p 55 rfl rfl
theorem wd_56 : Cond.selects RX2 yX2_firstWayAt yX2_firstWayAt ∈ qws := qw_p 56 rfl rfl
theorem wd_57 : Cond.selects RX2 yX2_sureAt yX2_sureAt ∈ qws := qw_p 57 rfl rfl
theorem wd_58 : Cond.selects RX10 yX10_bestToListen yX10_bestToListen ∈ qws := qw_p 58 rfl rfl
theorem wd_59 : Cond.selects RX10 yX10_othersHeardIn yX10_othersHeardIn ∈ qws := qw_p 59 rfl rfl
theorem wd_60 : Cond.selects RX10 yX10_whereHeard yX10_whereHeard ∈ qws := qw_p 60 rfl rfl
theorem wd_61 : Cond.selects RX10 yX10_wallsBetween yX10_wallsBetween ∈ qws := qw_p 61 rfl rfl
theorem wd_62 : Cond.selects RX10 yX10_has yX10_has ∈ qws := qw_p 62 rfl rfl
theorem wd_63 : Cond.selects RX10 yX10_loudOf yX10_loudOf ∈ qws := qw_p 63 rfl rfl
theorem wd_64 : Cond.selects RX10 yX10_fewestGuards yX10_fewestGuards ∈ qws := qw_p 64 rfl rfl
theorem wd_65 : Cond.selects RX10 yX10_allHeardBy yX10_allHeardBy ∈ qws := qw_p 65 rfl rfl
theorem wd_66 : Cond.selects RX10 yX10_wrongCouples yX10_wrongCouples ∈ qws := qw_p 66 rfl rfl
theorem wd_67 : Cond.selects RX10 yX10_hushing yX10_hushing ∈ qws := qw_p 67 rfl rfl
theorem wd_68 : Cond.selects RX10 yX10_showHouse yX10_showHouse ∈ qws := qw_p 68 rfl rfl
theorem wd_69 : Cond.selects RX8 yX8_drawDeed yX8_drawDeed ∈ qws := qw_p 69 rfl rfl
theorem wd_70 : Cond.selects RX8 yX8_draw yX8_draw ∈ qws := qw_p 70 rfl rfl
theorem wd_71 : Cond.selects RX8 yX8_drawFollower yX8_drawFollower ∈ qws := qw_p 71 rfl rfl
theorem wd_72 : Cond.selects RX6 yX6_canBeSaid yX6_canBeSaid ∈ qws := qw_p 72 rfl rfl
theorem wd_73 : Cond.selects RX6 yX6_sumOfFollowers yX6_sumOfFollowers ∈ qws := qw_p 73 rfl rfl
theorem wd_74 : Cond.selects RX6 yX6_harmBehind yX6_harmBehind ∈ qws := qw_p 74 rfl rfl
theorem wd_75 : Cond.selects RX6 yX6_sureBehind yX6_sureBehind ∈ qws := qw_p 75 rfl rfl
theorem wd_76 : Cond.selects RX12 yX12_four yX12_four ∈ qws := qw_p 76 rfl rfl
theorem wd_77 : Cond.selects RX12 yX12_is yX12_is ∈ qws := qw_p 77 rfl rfl
theorem wd_78 : Cond.selects RX12 yX12_readText yX12_readText ∈ qws := qw_p 78 rfl rfl
theorem wd_79 : Cond.selects RX12 yX12_blank yX12_blank ∈ qws := qw_p 79 rfl rfl
theorem wd_80 : Cond.selects RX12 yX12_token yX12_token ∈ qws := qw_p 80 rfl rfl
theorem wd_81 : Cond.selects RX12 yX12_see yX12_see ∈ qws := qw_p 81 rfl rfl
theorem wd_82 : Cond.selects RX12 yX12_lines yX12_lines ∈ qws := qw_p 82 rfl rfl
theorem wd_83 : Cond.selects RX12 yX12_lineOf yX12_lineOf ∈ qws := qw_p 83 rfl rfl
theorem wd_84 : Cond.selects RX12 yX12_bookLine yX12_bookLine ∈ qws := qw_p 84 rfl rfl
theorem wd_85 : Cond.selects RX12 yX12_fails yX12_fails ∈ qws := qw_p 85 rfl rfl
theorem wd_86 : Cond.selects RX12 yX12_full yX12_full ∈ qws := qw_p 86 rfl rfl
theorem wd_87 : Cond.selects RX12 yX12_later yX12_later ∈ qws := qw_p 87 rfl rfl
theorem wd_88 : Cond.selects RX12 yX12_lineLine yX12_lineLine ∈ qws := qw_p 88 rfl rfl
theorem wd_89 : Cond.selects RX12 yX12_takeFar yX12_takeFar ∈ qws := qw_p 89 rfl rfl
theorem wd_90 : Cond.selects RX12 yX12_take yX12_take ∈ qws := qw_p 90 rfl rfl
theorem wd_91 : Cond.selects RX12 yX12_backLine yX12_backLine ∈ qws := qw_p 91 rfl rfl
theorem wd_92 : Cond.selects RX12 yX12_ownLine yX12_ownLine ∈ qws := qw_p 92 rfl rfl
theorem wd_93 : Cond.selects RX12 yX12_eveningLine yX12_eveningLine ∈ qws := qw_p 93 rfl rfl
theorem wd_94 : Cond.selects RX12 yX12_keep yX12_keep ∈ qws := qw_p 94 rfl rfl
theorem wd_95 : Cond.selects RX12 yX12_logLine yX12_logLine ∈ qws := qw_p 95 rfl rfl
theorem wd_96 : Cond.selects RX12 yX12_townLine yX12_townLine ∈ qws := qw_p 96 rfl rfl
theorem wd_97 : Cond.selects RX12 yX12_storeAll yX12_storeAll ∈ qws := qw_p 97 rfl rfl
theorem wd_98 : Cond.selects RX12 yX12_store yX12_store ∈ qws := qw_p 98 rfl rfl
theorem wd_99 : Cond.selects RX12 yX12_hand yX12_hand ∈ qws := qw_p 99 rfl rfl
theorem wd_100 : Cond.selects RX12 yX12_of yX12_of ∈ qws := qw_p 100 rfl rfl
theorem wd_101 : Cond.selects RX12 yX12_addFollower yX12_addFollower ∈ qws := qw_p 101 rfl rfl
theorem wd_102 : Cond.selects RX12 yX12_isLine yX12_isLine ∈ qws := qw_p 102 rfl rfl
theorem wd_103 : Cond.selects RX12 yX12_ofLine yX12_ofLine ∈ qws := qw_p 103 rfl rfl
theorem wd_104 : Cond.selects RX12 yX12_behind yX12_behind ∈ qws := qw_p 104 rfl rfl
theorem wd_105 : Cond.selects RX12 yX12_hasEvening yX12_hasEvening ∈ qws := qw_p 105 rfl rfl
theorem wd_106 : Cond.selects RX12 yX12_deeds yX12_deeds ∈ qws := qw_p 106 rfl rfl
theorem wd_107 : Cond.selects RX12 yX12_deedOf yX12_deedOf ∈ qws := qw_p 107 rfl rfl
theorem wd_108 : Cond.selects RX12 yX12_layAll yX12_layAll ∈ qws := qw_p 108 rfl rfl
theorem wd_109 : Cond.selects RX12 yX12_play yX12_play ∈ qws := qw_p 109 rfl rfl
theorem wd_110 : Cond.selects RX12 yX12_begin yX12_begin ∈ qws := qw_p 110 rfl rfl
theorem wd_111 : Cond.selects RX12 yX12_does yX12_does ∈ qws := qw_p 111 rfl rfl
theorem wd_112 : Cond.selects RX12 yX12_goes yX12_goes ∈ qws := qw_p 112 rfl rfl
theorem wd_113 : Cond.selects RX12 yX12_isThere yX12_isThere ∈ qws := qw_p 113 rfl rfl
theorem wd_114 : Cond.selects RX12 yX12_says yX12_says ∈ qws := qw_p 114 rfl rfl
theorem wd_115 : Cond.selects RX12 yX12_isFollower yX12_isFollower ∈ qws := qw_p 115 rfl rfl
theorem wd_116 : Cond.selects RX12 yX12_who yX12_who ∈ qws := qw_p 116 rfl rfl
theorem wd_117 : Cond.selects RX12 yX12_isSaid yX12_isSaid ∈ qws := qw_p 117 rfl rfl
theorem wd_118 : Cond.selects RX12 yX12_harmOf yX12_harmOf ∈ qws := qw_p 118 rfl rfl
theorem wd_119 : Cond.selects RX12 yX12_goesOn yX12_goesOn ∈ qws := qw_p 119 rfl rfl
theorem wd_120 : Cond.selects RX12 yX12_dries yX12_dries ∈ qws := qw_p 120 rfl rfl
theorem wd_121 : Cond.selects RX12 yX12_isPrompted yX12_isPrompted ∈ qws := qw_p 121 rfl rfl
theorem wd_122 : Cond.selects RX12 yX12_waits yX12_waits ∈ qws := qw_p 122 rfl rfl
theorem wd_123 : Cond.selects RX12 yX12_isCut yX12_isCut ∈ qws := qw_p 123 rfl rfl
theorem wd_124 : Cond.selects RX12 yX12_ofState yX12_ofState ∈ qws := qw_p 124 rfl rfl
theorem wd_125 : Cond.selects RX12 yX12_findFewest yX12_findFewest ∈ qws := qw_p 125 rfl rfl
theorem wd_126 : Cond.selects RX12 yX12_isOf yX12_isOf ∈ qws := qw_p 126 rfl rfl
theorem wd_127 : Cond.selects RX12 yX12_bestFollower yX12_bestFollower ∈ qws := qw_p 127 rfl rfl
theorem wd_128 : Cond.selects RX12 yX12_nears yX12_nears ∈ qws := qw_p 128 rfl rfl
theorem wd_129 : Cond.selects RX12 yX12_saidBy yX12_saidBy ∈ qws := qw_p 129 rfl rfl
theorem wd_130 : Cond.selects RX12 yX12_oneMore yX12_oneMore ∈ qws := qw_p 130 rfl rfl
theorem wd_131 : Cond.selects RX12 yX12_lengthWithout yX12_lengthWithout ∈ qws := qw_p 131 rfl rfl
theorem wd_132 : Cond.selects RX12 yX12_next yX12_next ∈ qws := qw_p 132 rfl rfl
theorem wd_133 : Cond.selects RX12 yX12_layRow yX12_layRow ∈ qws := qw_p 133 rfl rfl
theorem wd_134 : Cond.selects RX12 yX12_findShortest yX12_findShortest ∈ qws := qw_p 134 rfl rfl
theorem wd_135 : Cond.selects RX12 yX12_mergedAt yX12_mergedAt ∈ qws := qw_p 135 rfl rfl
theorem wd_136 : Cond.selects RX12 yX12_hasLog yX12_hasLog ∈ qws := qw_p 136 rfl rfl
theorem wd_137 : Cond.selects RX12 yX12_voices yX12_voices ∈ qws := qw_p 137 rfl rfl
theorem wd_138 : Cond.selects RX12 yX12_voiceOf yX12_voiceOf ∈ qws := qw_p 138 rfl rfl
theorem wd_139 : Cond.selects RX12 yX12_findWays yX12_findWays ∈ qws := qw_p 139 rfl rfl
theorem wd_140 : Cond.selects RX12 yX12_findFrom yX12_findFrom ∈ qws := qw_p 140 rfl rfl
theorem wd_141 : Cond.selects RX12 yX12_isHeard yX12_isHeard ∈ qws := qw_p 141 rfl rfl
theorem wd_142 : Cond.selects RX12 yX12_findUpTo yX12_findUpTo ∈ qws := qw_p 142 rfl rfl
theorem wd_143 : Cond.selects RX12 yX12_firstAt yX12_firstAt ∈ qws := qw_p 143 rfl rfl
theorem wd_144 : Cond.selects RX12 yX12_sureOf yX12_sureOf ∈ qws := qw_p 144 rfl rfl
theorem wd_145 : Cond.selects RX12 yX12_through yX12_through ∈ qws := qw_p 145 rfl rfl
theorem wd_146 : Cond.selects RX12 yX12_guess yX12_guess ∈ qws := qw_p 146 rfl rfl
theorem wd_147 : Cond.selects RX12 yX12_townOf yX12_townOf ∈ qws := qw_p 147 rfl rfl
theorem wd_148 : Cond.selects RX12 yX12_ofHouse yX12_ofHouse ∈ qws := qw_p 148 rfl rfl
theorem wd_149 : Cond.selects RX12 yX12_heardIn yX12_heardIn ∈ qws := qw_p 149 rfl rfl
theorem wd_150 : Cond.selects RX12 yX12_isHeardIn yX12_isHeardIn ∈ qws := qw_p 150 rfl rfl
theorem wd_151 : Cond.selects RX12 yX12_between yX12_between ∈ qws := qw_p 151 rfl rfl
theorem wd_152 : Cond.selects RX12 yX12_listen yX12_listen ∈ qws := qw_p 152 rfl rfl
theorem wd_153 : Cond.selects RX12 yX12_othersIn yX12_othersIn ∈ qws := qw_p 153 rfl rfl
theorem wd_154 : Cond.selects RX12 yX12_guard yX12_guard ∈ qws := qw_p 154 rfl rfl
theorem wd_155 : Cond.selects RX12 yX12_wrong yX12_wrong ∈ qws := qw_p 155 rfl rfl
theorem wd_156 : Cond.selects RX12 yX12_hush yX12_hush ∈ qws := qw_p 156 rfl rfl
theorem wd_157 : Cond.selects RX12 yX12_drawDeed yX12_drawDeed ∈ qws := qw_p 157 rfl rfl
theorem wd_158 : Cond.selects RX12 yX12_draw yX12_draw ∈ qws := qw_p 158 rfl rfl
theorem wd_159 : Cond.selects RX12 yX12_reachable yX12_reachable ∈ qws := qw_p 159 rfl rfl
theorem wd_160 : Cond.selects RX12 yX12_isSceneIn yX12_isSceneIn ∈ qws := qw_p 160 rfl rfl
theorem wd_161 : Cond.selects RX12 yX12_loudest yX12_loudest ∈ qws := qw_p 161 rfl rfl
theorem wd_162 : Cond.selects RX12 yX12_copyAll yX12_copyAll ∈ qws := qw_p 162 rfl rfl
theorem wd_164 : Cond.initialized RX11 ∈ qws := qw_1 1 rfl rfl
theorem wd_165 : Cond.initialized RX9 ∈ qws := qw_1 2 rfl rfl
theorem wd_166 : Cond.initialized RX0 ∈ qws := qw_1 3 rfl rfl
theorem wd_167 : Cond.initialized RX1 ∈ qws := qw_1 4 rfl rfl
theorem wd_168 : Cond.initialized RX3 ∈ qws := qw_1 5 rfl rfl
theorem wd_169 : Cond.initialized RX10 ∈ qws := qw_1 6 rfl rfl
theorem wd_170 : Cond.initialized RX7 ∈ qws := qw_1 7 rfl rfl
theorem wd_171 : Cond.initialized RX8 ∈ qws := qw_1 8 rfl rfl
theorem wd_172 : Cond.initialized RX6 ∈ qws := qw_1 9 rfl rfl
theorem wd_173 : Cond.initialized RX5 ∈ qws := qw_1 10 rfl rfl
theorem wd_174 : Cond.initialized RX4 ∈ qws := qw_1 11 rfl rfl
theorem wd_175 : Cond.initialized RX2 ∈ qws := qw_1 12 rfl rfl
theorem wd_176 : Cond.initialized RX12 ∈ qws := qw_1 13 rfl rfl
theorem wd_177 : Cond.initialized RJ0 ∈ qws := qw_1 14 rfl rfl
theorem wd_178 : Cond.initialized RJ1 ∈ qws := qw_1 15 rfl rfl
theorem wd_179 : Cond.initialized RJ3 ∈ qws := qw_1 16 rfl rfl
theorem wd_181 : Cond.initialized RJ9 ∈ qws := qw_1 18 rfl rfl
theorem wd_182 : Cond.initialized "java/lang/System" ∈ qws := qw_1 19 rfl rfl
theorem wd_183 : Cond.initialized RJ6 ∈ qws := qw_1 20 rfl rfl
theorem wd_184 : Cond.classLink RL 7 RX11 ∈ qws := qw_1 21 rfl rfl
theorem wd_185 : Cond.instantiable RX11 8 ∈ qws := qw_1 22 rfl rfl
theorem wd_186 : Cond.methodLink RL 9 yX11_init ∈ qws := qw_1 23 rfl rfl
theorem wd_187 : Cond.instanceMethod yX11_init ∈ qws := qw_1 24 rfl rfl
theorem wd_188 : Cond.code yX11_init cX11_init 1 none ∈ qws := qw_1 25 rfl rfl
theorem wd_189 : Cond.methodLink RX11 1 Lib.objectInit ∈ qws := qw_1 26 rfl rfl
theorem wd_190 : Cond.instanceMethod Lib.objectInit ∈ qws := qw_1 27 rfl rfl
theorem wd_191 : Cond.code Lib.objectInit ⟨#[0xb1]⟩ 1 none ∈ qws := qw_1 28 rfl rfl
theorem wd_192 : Cond.classLink RX11 7 RX9 ∈ qws := qw_1 29 rfl rfl
theorem wd_193 : Cond.instantiable RX9 9 ∈ qws := qw_1 30 rfl rfl
theorem wd_194 : Cond.methodLink RX11 9 yX9_init ∈ qws := qw_1 31 rfl rfl
theorem wd_195 : Cond.instanceMethod yX9_init ∈ qws := qw_1 32 rfl rfl
theorem wd_196 : Cond.code yX9_init cX9_init 2 none ∈ qws := qw_1 33 rfl rfl
theorem wd_197 : Cond.methodLink RX9 3 Lib.objectInit ∈ qws := qw_1 34 rfl rfl
theorem wd_198 : Cond.classLink RX9 19 RX0 ∈ qws := qw_1 35 rfl rfl
theorem wd_200 : Cond.classLink RX9 25 RX1 ∈ qws := qw_1 37 rfl rfl
theorem wd_202 : Cond.classLink RX9 31 RX3 ∈ qws := qw_1 39 rfl rfl
theorem wd_204 : Cond.classLink RX9 37 RX10 ∈ qws := qw_1 41 rfl rfl
theorem wd_206 : Cond.instantiable RX0 15 ∈ qws := qw_1 43 rfl rfl
theorem wd_208 : Cond.instanceMethod yX0_init ∈ qws := qw_1 45 rfl rfl
theorem wd_209 : Cond.code yX0_init cX0_init 1 none ∈ qws := qw_1 46 rfl rfl
theorem wd_210 : Cond.methodLink RX0 3 Lib.objectInit ∈ qws := qw_1 47 rfl rfl
theorem wd_265 : Cond.arrayClass .byte ∈ qws := qw_1 102 rfl rfl
theorem wd_266 : Cond.arrayClass .int ∈ qws := qw_1 103 rfl rfl
theorem wd_267 : Cond.instantiable RX1 3 ∈ qws := qw_1 104 rfl rfl
theorem wd_269 : Cond.instanceMethod yX1_init ∈ qws := qw_1 106 rfl rfl
theorem wd_270 : Cond.code yX1_init cX1_init 1 none ∈ qws := qw_1 107 rfl rfl
theorem wd_271 : Cond.methodLink RX1 3 Lib.objectInit ∈ qws := qw_1 108 rfl rfl
theorem wd_285 : Cond.instantiable RX3 2 ∈ qws := qw_1 122 rfl rfl
theorem wd_287 : Cond.instanceMethod yX3_init ∈ qws := qw_1 124 rfl rfl
theorem wd_288 : Cond.code yX3_init cX3_init 1 none ∈ qws := qw_1 125 rfl rfl
theorem wd_289 : Cond.methodLink RX3 3 Lib.objectInit ∈ qws := qw_1 126 rfl rfl
theorem wd_299 : Cond.instantiable RX10 5 ∈ qws := qw_1 136 rfl rfl
theorem wd_301 : Cond.instanceMethod yX10_init ∈ qws := qw_1 138 rfl rfl
theorem wd_302 : Cond.code yX10_init cX10_init 1 none ∈ qws := qw_1 139 rfl rfl
theorem wd_303 : Cond.methodLink RX10 3 Lib.objectInit ∈ qws := qw_1 140 rfl rfl
theorem wd_354 : Cond.classLink RX11 20 RX7 ∈ qws := qw_1 191 rfl rfl
theorem wd_355 : Cond.instantiable RX7 6 ∈ qws := qw_1 192 rfl rfl
theorem wd_357 : Cond.instanceMethod yX7_init ∈ qws := qw_1 194 rfl rfl
theorem wd_358 : Cond.code yX7_init cX7_init 1 none ∈ qws := qw_1 195 rfl rfl
theorem wd_359 : Cond.methodLink RX7 3 Lib.objectInit ∈ qws := qw_1 196 rfl rfl
theorem wd_381 : Cond.classLink RX11 27 RX8 ∈ qws := qw_1 218 rfl rfl
theorem wd_382 : Cond.instantiable RX8 11 ∈ qws := qw_1 219 rfl rfl
theorem wd_384 : Cond.instanceMethod yX8_init ∈ qws := qw_1 221 rfl rfl
theorem wd_385 : Cond.code yX8_init cX8_init 1 none ∈ qws := qw_1 222 rfl rfl
theorem wd_386 : Cond.methodLink RX8 3 Lib.objectInit ∈ qws := qw_1 223 rfl rfl
theorem wd_421 : Cond.classLink RX11 34 RX6 ∈ qws := qw_2 18 rfl rfl
theorem wd_422 : Cond.instantiable RX6 7 ∈ qws := qw_2 19 rfl rfl
theorem wd_424 : Cond.instanceMethod yX6_init ∈ qws := qw_2 21 rfl rfl
theorem wd_425 : Cond.code yX6_init cX6_init 1 none ∈ qws := qw_2 22 rfl rfl
theorem wd_426 : Cond.methodLink RX6 5 Lib.objectInit ∈ qws := qw_2 23 rfl rfl
theorem wd_449 : Cond.arrayClass .long ∈ qws := qw_2 46 rfl rfl
theorem wd_450 : Cond.classLink RX11 41 RX5 ∈ qws := qw_2 47 rfl rfl
theorem wd_451 : Cond.instantiable RX5 4 ∈ qws := qw_2 48 rfl rfl
theorem wd_453 : Cond.instanceMethod yX5_init ∈ qws := qw_2 50 rfl rfl
theorem wd_454 : Cond.code yX5_init cX5_init 1 none ∈ qws := qw_2 51 rfl rfl
theorem wd_455 : Cond.methodLink RX5 3 Lib.objectInit ∈ qws := qw_2 52 rfl rfl
theorem wd_471 : Cond.classLink RX11 48 RX4 ∈ qws := qw_2 68 rfl rfl
theorem wd_472 : Cond.instantiable RX4 7 ∈ qws := qw_2 69 rfl rfl
theorem wd_474 : Cond.instanceMethod yX4_init ∈ qws := qw_2 71 rfl rfl
theorem wd_475 : Cond.code yX4_init cX4_init 1 none ∈ qws := qw_2 72 rfl rfl
theorem wd_476 : Cond.methodLink RX4 5 Lib.objectInit ∈ qws := qw_2 73 rfl rfl
theorem wd_500 : Cond.classLink RX11 55 RX2 ∈ qws := qw_2 97 rfl rfl
theorem wd_501 : Cond.instantiable RX2 3 ∈ qws := qw_2 98 rfl rfl
theorem wd_503 : Cond.instanceMethod yX2_init ∈ qws := qw_2 100 rfl rfl
theorem wd_504 : Cond.code yX2_init cX2_init 1 none ∈ qws := qw_2 101 rfl rfl
theorem wd_505 : Cond.methodLink RX2 9 Lib.objectInit ∈ qws := qw_2 102 rfl rfl
theorem wd_541 : Cond.methodLink RL 13 yX11_feed ∈ qws := qw_2 138 rfl rfl
theorem wd_542 : Cond.instanceMethod yX11_feed ∈ qws := qw_2 139 rfl rfl
theorem wd_543 : Cond.selects RX11 yX11_feed yX11_feed ∈ qws := qw_2 140 rfl rfl
theorem wd_544 : Cond.code yX11_feed cX11_feed 6 (some .int) ∈ qws := qw_2 141 rfl rfl
theorem wd_545 : Cond.methodLink RX11 66 yX9_addNumber ∈ qws := qw_2 142 rfl rfl
theorem wd_546 : Cond.instanceMethod yX9_addNumber ∈ qws := qw_2 143 rfl rfl
theorem wd_547 : Cond.selects RX9 yX9_addNumber yX9_addNumber ∈ qws := qw_2 144 rfl rfl
theorem wd_548 : Cond.code yX9_addNumber cX9_addNumber 3 none ∈ qws := qw_2 145 rfl rfl
theorem wd_549 : Cond.methodLink RL 18 yX11_end ∈ qws := qw_2 146 rfl rfl
theorem wd_550 : Cond.instanceMethod yX11_end ∈ qws := qw_2 147 rfl rfl
theorem wd_551 : Cond.selects RX11 yX11_end yX11_end ∈ qws := qw_2 148 rfl rfl
theorem wd_552 : Cond.code yX11_end cX11_end 2 (some .int) ∈ qws := qw_2 149 rfl rfl
theorem wd_553 : Cond.methodLink RL 23 yX11_text ∈ qws := qw_2 150 rfl rfl
theorem wd_554 : Cond.instanceMethod yX11_text ∈ qws := qw_2 151 rfl rfl
theorem wd_555 : Cond.selects RX11 yX11_text yX11_text ∈ qws := qw_2 152 rfl rfl
theorem wd_556 : Cond.code yX11_text cX11_text 6 (some .int) ∈ qws := qw_2 153 rfl rfl
theorem wd_557 : Cond.methodLink RX11 70 yX9_howMany ∈ qws := qw_2 154 rfl rfl
theorem wd_558 : Cond.instanceMethod yX9_howMany ∈ qws := qw_2 155 rfl rfl
theorem wd_559 : Cond.selects RX9 yX9_howMany yX9_howMany ∈ qws := qw_2 156 rfl rfl
theorem wd_560 : Cond.code yX9_howMany cX9_howMany 2 (some .int) ∈ qws := qw_2 157 rfl rfl
theorem wd_561 : Cond.methodLink RX11 80 yX7_read ∈ qws := qw_2 158 rfl rfl
theorem wd_562 : Cond.instanceMethod yX7_read ∈ qws := qw_2 159 rfl rfl
theorem wd_563 : Cond.selects RX7 yX7_read yX7_read ∈ qws := qw_2 160 rfl rfl
theorem wd_564 : Cond.code yX7_read cX7_read 4 none ∈ qws := qw_2 161 rfl rfl
theorem wd_565 : Cond.methodLink RX7 30 yX7_split ∈ qws := qw_2 162 rfl rfl
theorem wd_567 : Cond.instanceMethod yX7_split ∈ qws := qw_2 164 rfl rfl
theorem wd_568 : Cond.code yX7_split cX7_split 6 none ∈ qws := qw_2 165 rfl rfl
theorem wd_569 : Cond.methodLink RX7 127 yX9_byteAt ∈ qws := qw_2 166 rfl rfl
theorem wd_570 : Cond.instanceMethod yX9_byteAt ∈ qws := qw_2 167 rfl rfl
theorem wd_571 : Cond.selects RX9 yX9_byteAt yX9_byteAt ∈ qws := qw_2 168 rfl rfl
theorem wd_572 : Cond.code yX9_byteAt cX9_byteAt 2 (some .int) ∈ qws := qw_2 169 rfl rfl
theorem wd_573 : Cond.methodLink RX7 130 yX7_endOfRow ∈ qws := qw_2 170 rfl rfl
theorem wd_574 : Cond.static yX7_endOfRow ∈ qws := qw_2 171 rfl rfl
theorem wd_575 : Cond.code yX7_endOfRow cX7_endOfRow 3 (some .int) ∈ qws := qw_2 172 rfl rfl
theorem wd_576 : Cond.methodLink RX7 145 yX7_isLetter ∈ qws := qw_2 173 rfl rfl
theorem wd_577 : Cond.static yX7_isLetter ∈ qws := qw_2 174 rfl rfl
theorem wd_578 : Cond.code yX7_isLetter cX7_isLetter 1 (some .boolean) ∈ qws := qw_2 175 rfl rfl
theorem wd_579 : Cond.methodLink RX7 148 yX7_isDigit ∈ qws := qw_2 176 rfl rfl
theorem wd_580 : Cond.static yX7_isDigit ∈ qws := qw_2 177 rfl rfl
theorem wd_581 : Cond.code yX7_isDigit cX7_isDigit 1 (some .boolean) ∈ qws := qw_2 178 rfl rfl
theorem wd_582 : Cond.methodLink RX7 134 yX7_addToken ∈ qws := qw_2 179 rfl rfl
theorem wd_584 : Cond.instanceMethod yX7_addToken ∈ qws := qw_2 181 rfl rfl
theorem wd_585 : Cond.code yX7_addToken cX7_addToken 7 none ∈ qws := qw_2 182 rfl rfl
theorem wd_586 : Cond.methodLink RX7 151 yX7_wordOf ∈ qws := qw_2 183 rfl rfl
theorem wd_587 : Cond.static yX7_wordOf ∈ qws := qw_2 184 rfl rfl
theorem wd_588 : Cond.code yX7_wordOf cX7_wordOf 5 (some .int) ∈ qws := qw_2 185 rfl rfl
theorem wd_589 : Cond.fieldLink RX7 155 RX7 "FIRST_WORD" "[I" ∈ qws := qw_2 186 rfl rfl
theorem wd_591 : Cond.methodLink RX7 158 yX7_nameOf ∈ qws := qw_2 188 rfl rfl
theorem wd_592 : Cond.static yX7_nameOf ∈ qws := qw_2 189 rfl rfl
theorem wd_593 : Cond.code yX7_nameOf cX7_nameOf 1 (some (.object "java/lang/String")) ∈ qws := qw_2 190 rfl rfl
theorem wd_612 : Cond.methodLink RX7 162 yX7_isName ∈ qws := qw_2 209 rfl rfl
theorem wd_613 : Cond.static yX7_isName ∈ qws := qw_2 210 rfl rfl
theorem wd_614 : Cond.code yX7_isName cX7_isName 5 (some .boolean) ∈ qws := qw_2 211 rfl rfl
theorem wd_615 : Cond.methodLink RX7 166 yJ0_length_8abf5 ∈ qws := qw_2 212 rfl rfl
theorem wd_616 : Cond.instanceMethod yJ0_length_8abf5 ∈ qws := qw_2 213 rfl rfl
theorem wd_617 : Cond.selects RJ0 yJ0_length_8abf5 yJ0_length_8abf5 ∈ qws := qw_2 214 rfl rfl
theorem wd_618 : Cond.code yJ0_length_8abf5 cJ0_length_8abf5 1 (some .int) ∈ qws := qw_2 215 rfl rfl
theorem wd_619 : Cond.methodLink RJ0 335 yJ0_coder_7d493 ∈ qws := qw_2 216 rfl rfl
theorem wd_620 : Cond.instanceMethod yJ0_coder_7d493 ∈ qws := qw_2 217 rfl rfl
theorem wd_621 : Cond.selects "java/lang/String" yJ0_coder_7d493 yJ0_coder_7d493 ∈ qws := qw_2 218 rfl rfl
theorem wd_622 : Cond.code yJ0_coder_7d493 cJ0_coder_7d493 1 (some .byte) ∈ qws := qw_2 219 rfl rfl
theorem wd_623 : Cond.fieldLink RJ0 38 "java/lang/String" "COMPACT_STRINGS" "Z" ∈ qws := qw_2 220 rfl rfl
theorem wd_625 : Cond.methodLink RX7 171 yJ0_charAt_5068e ∈ qws := qw_2 222 rfl rfl
theorem wd_626 : Cond.instanceMethod yJ0_charAt_5068e ∈ qws := qw_2 223 rfl rfl
theorem wd_627 : Cond.selects RJ0 yJ0_charAt_5068e yJ0_charAt_5068e ∈ qws := qw_2 224 rfl rfl
theorem wd_628 : Cond.code yJ0_charAt_5068e cJ0_charAt_5068e 2 (some .char) ∈ qws := qw_2 225 rfl rfl
theorem wd_629 : Cond.methodLink RJ0 492 yJ0_isLatin1_aae02 ∈ qws := qw_2 226 rfl rfl
theorem wd_630 : Cond.instanceMethod yJ0_isLatin1_aae02 ∈ qws := qw_2 227 rfl rfl
theorem wd_631 : Cond.selects "java/lang/String" yJ0_isLatin1_aae02 yJ0_isLatin1_aae02 ∈ qws := qw_2 228 rfl rfl
theorem wd_632 : Cond.code yJ0_isLatin1_aae02 cJ0_isLatin1_aae02 1 (some .boolean) ∈ qws := qw_2 229 rfl rfl
theorem wd_633 : Cond.methodLink RJ0 495 yJ1_charAt_3b067 ∈ qws := qw_2 230 rfl rfl
theorem wd_634 : Cond.static yJ1_charAt_3b067 ∈ qws := qw_2 231 rfl rfl
theorem wd_635 : Cond.code yJ1_charAt_3b067 cJ1_charAt_3b067 2 (some .char) ∈ qws := qw_2 232 rfl rfl
theorem wd_636 : Cond.methodLink RJ1 9 yJ0_checkIndex_df160 ∈ qws := qw_2 233 rfl rfl
theorem wd_637 : Cond.static yJ0_checkIndex_df160 ∈ qws := qw_2 234 rfl rfl
theorem wd_638 : Cond.code yJ0_checkIndex_df160 cJ0_checkIndex_df160 2 none ∈ qws := qw_2 235 rfl rfl
theorem wd_639 : Cond.fieldLink RJ0 1053 "jdk/internal/util/Preconditions" "SIOOBE_FORMATTER" "Ljava/util/function/BiFunction;" ∈ qws := qw_2 236 rfl rfl
theorem wd_641 : Cond.methodLink RJ0 1059 yJ3_checkIndex_8e157 ∈ qws := qw_2 238 rfl rfl
theorem wd_642 : Cond.static yJ3_checkIndex_8e157 ∈ qws := qw_2 239 rfl rfl
theorem wd_643 : Cond.code yJ3_checkIndex_8e157 cJ3_checkIndex_8e157 3 (some .int) ∈ qws := qw_3 0 rfl rfl
theorem wd_663 : Cond.methodLink RX7 141 yX7_put ∈ qws := qw_3 20 rfl rfl
theorem wd_665 : Cond.instanceMethod yX7_put ∈ qws := qw_3 22 rfl rfl
theorem wd_666 : Cond.code yX7_put cX7_put 4 none ∈ qws := qw_3 23 rfl rfl
theorem wd_667 : Cond.methodLink RX7 138 yX7_kindAt ∈ qws := qw_3 24 rfl rfl
theorem wd_669 : Cond.instanceMethod yX7_kindAt ∈ qws := qw_3 26 rfl rfl
theorem wd_670 : Cond.code yX7_kindAt cX7_kindAt 2 (some .int) ∈ qws := qw_3 27 rfl rfl
theorem wd_671 : Cond.methodLink RX7 34 yX7_firstUnfit ∈ qws := qw_3 28 rfl rfl
theorem wd_673 : Cond.instanceMethod yX7_firstUnfit ∈ qws := qw_3 30 rfl rfl
theorem wd_674 : Cond.code yX7_firstUnfit cX7_firstUnfit 4 (some .int) ∈ qws := qw_3 31 rfl rfl
theorem wd_675 : Cond.methodLink RX7 184 yX7_behindStatement ∈ qws := qw_3 32 rfl rfl
theorem wd_677 : Cond.instanceMethod yX7_behindStatement ∈ qws := qw_3 34 rfl rfl
theorem wd_678 : Cond.code yX7_behindStatement cX7_behindStatement 2 (some .int) ∈ qws := qw_3 35 rfl rfl
theorem wd_679 : Cond.methodLink RX7 178 yX7_valueAt ∈ qws := qw_3 36 rfl rfl
theorem wd_681 : Cond.instanceMethod yX7_valueAt ∈ qws := qw_3 38 rfl rfl
theorem wd_682 : Cond.code yX7_valueAt cX7_valueAt 2 (some .int) ∈ qws := qw_3 39 rfl rfl
theorem wd_683 : Cond.methodLink RX7 181 yX7_numbersOf ∈ qws := qw_3 40 rfl rfl
theorem wd_684 : Cond.static yX7_numbersOf ∈ qws := qw_3 41 rfl rfl
theorem wd_685 : Cond.code yX7_numbersOf cX7_numbersOf 1 (some .int) ∈ qws := qw_3 42 rfl rfl
theorem wd_686 : Cond.fieldLink RX7 175 RX7 "NUMBERS" "[I" ∈ qws := qw_3 43 rfl rfl
theorem wd_688 : Cond.methodLink RX7 38 yX7_startAt ∈ qws := qw_3 45 rfl rfl
theorem wd_690 : Cond.instanceMethod yX7_startAt ∈ qws := qw_3 47 rfl rfl
theorem wd_691 : Cond.code yX7_startAt cX7_startAt 2 (some .int) ∈ qws := qw_3 48 rfl rfl
theorem wd_692 : Cond.methodLink RX7 42 yX7_blame ∈ qws := qw_3 49 rfl rfl
theorem wd_694 : Cond.instanceMethod yX7_blame ∈ qws := qw_3 51 rfl rfl
theorem wd_695 : Cond.code yX7_blame cX7_blame 3 none ∈ qws := qw_3 52 rfl rfl
theorem wd_696 : Cond.methodLink RX7 46 yX7_findWrongNumber ∈ qws := qw_3 53 rfl rfl
theorem wd_698 : Cond.instanceMethod yX7_findWrongNumber ∈ qws := qw_3 55 rfl rfl
theorem wd_699 : Cond.code yX7_findWrongNumber cX7_findWrongNumber 7 none ∈ qws := qw_3 56 rfl rfl
theorem wd_700 : Cond.methodLink RX7 187 yX7_lastToken ∈ qws := qw_3 57 rfl rfl
theorem wd_702 : Cond.instanceMethod yX7_lastToken ∈ qws := qw_3 59 rfl rfl
theorem wd_703 : Cond.code yX7_lastToken cX7_lastToken 1 (some .int) ∈ qws := qw_3 60 rfl rfl
theorem wd_704 : Cond.methodLink RX7 196 yX7_checkNumbers ∈ qws := qw_3 61 rfl rfl
theorem wd_706 : Cond.instanceMethod yX7_checkNumbers ∈ qws := qw_3 63 rfl rfl
theorem wd_707 : Cond.code yX7_checkNumbers cX7_checkNumbers 6 none ∈ qws := qw_3 64 rfl rfl
theorem wd_708 : Cond.fieldLink RX7 200 RX7 "LEAST" "[I" ∈ qws := qw_3 65 rfl rfl
theorem wd_710 : Cond.fieldLink RX7 203 RX7 "GREATEST" "[I" ∈ qws := qw_3 67 rfl rfl
theorem wd_712 : Cond.methodLink RX7 49 yX7_tellsOfMissing ∈ qws := qw_3 69 rfl rfl
theorem wd_714 : Cond.instanceMethod yX7_tellsOfMissing ∈ qws := qw_3 71 rfl rfl
theorem wd_715 : Cond.code yX7_tellsOfMissing cX7_tellsOfMissing 2 (some .boolean) ∈ qws := qw_3 72 rfl rfl
theorem wd_716 : Cond.methodLink RX7 206 yX7_bookTellsOfMissing ∈ qws := qw_3 73 rfl rfl
theorem wd_718 : Cond.instanceMethod yX7_bookTellsOfMissing ∈ qws := qw_3 75 rfl rfl
theorem wd_719 : Cond.code yX7_bookTellsOfMissing cX7_bookTellsOfMissing 5 (some .boolean) ∈ qws := qw_3 76 rfl rfl
theorem wd_720 : Cond.methodLink RX7 213 yJ9_max_7cf53 ∈ qws := qw_3 77 rfl rfl
theorem wd_721 : Cond.static yJ9_max_7cf53 ∈ qws := qw_3 78 rfl rfl
theorem wd_722 : Cond.code yJ9_max_7cf53 cJ9_max_7cf53 2 (some .int) ∈ qws := qw_3 79 rfl rfl
theorem wd_723 : Cond.methodLink RX7 210 yX7_townTellsOfMissing ∈ qws := qw_3 80 rfl rfl
theorem wd_725 : Cond.instanceMethod yX7_townTellsOfMissing ∈ qws := qw_3 82 rfl rfl
theorem wd_726 : Cond.code yX7_townTellsOfMissing cX7_townTellsOfMissing 5 (some .boolean) ∈ qws := qw_3 83 rfl rfl
theorem wd_727 : Cond.methodLink RX11 86 yX9_addOne ∈ qws := qw_3 84 rfl rfl
theorem wd_728 : Cond.instanceMethod yX9_addOne ∈ qws := qw_3 85 rfl rfl
theorem wd_729 : Cond.selects RX9 yX9_addOne yX9_addOne ∈ qws := qw_3 86 rfl rfl
theorem wd_730 : Cond.code yX9_addOne cX9_addOne 2 none ∈ qws := qw_3 87 rfl rfl
theorem wd_731 : Cond.methodLink RX11 89 yX7_fill ∈ qws := qw_3 88 rfl rfl
theorem wd_732 : Cond.instanceMethod yX7_fill ∈ qws := qw_3 89 rfl rfl
theorem wd_733 : Cond.selects RX7 yX7_fill yX7_fill ∈ qws := qw_3 90 rfl rfl
theorem wd_734 : Cond.code yX7_fill cX7_fill 4 none ∈ qws := qw_3 91 rfl rfl
theorem wd_735 : Cond.methodLink RX7 56 yX9_bookAt ∈ qws := qw_3 92 rfl rfl
theorem wd_736 : Cond.instanceMethod yX9_bookAt ∈ qws := qw_3 93 rfl rfl
theorem wd_737 : Cond.selects RX9 yX9_bookAt yX9_bookAt ∈ qws := qw_3 94 rfl rfl
theorem wd_738 : Cond.code yX9_bookAt cX9_bookAt 2 (some (.object "CellarPrompter$Book")) ∈ qws := qw_3 95 rfl rfl
theorem wd_739 : Cond.methodLink RX7 60 yX7_fillBook ∈ qws := qw_3 96 rfl rfl
theorem wd_741 : Cond.instanceMethod yX7_fillBook ∈ qws := qw_3 98 rfl rfl
theorem wd_742 : Cond.code yX7_fillBook cX7_fillBook 3 none ∈ qws := qw_3 99 rfl rfl
theorem wd_743 : Cond.methodLink RX7 221 yX0_clear ∈ qws := qw_3 100 rfl rfl
theorem wd_744 : Cond.instanceMethod yX0_clear ∈ qws := qw_3 101 rfl rfl
theorem wd_745 : Cond.selects RX0 yX0_clear yX0_clear ∈ qws := qw_3 102 rfl rfl
theorem wd_746 : Cond.code yX0_clear cX0_clear 2 none ∈ qws := qw_3 103 rfl rfl
theorem wd_747 : Cond.methodLink RX7 224 yX7_tellBook ∈ qws := qw_3 104 rfl rfl
theorem wd_749 : Cond.instanceMethod yX7_tellBook ∈ qws := qw_3 106 rfl rfl
theorem wd_750 : Cond.code yX7_tellBook cX7_tellBook 5 none ∈ qws := qw_3 107 rfl rfl
theorem wd_751 : Cond.methodLink RX7 231 yX0_addLine ∈ qws := qw_3 108 rfl rfl
theorem wd_752 : Cond.instanceMethod yX0_addLine ∈ qws := qw_3 109 rfl rfl
theorem wd_753 : Cond.selects RX0 yX0_addLine yX0_addLine ∈ qws := qw_3 110 rfl rfl
theorem wd_754 : Cond.code yX0_addLine cX0_addLine 5 none ∈ qws := qw_3 111 rfl rfl
theorem wd_755 : Cond.methodLink RX7 235 yX0_setDry ∈ qws := qw_3 112 rfl rfl
theorem wd_756 : Cond.instanceMethod yX0_setDry ∈ qws := qw_3 113 rfl rfl
theorem wd_757 : Cond.selects RX0 yX0_setDry yX0_setDry ∈ qws := qw_3 114 rfl rfl
theorem wd_758 : Cond.code yX0_setDry cX0_setDry 3 none ∈ qws := qw_3 115 rfl rfl
theorem wd_760 : Cond.static yX11_isPerson ∈ qws := qw_3 117 rfl rfl
theorem wd_761 : Cond.code yX11_isPerson cX11_isPerson 1 (some .boolean) ∈ qws := qw_3 118 rfl rfl
theorem wd_762 : Cond.methodLink RX7 238 yX0_addBack ∈ qws := qw_3 119 rfl rfl
theorem wd_763 : Cond.instanceMethod yX0_addBack ∈ qws := qw_3 120 rfl rfl
theorem wd_764 : Cond.selects RX0 yX0_addBack yX0_addBack ∈ qws := qw_3 121 rfl rfl
theorem wd_765 : Cond.code yX0_addBack cX0_addBack 3 none ∈ qws := qw_3 122 rfl rfl
theorem wd_766 : Cond.methodLink RX7 241 yX0_setChild ∈ qws := qw_3 123 rfl rfl
theorem wd_767 : Cond.instanceMethod yX0_setChild ∈ qws := qw_3 124 rfl rfl
theorem wd_768 : Cond.selects RX0 yX0_setChild yX0_setChild ∈ qws := qw_3 125 rfl rfl
theorem wd_769 : Cond.code yX0_setChild cX0_setChild 2 none ∈ qws := qw_3 126 rfl rfl
theorem wd_770 : Cond.methodLink RX7 228 yX0_settle ∈ qws := qw_3 127 rfl rfl
theorem wd_771 : Cond.instanceMethod yX0_settle ∈ qws := qw_3 128 rfl rfl
theorem wd_772 : Cond.selects RX0 yX0_settle yX0_settle ∈ qws := qw_3 129 rfl rfl
theorem wd_773 : Cond.code yX0_settle cX0_settle 2 none ∈ qws := qw_3 130 rfl rfl
theorem wd_774 : Cond.methodLink RX0 62 yX0_isChild ∈ qws := qw_3 131 rfl rfl
theorem wd_775 : Cond.instanceMethod yX0_isChild ∈ qws := qw_3 132 rfl rfl
theorem wd_776 : Cond.selects RX0 yX0_isChild yX0_isChild ∈ qws := qw_3 133 rfl rfl
theorem wd_777 : Cond.code yX0_isChild cX0_isChild 2 (some .boolean) ∈ qws := qw_3 134 rfl rfl
theorem wd_778 : Cond.methodLink RX0 65 yX0_addFollower ∈ qws := qw_3 135 rfl rfl
theorem wd_780 : Cond.instanceMethod yX0_addFollower ∈ qws := qw_3 137 rfl rfl
theorem wd_781 : Cond.code yX0_addFollower cX0_addFollower 4 none ∈ qws := qw_3 138 rfl rfl
theorem wd_782 : Cond.methodLink RX0 69 yX0_has ∈ qws := qw_3 139 rfl rfl
theorem wd_783 : Cond.instanceMethod yX0_has ∈ qws := qw_3 140 rfl rfl
theorem wd_784 : Cond.selects RX0 yX0_has yX0_has ∈ qws := qw_3 141 rfl rfl
theorem wd_785 : Cond.code yX0_has cX0_has 2 (some .boolean) ∈ qws := qw_3 142 rfl rfl
theorem wd_786 : Cond.methodLink RX0 72 yX0_follows ∈ qws := qw_3 143 rfl rfl
theorem wd_787 : Cond.instanceMethod yX0_follows ∈ qws := qw_3 144 rfl rfl
theorem wd_788 : Cond.selects RX0 yX0_follows yX0_follows ∈ qws := qw_3 145 rfl rfl
theorem wd_789 : Cond.code yX0_follows cX0_follows 4 (some .boolean) ∈ qws := qw_3 146 rfl rfl
theorem wd_790 : Cond.methodLink RX0 86 yX0_howManyFollow ∈ qws := qw_3 147 rfl rfl
theorem wd_791 : Cond.instanceMethod yX0_howManyFollow ∈ qws := qw_3 148 rfl rfl
theorem wd_792 : Cond.selects RX0 yX0_howManyFollow yX0_howManyFollow ∈ qws := qw_3 149 rfl rfl
theorem wd_793 : Cond.code yX0_howManyFollow cX0_howManyFollow 2 (some .int) ∈ qws := qw_3 150 rfl rfl
theorem wd_794 : Cond.methodLink RX0 82 yX0_following ∈ qws := qw_3 151 rfl rfl
theorem wd_795 : Cond.instanceMethod yX0_following ∈ qws := qw_3 152 rfl rfl
theorem wd_796 : Cond.selects RX0 yX0_following yX0_following ∈ qws := qw_3 153 rfl rfl
theorem wd_797 : Cond.code yX0_following cX0_following 3 (some .int) ∈ qws := qw_3 154 rfl rfl
theorem wd_798 : Cond.methodLink RX7 64 yX9_eveningAt ∈ qws := qw_3 155 rfl rfl
theorem wd_799 : Cond.instanceMethod yX9_eveningAt ∈ qws := qw_3 156 rfl rfl
theorem wd_800 : Cond.selects RX9 yX9_eveningAt yX9_eveningAt ∈ qws := qw_3 157 rfl rfl
theorem wd_801 : Cond.code yX9_eveningAt cX9_eveningAt 2 (some (.object "CellarPrompter$Evening")) ∈ qws := qw_3 158 rfl rfl
theorem wd_802 : Cond.methodLink RX7 68 yX7_fillEvening ∈ qws := qw_3 159 rfl rfl
theorem wd_804 : Cond.instanceMethod yX7_fillEvening ∈ qws := qw_3 161 rfl rfl
theorem wd_805 : Cond.code yX7_fillEvening cX7_fillEvening 4 none ∈ qws := qw_3 162 rfl rfl
theorem wd_806 : Cond.methodLink RX7 251 yX1_add ∈ qws := qw_3 163 rfl rfl
theorem wd_807 : Cond.instanceMethod yX1_add ∈ qws := qw_3 164 rfl rfl
theorem wd_808 : Cond.selects RX1 yX1_add yX1_add ∈ qws := qw_3 165 rfl rfl
theorem wd_809 : Cond.code yX1_add cX1_add 3 none ∈ qws := qw_3 166 rfl rfl
theorem wd_810 : Cond.methodLink RX7 72 yX9_logAt ∈ qws := qw_3 167 rfl rfl
theorem wd_811 : Cond.instanceMethod yX9_logAt ∈ qws := qw_3 168 rfl rfl
theorem wd_812 : Cond.selects RX9 yX9_logAt yX9_logAt ∈ qws := qw_3 169 rfl rfl
theorem wd_813 : Cond.code yX9_logAt cX9_logAt 2 (some (.object "CellarPrompter$Log")) ∈ qws := qw_3 170 rfl rfl
theorem wd_814 : Cond.methodLink RX7 76 yX7_fillLog ∈ qws := qw_3 171 rfl rfl
theorem wd_816 : Cond.instanceMethod yX7_fillLog ∈ qws := qw_3 173 rfl rfl
theorem wd_817 : Cond.code yX7_fillLog cX7_fillLog 3 none ∈ qws := qw_3 174 rfl rfl
theorem wd_818 : Cond.methodLink RX7 257 yX3_add ∈ qws := qw_3 175 rfl rfl
theorem wd_819 : Cond.instanceMethod yX3_add ∈ qws := qw_3 176 rfl rfl
theorem wd_820 : Cond.selects RX3 yX3_add yX3_add ∈ qws := qw_3 177 rfl rfl
theorem wd_821 : Cond.code yX3_add cX3_add 2 none ∈ qws := qw_3 178 rfl rfl
theorem wd_822 : Cond.methodLink RX7 80 yX9_townAt ∈ qws := qw_3 179 rfl rfl
theorem wd_823 : Cond.instanceMethod yX9_townAt ∈ qws := qw_3 180 rfl rfl
theorem wd_824 : Cond.selects RX9 yX9_townAt yX9_townAt ∈ qws := qw_3 181 rfl rfl
theorem wd_825 : Cond.code yX9_townAt cX9_townAt 2 (some (.object "CellarPrompter$Town")) ∈ qws := qw_3 182 rfl rfl
theorem wd_826 : Cond.methodLink RX7 84 yX7_fillTown ∈ qws := qw_3 183 rfl rfl
theorem wd_828 : Cond.instanceMethod yX7_fillTown ∈ qws := qw_3 185 rfl rfl
theorem wd_829 : Cond.code yX7_fillTown cX7_fillTown 3 none ∈ qws := qw_3 186 rfl rfl
theorem wd_830 : Cond.methodLink RX7 259 yX10_clear ∈ qws := qw_3 187 rfl rfl
theorem wd_831 : Cond.instanceMethod yX10_clear ∈ qws := qw_3 188 rfl rfl
theorem wd_832 : Cond.selects RX10 yX10_clear yX10_clear ∈ qws := qw_3 189 rfl rfl
theorem wd_833 : Cond.code yX10_clear cX10_clear 2 none ∈ qws := qw_3 190 rfl rfl
theorem wd_834 : Cond.methodLink RX7 260 yX7_tellTown ∈ qws := qw_3 191 rfl rfl
theorem wd_836 : Cond.instanceMethod yX7_tellTown ∈ qws := qw_3 193 rfl rfl
theorem wd_837 : Cond.code yX7_tellTown cX7_tellTown 5 none ∈ qws := qw_3 194 rfl rfl
theorem wd_838 : Cond.methodLink RX7 266 yX10_setWall ∈ qws := qw_3 195 rfl rfl
theorem wd_839 : Cond.instanceMethod yX10_setWall ∈ qws := qw_3 196 rfl rfl
theorem wd_840 : Cond.selects RX10 yX10_setWall yX10_setWall ∈ qws := qw_3 197 rfl rfl
theorem wd_841 : Cond.code yX10_setWall cX10_setWall 3 none ∈ qws := qw_3 198 rfl rfl
theorem wd_842 : Cond.methodLink RX7 269 yX10_setBook ∈ qws := qw_3 199 rfl rfl
theorem wd_843 : Cond.instanceMethod yX10_setBook ∈ qws := qw_3 200 rfl rfl
theorem wd_844 : Cond.selects RX10 yX10_setBook yX10_setBook ∈ qws := qw_3 201 rfl rfl
theorem wd_845 : Cond.code yX10_setBook cX10_setBook 3 none ∈ qws := qw_3 202 rfl rfl
theorem wd_846 : Cond.methodLink RX7 272 yX10_setLoud ∈ qws := qw_3 203 rfl rfl
theorem wd_847 : Cond.instanceMethod yX10_setLoud ∈ qws := qw_3 204 rfl rfl
theorem wd_848 : Cond.selects RX10 yX10_setLoud yX10_setLoud ∈ qws := qw_3 205 rfl rfl
theorem wd_849 : Cond.code yX10_setLoud cX10_setLoud 3 none ∈ qws := qw_3 206 rfl rfl
theorem wd_850 : Cond.methodLink RL 28 yX11_fault ∈ qws := qw_3 207 rfl rfl
theorem wd_851 : Cond.instanceMethod yX11_fault ∈ qws := qw_3 208 rfl rfl
theorem wd_852 : Cond.selects RX11 yX11_fault yX11_fault ∈ qws := qw_3 209 rfl rfl
theorem wd_853 : Cond.code yX11_fault cX11_fault 2 (some .int) ∈ qws := qw_3 210 rfl rfl
theorem wd_854 : Cond.methodLink RL 32 yX11_book ∈ qws := qw_3 211 rfl rfl
theorem wd_855 : Cond.instanceMethod yX11_book ∈ qws := qw_3 212 rfl rfl
theorem wd_856 : Cond.selects RX11 yX11_book yX11_book ∈ qws := qw_3 213 rfl rfl
theorem wd_857 : Cond.code yX11_book cX11_book 4 (some .int) ∈ qws := qw_3 214 rfl rfl
theorem wd_858 : Cond.methodLink RX11 93 yX9_bookAt ∈ qws := qw_3 215 rfl rfl
theorem wd_859 : Cond.methodLink RX11 97 yX0_show ∈ qws := qw_3 216 rfl rfl
theorem wd_860 : Cond.instanceMethod yX0_show ∈ qws := qw_3 217 rfl rfl
theorem wd_861 : Cond.selects RX0 yX0_show yX0_show ∈ qws := qw_3 218 rfl rfl
theorem wd_862 : Cond.code yX0_show cX0_show 2 (some .int) ∈ qws := qw_3 219 rfl rfl
theorem wd_863 : Cond.methodLink RX0 93 yX0_showLine ∈ qws := qw_3 220 rfl rfl
theorem wd_865 : Cond.instanceMethod yX0_showLine ∈ qws := qw_3 222 rfl rfl
theorem wd_866 : Cond.code yX0_showLine cX0_showLine 3 (some .int) ∈ qws := qw_3 223 rfl rfl
theorem wd_867 : Cond.methodLink RX0 90 yX0_nextOf ∈ qws := qw_3 224 rfl rfl
theorem wd_868 : Cond.instanceMethod yX0_nextOf ∈ qws := qw_3 225 rfl rfl
theorem wd_869 : Cond.selects RX0 yX0_nextOf yX0_nextOf ∈ qws := qw_3 226 rfl rfl
theorem wd_870 : Cond.code yX0_nextOf cX0_nextOf 2 (some .int) ∈ qws := qw_3 227 rfl rfl
theorem wd_871 : Cond.methodLink RX0 96 yX0_driesOf ∈ qws := qw_3 228 rfl rfl
theorem wd_872 : Cond.instanceMethod yX0_driesOf ∈ qws := qw_3 229 rfl rfl
theorem wd_873 : Cond.selects RX0 yX0_driesOf yX0_driesOf ∈ qws := qw_3 230 rfl rfl
theorem wd_874 : Cond.code yX0_driesOf cX0_driesOf 2 (some .int) ∈ qws := qw_3 231 rfl rfl
theorem wd_875 : Cond.methodLink RL 36 yX11_follower ∈ qws := qw_3 232 rfl rfl
theorem wd_876 : Cond.instanceMethod yX11_follower ∈ qws := qw_3 233 rfl rfl
theorem wd_877 : Cond.selects RX11 yX11_follower yX11_follower ∈ qws := qw_3 234 rfl rfl
theorem wd_878 : Cond.code yX11_follower cX11_follower 5 (some .int) ∈ qws := qw_3 235 rfl rfl
theorem wd_879 : Cond.methodLink RX11 102 yX0_following ∈ qws := qw_3 236 rfl rfl
theorem wd_880 : Cond.methodLink RL 41 yX11_deed ∈ qws := qw_3 237 rfl rfl
theorem wd_881 : Cond.instanceMethod yX11_deed ∈ qws := qw_3 238 rfl rfl
theorem wd_882 : Cond.selects RX11 yX11_deed yX11_deed ∈ qws := qw_3 239 rfl rfl
theorem wd_883 : Cond.code yX11_deed cX11_deed 5 (some .int) ∈ qws := qw_4 0 rfl rfl
theorem wd_884 : Cond.methodLink RX11 106 yX9_eveningAt ∈ qws := qw_4 1 rfl rfl
theorem wd_885 : Cond.methodLink RX11 110 yX1_show ∈ qws := qw_4 2 rfl rfl
theorem wd_886 : Cond.instanceMethod yX1_show ∈ qws := qw_4 3 rfl rfl
theorem wd_887 : Cond.selects RX1 yX1_show yX1_show ∈ qws := qw_4 4 rfl rfl
theorem wd_888 : Cond.code yX1_show cX1_show 3 (some .int) ∈ qws := qw_4 5 rfl rfl
theorem wd_889 : Cond.methodLink RX1 32 yX1_deedAt ∈ qws := qw_4 6 rfl rfl
theorem wd_890 : Cond.instanceMethod yX1_deedAt ∈ qws := qw_4 7 rfl rfl
theorem wd_891 : Cond.selects RX1 yX1_deedAt yX1_deedAt ∈ qws := qw_4 8 rfl rfl
theorem wd_892 : Cond.code yX1_deedAt cX1_deedAt 2 (some .int) ∈ qws := qw_4 9 rfl rfl
theorem wd_893 : Cond.methodLink RX1 28 yX1_has ∈ qws := qw_4 10 rfl rfl
theorem wd_895 : Cond.instanceMethod yX1_has ∈ qws := qw_4 12 rfl rfl
theorem wd_896 : Cond.code yX1_has cX1_has 2 (some .boolean) ∈ qws := qw_4 13 rfl rfl
theorem wd_897 : Cond.methodLink RX1 36 yX1_numberAt ∈ qws := qw_4 14 rfl rfl
theorem wd_898 : Cond.instanceMethod yX1_numberAt ∈ qws := qw_4 15 rfl rfl
theorem wd_899 : Cond.selects RX1 yX1_numberAt yX1_numberAt ∈ qws := qw_4 16 rfl rfl
theorem wd_900 : Cond.code yX1_numberAt cX1_numberAt 2 (some .int) ∈ qws := qw_4 17 rfl rfl
theorem wd_901 : Cond.methodLink RL 45 yX11_till ∈ qws := qw_4 18 rfl rfl
theorem wd_902 : Cond.instanceMethod yX11_till ∈ qws := qw_4 19 rfl rfl
theorem wd_903 : Cond.selects RX11 yX11_till yX11_till ∈ qws := qw_4 20 rfl rfl
theorem wd_904 : Cond.code yX11_till cX11_till 5 (some .int) ∈ qws := qw_4 21 rfl rfl
theorem wd_905 : Cond.methodLink RX11 117 yX8_play ∈ qws := qw_4 22 rfl rfl
theorem wd_906 : Cond.instanceMethod yX8_play ∈ qws := qw_4 23 rfl rfl
theorem wd_907 : Cond.selects RX8 yX8_play yX8_play ∈ qws := qw_4 24 rfl rfl
theorem wd_908 : Cond.code yX8_play cX8_play 5 (some .int) ∈ qws := qw_4 25 rfl rfl
theorem wd_909 : Cond.methodLink RX8 43 yX8_begin ∈ qws := qw_4 26 rfl rfl
theorem wd_911 : Cond.instanceMethod yX8_begin ∈ qws := qw_4 28 rfl rfl
theorem wd_912 : Cond.code yX8_begin cX8_begin 2 none ∈ qws := qw_4 29 rfl rfl
theorem wd_913 : Cond.methodLink RX8 48 yX1_deedAt ∈ qws := qw_4 30 rfl rfl
theorem wd_914 : Cond.methodLink RX8 52 yX1_numberAt ∈ qws := qw_4 31 rfl rfl
theorem wd_915 : Cond.methodLink RX8 55 yX8_perform ∈ qws := qw_4 32 rfl rfl
theorem wd_917 : Cond.instanceMethod yX8_perform ∈ qws := qw_4 34 rfl rfl
theorem wd_918 : Cond.code yX8_perform cX8_perform 5 (some .boolean) ∈ qws := qw_4 35 rfl rfl
theorem wd_919 : Cond.methodLink RX8 114 yX8_sayLine ∈ qws := qw_4 36 rfl rfl
theorem wd_921 : Cond.instanceMethod yX8_sayLine ∈ qws := qw_4 38 rfl rfl
theorem wd_922 : Cond.code yX8_sayLine cX8_sayLine 4 (some .boolean) ∈ qws := qw_4 39 rfl rfl
theorem wd_923 : Cond.methodLink RX8 93 yX8_due ∈ qws := qw_4 40 rfl rfl
theorem wd_925 : Cond.instanceMethod yX8_due ∈ qws := qw_4 42 rfl rfl
theorem wd_926 : Cond.code yX8_due cX8_due 2 (some .int) ∈ qws := qw_4 43 rfl rfl
theorem wd_927 : Cond.methodLink RX8 105 yX0_has ∈ qws := qw_4 44 rfl rfl
theorem wd_928 : Cond.methodLink RX8 101 yX0_following ∈ qws := qw_4 45 rfl rfl
theorem wd_929 : Cond.methodLink RX8 132 yX0_follows ∈ qws := qw_4 46 rfl rfl
theorem wd_930 : Cond.methodLink RX8 136 yX0_whoSays ∈ qws := qw_4 47 rfl rfl
theorem wd_931 : Cond.instanceMethod yX0_whoSays ∈ qws := qw_4 48 rfl rfl
theorem wd_932 : Cond.selects RX0 yX0_whoSays yX0_whoSays ∈ qws := qw_4 49 rfl rfl
theorem wd_933 : Cond.code yX0_whoSays cX0_whoSays 2 (some .int) ∈ qws := qw_4 50 rfl rfl
theorem wd_934 : Cond.methodLink RX8 89 yX8_isIn ∈ qws := qw_4 51 rfl rfl
theorem wd_936 : Cond.instanceMethod yX8_isIn ∈ qws := qw_4 53 rfl rfl
theorem wd_937 : Cond.code yX8_isIn cX8_isIn 2 (some .boolean) ∈ qws := qw_4 54 rfl rfl
theorem wd_939 : Cond.methodLink RX8 139 yX8_speak ∈ qws := qw_4 56 rfl rfl
theorem wd_941 : Cond.instanceMethod yX8_speak ∈ qws := qw_4 58 rfl rfl
theorem wd_942 : Cond.code yX8_speak cX8_speak 4 none ∈ qws := qw_4 59 rfl rfl
theorem wd_943 : Cond.methodLink RX8 143 yX0_harmDone ∈ qws := qw_4 60 rfl rfl
theorem wd_944 : Cond.instanceMethod yX0_harmDone ∈ qws := qw_4 61 rfl rfl
theorem wd_945 : Cond.selects RX0 yX0_harmDone yX0_harmDone ∈ qws := qw_4 62 rfl rfl
theorem wd_946 : Cond.code yX0_harmDone cX0_harmDone 2 (some .int) ∈ qws := qw_4 63 rfl rfl
theorem wd_947 : Cond.methodLink RX8 118 yX8_move ∈ qws := qw_4 64 rfl rfl
theorem wd_949 : Cond.instanceMethod yX8_move ∈ qws := qw_4 66 rfl rfl
theorem wd_950 : Cond.code yX8_move cX8_move 3 (some .boolean) ∈ qws := qw_4 67 rfl rfl
theorem wd_951 : Cond.methodLink RX8 122 yX8_dryUp ∈ qws := qw_4 68 rfl rfl
theorem wd_953 : Cond.instanceMethod yX8_dryUp ∈ qws := qw_4 70 rfl rfl
theorem wd_954 : Cond.code yX8_dryUp cX8_dryUp 3 (some .boolean) ∈ qws := qw_4 71 rfl rfl
theorem wd_955 : Cond.methodLink RX8 126 yX8_promptDue ∈ qws := qw_4 72 rfl rfl
theorem wd_957 : Cond.instanceMethod yX8_promptDue ∈ qws := qw_4 74 rfl rfl
theorem wd_958 : Cond.code yX8_promptDue cX8_promptDue 3 (some .boolean) ∈ qws := qw_4 75 rfl rfl
theorem wd_959 : Cond.methodLink RX8 129 yX8_cutDue ∈ qws := qw_4 76 rfl rfl
theorem wd_961 : Cond.instanceMethod yX8_cutDue ∈ qws := qw_4 78 rfl rfl
theorem wd_962 : Cond.code yX8_cutDue cX8_cutDue 3 (some .boolean) ∈ qws := qw_4 79 rfl rfl
theorem wd_963 : Cond.methodLink RL 49 yX11_state ∈ qws := qw_4 80 rfl rfl
theorem wd_964 : Cond.instanceMethod yX11_state ∈ qws := qw_4 81 rfl rfl
theorem wd_965 : Cond.selects RX11 yX11_state yX11_state ∈ qws := qw_4 82 rfl rfl
theorem wd_966 : Cond.code yX11_state cX11_state 7 (some .int) ∈ qws := qw_4 83 rfl rfl
theorem wd_967 : Cond.methodLink RX11 121 yX8_show ∈ qws := qw_4 84 rfl rfl
theorem wd_968 : Cond.instanceMethod yX8_show ∈ qws := qw_4 85 rfl rfl
theorem wd_969 : Cond.selects RX8 yX8_show yX8_show ∈ qws := qw_4 86 rfl rfl
theorem wd_970 : Cond.code yX8_show cX8_show 3 (some .int) ∈ qws := qw_4 87 rfl rfl
theorem wd_971 : Cond.methodLink RX8 72 yX8_fines ∈ qws := qw_4 88 rfl rfl
theorem wd_973 : Cond.instanceMethod yX8_fines ∈ qws := qw_4 90 rfl rfl
theorem wd_974 : Cond.code yX8_fines cX8_fines 2 (some .int) ∈ qws := qw_4 91 rfl rfl
theorem wd_975 : Cond.methodLink RX8 62 yJ9_max_7cf53 ∈ qws := qw_4 92 rfl rfl
theorem wd_976 : Cond.methodLink RL 54 yX11_avoid ∈ qws := qw_4 93 rfl rfl
theorem wd_977 : Cond.instanceMethod yX11_avoid ∈ qws := qw_4 94 rfl rfl
theorem wd_978 : Cond.selects RX11 yX11_avoid yX11_avoid ∈ qws := qw_4 95 rfl rfl
theorem wd_979 : Cond.code yX11_avoid cX11_avoid 7 (some .int) ∈ qws := qw_4 96 rfl rfl
theorem wd_980 : Cond.methodLink RX11 124 yX11_isScene ∈ qws := qw_4 97 rfl rfl
theorem wd_981 : Cond.static yX11_isScene ∈ qws := qw_4 98 rfl rfl
theorem wd_982 : Cond.code yX11_isScene cX11_isScene 1 (some .boolean) ∈ qws := qw_4 99 rfl rfl
theorem wd_983 : Cond.methodLink RX11 128 yX6_fewestWithout ∈ qws := qw_4 100 rfl rfl
theorem wd_984 : Cond.instanceMethod yX6_fewestWithout ∈ qws := qw_4 101 rfl rfl
theorem wd_985 : Cond.selects RX6 yX6_fewestWithout yX6_fewestWithout ∈ qws := qw_4 102 rfl rfl
theorem wd_986 : Cond.code yX6_fewestWithout cX6_fewestWithout 6 (some .int) ∈ qws := qw_4 103 rfl rfl
theorem wd_987 : Cond.methodLink RX6 36 yX0_has ∈ qws := qw_4 104 rfl rfl
theorem wd_988 : Cond.methodLink RX6 44 yX0_sceneOf ∈ qws := qw_4 105 rfl rfl
theorem wd_989 : Cond.instanceMethod yX0_sceneOf ∈ qws := qw_4 106 rfl rfl
theorem wd_990 : Cond.selects RX0 yX0_sceneOf yX0_sceneOf ∈ qws := qw_4 107 rfl rfl
theorem wd_991 : Cond.code yX0_sceneOf cX0_sceneOf 2 (some .int) ∈ qws := qw_4 108 rfl rfl
theorem wd_992 : Cond.constant RX6 48 (1000000) ∈ qws := qw_4 109 rfl rfl
theorem wd_993 : Cond.methodLink RX6 49 yX6_fewestFrom ∈ qws := qw_4 110 rfl rfl
theorem wd_995 : Cond.instanceMethod yX6_fewestFrom ∈ qws := qw_4 112 rfl rfl
theorem wd_996 : Cond.code yX6_fewestFrom cX6_fewestFrom 7 (some .int) ∈ qws := qw_4 113 rfl rfl
theorem wd_997 : Cond.methodLink RX6 53 yX0_howManyFollow ∈ qws := qw_4 114 rfl rfl
theorem wd_998 : Cond.methodLink RX6 56 yX0_following ∈ qws := qw_4 115 rfl rfl
theorem wd_999 : Cond.methodLink RX6 60 yX6_fewestAt ∈ qws := qw_4 116 rfl rfl
theorem wd_1001 : Cond.instanceMethod yX6_fewestAt ∈ qws := qw_4 118 rfl rfl
theorem wd_1002 : Cond.code yX6_fewestAt cX6_fewestAt 3 (some .int) ∈ qws := qw_4 119 rfl rfl
theorem wd_1003 : Cond.methodLink RX6 63 yX0_strayingOf ∈ qws := qw_4 120 rfl rfl
theorem wd_1004 : Cond.instanceMethod yX0_strayingOf ∈ qws := qw_4 121 rfl rfl
theorem wd_1005 : Cond.selects RX0 yX0_strayingOf yX0_strayingOf ∈ qws := qw_4 122 rfl rfl
theorem wd_1006 : Cond.code yX0_strayingOf cX0_strayingOf 3 (some .int) ∈ qws := qw_4 123 rfl rfl
theorem wd_1007 : Cond.methodLink RX6 66 yJ9_min_7cf53 ∈ qws := qw_4 124 rfl rfl
theorem wd_1008 : Cond.static yJ9_min_7cf53 ∈ qws := qw_4 125 rfl rfl
theorem wd_1009 : Cond.code yJ9_min_7cf53 cJ9_min_7cf53 2 (some .int) ∈ qws := qw_4 126 rfl rfl
theorem wd_1010 : Cond.methodLink RX11 132 yX6_lineWithout ∈ qws := qw_4 127 rfl rfl
theorem wd_1011 : Cond.instanceMethod yX6_lineWithout ∈ qws := qw_4 128 rfl rfl
theorem wd_1012 : Cond.selects RX6 yX6_lineWithout yX6_lineWithout ∈ qws := qw_4 129 rfl rfl
theorem wd_1013 : Cond.code yX6_lineWithout cX6_lineWithout 10 (some .int) ∈ qws := qw_4 130 rfl rfl
theorem wd_1014 : Cond.methodLink RL 58 yX11_soonest ∈ qws := qw_4 131 rfl rfl
theorem wd_1015 : Cond.instanceMethod yX11_soonest ∈ qws := qw_4 132 rfl rfl
theorem wd_1016 : Cond.selects RX11 yX11_soonest yX11_soonest ∈ qws := qw_4 133 rfl rfl
theorem wd_1017 : Cond.code yX11_soonest cX11_soonest 5 (some .int) ∈ qws := qw_4 134 rfl rfl
theorem wd_1018 : Cond.methodLink RX11 135 yX6_linesUpTo ∈ qws := qw_4 135 rfl rfl
theorem wd_1019 : Cond.instanceMethod yX6_linesUpTo ∈ qws := qw_4 136 rfl rfl
theorem wd_1020 : Cond.selects RX6 yX6_linesUpTo yX6_linesUpTo ∈ qws := qw_4 137 rfl rfl
theorem wd_1021 : Cond.code yX6_linesUpTo cX6_linesUpTo 6 (some .int) ∈ qws := qw_4 138 rfl rfl
theorem wd_1022 : Cond.methodLink RX6 71 yX6_stepStrayings ∈ qws := qw_4 139 rfl rfl
theorem wd_1024 : Cond.instanceMethod yX6_stepStrayings ∈ qws := qw_4 141 rfl rfl
theorem wd_1025 : Cond.code yX6_stepStrayings cX6_stepStrayings 5 none ∈ qws := qw_4 142 rfl rfl
theorem wd_1026 : Cond.methodLink RX6 75 arraycopyName ∈ qws := qw_4 143 rfl rfl
theorem wd_1027 : Cond.static arraycopyName ∈ qws := qw_4 144 rfl rfl
theorem wd_1028 : Cond.native arraycopyName ∈ qws := qw_4 145 rfl rfl
theorem wd_1029 : Cond.methodLink RL 62 yX11_together ∈ qws := qw_4 146 rfl rfl
theorem wd_1030 : Cond.instanceMethod yX11_together ∈ qws := qw_4 147 rfl rfl
theorem wd_1031 : Cond.selects RX11 yX11_together yX11_together ∈ qws := qw_4 148 rfl rfl
theorem wd_1032 : Cond.code yX11_together cX11_together 5 (some .int) ∈ qws := qw_4 149 rfl rfl
theorem wd_1033 : Cond.methodLink RX11 138 yX11_isPerson ∈ qws := qw_4 150 rfl rfl
theorem wd_1034 : Cond.methodLink RX11 141 yX6_linesUntilBoth ∈ qws := qw_4 151 rfl rfl
theorem wd_1035 : Cond.instanceMethod yX6_linesUntilBoth ∈ qws := qw_4 152 rfl rfl
theorem wd_1036 : Cond.selects RX6 yX6_linesUntilBoth yX6_linesUntilBoth ∈ qws := qw_4 153 rfl rfl
theorem wd_1037 : Cond.code yX6_linesUntilBoth cX6_linesUntilBoth 5 (some .int) ∈ qws := qw_4 154 rfl rfl
theorem wd_1038 : Cond.methodLink RX6 81 yX6_saidBy ∈ qws := qw_4 155 rfl rfl
theorem wd_1039 : Cond.static yX6_saidBy ∈ qws := qw_4 156 rfl rfl
theorem wd_1040 : Cond.code yX6_saidBy cX6_saidBy 5 (some .int) ∈ qws := qw_4 157 rfl rfl
theorem wd_1041 : Cond.methodLink RX6 89 yX0_whoSays ∈ qws := qw_4 158 rfl rfl
theorem wd_1042 : Cond.methodLink RX6 85 yX6_stepTogether ∈ qws := qw_4 159 rfl rfl
theorem wd_1044 : Cond.instanceMethod yX6_stepTogether ∈ qws := qw_4 161 rfl rfl
theorem wd_1045 : Cond.code yX6_stepTogether cX6_stepTogether 8 none ∈ qws := qw_4 162 rfl rfl
theorem wd_1046 : Cond.methodLink RL 66 yX11_comes ∈ qws := qw_4 163 rfl rfl
theorem wd_1047 : Cond.instanceMethod yX11_comes ∈ qws := qw_4 164 rfl rfl
theorem wd_1048 : Cond.selects RX11 yX11_comes yX11_comes ∈ qws := qw_4 165 rfl rfl
theorem wd_1049 : Cond.code yX11_comes cX11_comes 7 (some .long) ∈ qws := qw_4 166 rfl rfl
theorem wd_1050 : Cond.constantLong RX11 144 (-1) ∈ qws := qw_4 167 rfl rfl
theorem wd_1051 : Cond.methodLink RX11 146 yX5_gather ∈ qws := qw_4 168 rfl rfl
theorem wd_1052 : Cond.instanceMethod yX5_gather ∈ qws := qw_4 169 rfl rfl
theorem wd_1053 : Cond.selects RX5 yX5_gather yX5_gather ∈ qws := qw_4 170 rfl rfl
theorem wd_1054 : Cond.code yX5_gather cX5_gather 10 none ∈ qws := qw_4 171 rfl rfl
theorem wd_1055 : Cond.methodLink RX5 24 yX0_has ∈ qws := qw_4 172 rfl rfl
theorem wd_1056 : Cond.methodLink RX5 28 yX5_tenths ∈ qws := qw_4 173 rfl rfl
theorem wd_1057 : Cond.static yX5_tenths ∈ qws := qw_4 174 rfl rfl
theorem wd_1058 : Cond.code yX5_tenths cX5_tenths 3 (some .int) ∈ qws := qw_4 175 rfl rfl
theorem wd_1059 : Cond.methodLink RX5 50 yX0_whoSays ∈ qws := qw_4 176 rfl rfl
theorem wd_1060 : Cond.methodLink RX5 54 yX0_driesOf ∈ qws := qw_4 177 rfl rfl
theorem wd_1061 : Cond.constantLong RX5 32 (10) ∈ qws := qw_4 178 rfl rfl
theorem wd_1062 : Cond.methodLink RX5 34 yX5_takeHarm ∈ qws := qw_4 179 rfl rfl
theorem wd_1064 : Cond.instanceMethod yX5_takeHarm ∈ qws := qw_4 181 rfl rfl
theorem wd_1065 : Cond.code yX5_takeHarm cX5_takeHarm 5 (some .long) ∈ qws := qw_4 182 rfl rfl
theorem wd_1066 : Cond.methodLink RX5 61 yX0_harmDone ∈ qws := qw_4 183 rfl rfl
theorem wd_1067 : Cond.methodLink RX5 38 yX5_takeScene ∈ qws := qw_4 184 rfl rfl
theorem wd_1069 : Cond.instanceMethod yX5_takeScene ∈ qws := qw_4 186 rfl rfl
theorem wd_1070 : Cond.code yX5_takeScene cX5_takeScene 6 (some .long) ∈ qws := qw_4 187 rfl rfl
theorem wd_1071 : Cond.methodLink RX5 64 yX0_sceneOf ∈ qws := qw_4 188 rfl rfl
theorem wd_1072 : Cond.methodLink RX5 42 yX5_step ∈ qws := qw_4 189 rfl rfl
theorem wd_1074 : Cond.instanceMethod yX5_step ∈ qws := qw_4 191 rfl rfl
theorem wd_1075 : Cond.code yX5_step cX5_step 7 none ∈ qws := qw_4 192 rfl rfl
theorem wd_1076 : Cond.methodLink RX5 67 yX0_nextOf ∈ qws := qw_4 193 rfl rfl
theorem wd_1077 : Cond.methodLink RX5 70 yX0_following ∈ qws := qw_4 194 rfl rfl
theorem wd_1078 : Cond.methodLink RX5 74 arraycopyName ∈ qws := qw_4 195 rfl rfl
theorem wd_1079 : Cond.methodLink RX5 46 yX5_reduce ∈ qws := qw_4 196 rfl rfl
theorem wd_1081 : Cond.instanceMethod yX5_reduce ∈ qws := qw_4 198 rfl rfl
theorem wd_1082 : Cond.code yX5_reduce cX5_reduce 12 none ∈ qws := qw_4 199 rfl rfl
theorem wd_1083 : Cond.methodLink RL 71 yX11_harm ∈ qws := qw_4 200 rfl rfl
theorem wd_1084 : Cond.instanceMethod yX11_harm ∈ qws := qw_4 201 rfl rfl
theorem wd_1085 : Cond.selects RX11 yX11_harm yX11_harm ∈ qws := qw_4 202 rfl rfl
theorem wd_1086 : Cond.code yX11_harm cX11_harm 6 (some .long) ∈ qws := qw_4 203 rfl rfl
theorem wd_1087 : Cond.methodLink RL 76 yX11_loop ∈ qws := qw_4 204 rfl rfl
theorem wd_1088 : Cond.instanceMethod yX11_loop ∈ qws := qw_4 205 rfl rfl
theorem wd_1089 : Cond.selects RX11 yX11_loop yX11_loop ∈ qws := qw_4 206 rfl rfl
theorem wd_1090 : Cond.code yX11_loop cX11_loop 4 (some .int) ∈ qws := qw_4 207 rfl rfl
theorem wd_1091 : Cond.methodLink RX11 157 yX0_lengthWithout ∈ qws := qw_4 208 rfl rfl
theorem wd_1092 : Cond.instanceMethod yX0_lengthWithout ∈ qws := qw_4 209 rfl rfl
theorem wd_1093 : Cond.selects RX0 yX0_lengthWithout yX0_lengthWithout ∈ qws := qw_4 210 rfl rfl
theorem wd_1094 : Cond.code yX0_lengthWithout cX0_lengthWithout 5 (some .int) ∈ qws := qw_4 211 rfl rfl
theorem wd_1095 : Cond.methodLink RX0 99 yX0_nextWithout ∈ qws := qw_4 212 rfl rfl
theorem wd_1097 : Cond.instanceMethod yX0_nextWithout ∈ qws := qw_4 214 rfl rfl
theorem wd_1098 : Cond.code yX0_nextWithout cX0_nextWithout 4 (some .int) ∈ qws := qw_4 215 rfl rfl
theorem wd_1099 : Cond.methodLink RX11 160 yX0_lengthOfLoop ∈ qws := qw_4 216 rfl rfl
theorem wd_1100 : Cond.instanceMethod yX0_lengthOfLoop ∈ qws := qw_4 217 rfl rfl
theorem wd_1101 : Cond.selects RX0 yX0_lengthOfLoop yX0_lengthOfLoop ∈ qws := qw_4 218 rfl rfl
theorem wd_1102 : Cond.code yX0_lengthOfLoop cX0_lengthOfLoop 4 (some .int) ∈ qws := qw_4 219 rfl rfl
theorem wd_1103 : Cond.methodLink RL 81 yX11_merged ∈ qws := qw_4 220 rfl rfl
theorem wd_1104 : Cond.instanceMethod yX11_merged ∈ qws := qw_4 221 rfl rfl
theorem wd_1105 : Cond.selects RX11 yX11_merged yX11_merged ∈ qws := qw_4 222 rfl rfl
theorem wd_1106 : Cond.code yX11_merged cX11_merged 7 (some .int) ∈ qws := qw_4 223 rfl rfl
theorem wd_1107 : Cond.methodLink RX11 164 yX4_merge ∈ qws := qw_4 224 rfl rfl
theorem wd_1108 : Cond.instanceMethod yX4_merge ∈ qws := qw_4 225 rfl rfl
theorem wd_1109 : Cond.selects RX4 yX4_merge yX4_merge ∈ qws := qw_4 226 rfl rfl
theorem wd_1110 : Cond.code yX4_merge cX4_merge 6 none ∈ qws := qw_4 227 rfl rfl
theorem wd_1111 : Cond.methodLink RX4 24 yX4_fillByNext ∈ qws := qw_4 228 rfl rfl
theorem wd_1112 : Cond.static yX4_fillByNext ∈ qws := qw_4 229 rfl rfl
theorem wd_1113 : Cond.code yX4_fillByNext cX4_fillByNext 5 (some .int) ∈ qws := qw_4 230 rfl rfl
theorem wd_1114 : Cond.methodLink RX4 42 yX0_has ∈ qws := qw_4 231 rfl rfl
theorem wd_1115 : Cond.methodLink RX4 48 yX0_whoSays ∈ qws := qw_4 232 rfl rfl
theorem wd_1116 : Cond.methodLink RX4 52 yX0_nextOf ∈ qws := qw_4 233 rfl rfl
theorem wd_1117 : Cond.methodLink RX4 35 yX4_shortestFrom ∈ qws := qw_4 234 rfl rfl
theorem wd_1119 : Cond.instanceMethod yX4_shortestFrom ∈ qws := qw_4 236 rfl rfl
theorem wd_1120 : Cond.code yX4_shortestFrom cX4_shortestFrom 3 (some .int) ∈ qws := qw_4 237 rfl rfl
theorem wd_1121 : Cond.methodLink RX4 56 yX4_isShared ∈ qws := qw_4 238 rfl rfl
theorem wd_1123 : Cond.instanceMethod yX4_isShared ∈ qws := qw_5 0 rfl rfl
theorem wd_1124 : Cond.code yX4_isShared cX4_isShared 3 (some .boolean) ∈ qws := qw_5 1 rfl rfl
theorem wd_1125 : Cond.methodLink RX4 60 yX4_shortestAt ∈ qws := qw_5 2 rfl rfl
theorem wd_1127 : Cond.instanceMethod yX4_shortestAt ∈ qws := qw_5 4 rfl rfl
theorem wd_1128 : Cond.code yX4_shortestAt cX4_shortestAt 3 (some .int) ∈ qws := qw_5 5 rfl rfl
theorem wd_1129 : Cond.constant RX4 55 (1000000) ∈ qws := qw_5 6 rfl rfl
theorem wd_1130 : Cond.methodLink RX4 63 yJ9_min_7cf53 ∈ qws := qw_5 7 rfl rfl
theorem wd_1131 : Cond.methodLink RX4 39 yX4_fillRow ∈ qws := qw_5 8 rfl rfl
theorem wd_1133 : Cond.instanceMethod yX4_fillRow ∈ qws := qw_5 10 rfl rfl
theorem wd_1134 : Cond.code yX4_fillRow cX4_fillRow 5 none ∈ qws := qw_5 11 rfl rfl
theorem wd_1135 : Cond.methodLink RX4 71 yX4_takesOne ∈ qws := qw_5 12 rfl rfl
theorem wd_1137 : Cond.instanceMethod yX4_takesOne ∈ qws := qw_5 14 rfl rfl
theorem wd_1138 : Cond.code yX4_takesOne cX4_takesOne 5 (some .boolean) ∈ qws := qw_5 15 rfl rfl
theorem wd_1139 : Cond.methodLink RX11 168 yX4_common ∈ qws := qw_5 16 rfl rfl
theorem wd_1140 : Cond.instanceMethod yX4_common ∈ qws := qw_5 17 rfl rfl
theorem wd_1141 : Cond.selects RX4 yX4_common yX4_common ∈ qws := qw_5 18 rfl rfl
theorem wd_1142 : Cond.code yX4_common cX4_common 1 (some .int) ∈ qws := qw_5 19 rfl rfl
theorem wd_1143 : Cond.methodLink RX11 174 yX4_person ∈ qws := qw_5 20 rfl rfl
theorem wd_1144 : Cond.instanceMethod yX4_person ∈ qws := qw_5 21 rfl rfl
theorem wd_1145 : Cond.selects RX4 yX4_person yX4_person ∈ qws := qw_5 22 rfl rfl
theorem wd_1146 : Cond.code yX4_person cX4_person 2 (some .int) ∈ qws := qw_5 23 rfl rfl
theorem wd_1147 : Cond.methodLink RL 85 yX11_voice ∈ qws := qw_5 24 rfl rfl
theorem wd_1148 : Cond.instanceMethod yX11_voice ∈ qws := qw_5 25 rfl rfl
theorem wd_1149 : Cond.selects RX11 yX11_voice yX11_voice ∈ qws := qw_5 26 rfl rfl
theorem wd_1150 : Cond.code yX11_voice cX11_voice 4 (some .int) ∈ qws := qw_5 27 rfl rfl
theorem wd_1151 : Cond.methodLink RX11 177 yX9_logAt ∈ qws := qw_5 28 rfl rfl
theorem wd_1152 : Cond.methodLink RX11 181 yX3_show ∈ qws := qw_5 29 rfl rfl
theorem wd_1153 : Cond.instanceMethod yX3_show ∈ qws := qw_5 30 rfl rfl
theorem wd_1154 : Cond.selects RX3 yX3_show yX3_show ∈ qws := qw_5 31 rfl rfl
theorem wd_1155 : Cond.code yX3_show cX3_show 2 (some .int) ∈ qws := qw_5 32 rfl rfl
theorem wd_1156 : Cond.methodLink RX3 25 yX3_has ∈ qws := qw_5 33 rfl rfl
theorem wd_1157 : Cond.instanceMethod yX3_has ∈ qws := qw_5 34 rfl rfl
theorem wd_1158 : Cond.selects RX3 yX3_has yX3_has ∈ qws := qw_5 35 rfl rfl
theorem wd_1159 : Cond.code yX3_has cX3_has 2 (some .boolean) ∈ qws := qw_5 36 rfl rfl
theorem wd_1160 : Cond.methodLink RL 89 yX11_fits ∈ qws := qw_5 37 rfl rfl
theorem wd_1161 : Cond.instanceMethod yX11_fits ∈ qws := qw_5 38 rfl rfl
theorem wd_1162 : Cond.selects RX11 yX11_fits yX11_fits ∈ qws := qw_5 39 rfl rfl
theorem wd_1163 : Cond.code yX11_fits cX11_fits 6 (some .long) ∈ qws := qw_5 40 rfl rfl
theorem wd_1164 : Cond.constantLong RX11 184 (-2) ∈ qws := qw_5 41 rfl rfl
theorem wd_1165 : Cond.methodLink RX11 186 yX2_show ∈ qws := qw_5 42 rfl rfl
theorem wd_1166 : Cond.instanceMethod yX2_show ∈ qws := qw_5 43 rfl rfl
theorem wd_1167 : Cond.selects RX2 yX2_show yX2_show ∈ qws := qw_5 44 rfl rfl
theorem wd_1168 : Cond.code yX2_show cX2_show 8 (some .long) ∈ qws := qw_5 45 rfl rfl
theorem wd_1169 : Cond.methodLink RX2 26 yX2_countFrom ∈ qws := qw_5 46 rfl rfl
theorem wd_1171 : Cond.instanceMethod yX2_countFrom ∈ qws := qw_5 48 rfl rfl
theorem wd_1172 : Cond.code yX2_countFrom cX2_countFrom 5 none ∈ qws := qw_5 49 rfl rfl
theorem wd_1173 : Cond.constant RX2 58 (1000000) ∈ qws := qw_5 50 rfl rfl
theorem wd_1174 : Cond.methodLink RX2 62 yX0_whoSays ∈ qws := qw_5 51 rfl rfl
theorem wd_1175 : Cond.methodLink RX2 66 yX3_mayBe ∈ qws := qw_5 52 rfl rfl
theorem wd_1176 : Cond.instanceMethod yX3_mayBe ∈ qws := qw_5 53 rfl rfl
theorem wd_1177 : Cond.selects RX3 yX3_mayBe yX3_mayBe ∈ qws := qw_5 54 rfl rfl
theorem wd_1178 : Cond.code yX3_mayBe cX3_mayBe 3 (some .boolean) ∈ qws := qw_5 55 rfl rfl
theorem wd_1179 : Cond.methodLink RX2 70 yX2_behind ∈ qws := qw_5 56 rfl rfl
theorem wd_1181 : Cond.instanceMethod yX2_behind ∈ qws := qw_5 58 rfl rfl
theorem wd_1182 : Cond.code yX2_behind cX2_behind 8 (some .long) ∈ qws := qw_5 59 rfl rfl
theorem wd_1183 : Cond.methodLink RX2 78 yX0_howManyFollow ∈ qws := qw_5 60 rfl rfl
theorem wd_1184 : Cond.methodLink RX2 81 yX0_following ∈ qws := qw_5 61 rfl rfl
theorem wd_1185 : Cond.methodLink RX2 34 yX2_at ∈ qws := qw_5 62 rfl rfl
theorem wd_1186 : Cond.static yX2_at ∈ qws := qw_5 63 rfl rfl
theorem wd_1187 : Cond.code yX2_at cX2_at 4 (some .long) ∈ qws := qw_5 64 rfl rfl
theorem wd_1188 : Cond.methodLink RX2 74 yX2_fewestBehind ∈ qws := qw_5 65 rfl rfl
theorem wd_1190 : Cond.instanceMethod yX2_fewestBehind ∈ qws := qw_5 67 rfl rfl
theorem wd_1191 : Cond.code yX2_fewestBehind cX2_fewestBehind 9 (some .int) ∈ qws := qw_5 68 rfl rfl
theorem wd_1192 : Cond.methodLink RX2 85 yX0_strayingOf ∈ qws := qw_5 69 rfl rfl
theorem wd_1193 : Cond.methodLink RX2 88 yJ9_min_7cf53 ∈ qws := qw_5 70 rfl rfl
theorem wd_1194 : Cond.constantLong RX2 38 (-1) ∈ qws := qw_5 71 rfl rfl
theorem wd_1195 : Cond.methodLink RX2 40 yX2_bestGuess ∈ qws := qw_5 72 rfl rfl
theorem wd_1197 : Cond.instanceMethod yX2_bestGuess ∈ qws := qw_5 74 rfl rfl
theorem wd_1198 : Cond.code yX2_bestGuess cX2_bestGuess 9 (some .int) ∈ qws := qw_5 75 rfl rfl
theorem wd_1199 : Cond.methodLink RX2 94 yX2_countUpTo ∈ qws := qw_5 76 rfl rfl
theorem wd_1201 : Cond.instanceMethod yX2_countUpTo ∈ qws := qw_5 78 rfl rfl
theorem wd_1202 : Cond.code yX2_countUpTo cX2_countUpTo 7 none ∈ qws := qw_5 79 rfl rfl
theorem wd_1203 : Cond.methodLink RX2 93 yX0_has ∈ qws := qw_5 80 rfl rfl
theorem wd_1204 : Cond.methodLink RX2 101 yX3_isGap ∈ qws := qw_5 81 rfl rfl
theorem wd_1205 : Cond.instanceMethod yX3_isGap ∈ qws := qw_5 82 rfl rfl
theorem wd_1206 : Cond.selects RX3 yX3_isGap yX3_isGap ∈ qws := qw_5 83 rfl rfl
theorem wd_1207 : Cond.code yX3_isGap cX3_isGap 2 (some .boolean) ∈ qws := qw_5 84 rfl rfl
theorem wd_1208 : Cond.methodLink RX2 104 yX2_mostOfOnePerson ∈ qws := qw_5 85 rfl rfl
theorem wd_1210 : Cond.instanceMethod yX2_mostOfOnePerson ∈ qws := qw_5 87 rfl rfl
theorem wd_1211 : Cond.code yX2_mostOfOnePerson cX2_mostOfOnePerson 9 (some .long) ∈ qws := qw_5 88 rfl rfl
theorem wd_1212 : Cond.methodLink RX2 97 yX2_through ∈ qws := qw_5 89 rfl rfl
theorem wd_1214 : Cond.instanceMethod yX2_through ∈ qws := qw_5 91 rfl rfl
theorem wd_1215 : Cond.code yX2_through cX2_through 3 (some .long) ∈ qws := qw_5 92 rfl rfl
theorem wd_1216 : Cond.methodLink RX2 108 yJ9_max_f86c9 ∈ qws := qw_5 93 rfl rfl
theorem wd_1217 : Cond.static yJ9_max_f86c9 ∈ qws := qw_5 94 rfl rfl
theorem wd_1218 : Cond.code yJ9_max_f86c9 cJ9_max_f86c9 4 (some .long) ∈ qws := qw_5 95 rfl rfl
theorem wd_1219 : Cond.methodLink RX2 44 yX3_has ∈ qws := qw_5 96 rfl rfl
theorem wd_1220 : Cond.constantLong RX2 48 (-2) ∈ qws := qw_5 97 rfl rfl
theorem wd_1221 : Cond.methodLink RX2 50 yX2_firstWayAt ∈ qws := qw_5 98 rfl rfl
theorem wd_1223 : Cond.instanceMethod yX2_firstWayAt ∈ qws := qw_5 100 rfl rfl
theorem wd_1224 : Cond.code yX2_firstWayAt cX2_firstWayAt 8 (some .int) ∈ qws := qw_5 101 rfl rfl
theorem wd_1225 : Cond.methodLink RX2 54 yX2_sureAt ∈ qws := qw_5 102 rfl rfl
theorem wd_1227 : Cond.instanceMethod yX2_sureAt ∈ qws := qw_5 104 rfl rfl
theorem wd_1228 : Cond.code yX2_sureAt cX2_sureAt 5 (some .int) ∈ qws := qw_5 105 rfl rfl
theorem wd_1229 : Cond.methodLink RL 94 yX11_town ∈ qws := qw_5 106 rfl rfl
theorem wd_1230 : Cond.instanceMethod yX11_town ∈ qws := qw_5 107 rfl rfl
theorem wd_1231 : Cond.selects RX11 yX11_town yX11_town ∈ qws := qw_5 108 rfl rfl
theorem wd_1232 : Cond.code yX11_town cX11_town 4 (some .int) ∈ qws := qw_5 109 rfl rfl
theorem wd_1233 : Cond.methodLink RX11 189 yX9_townAt ∈ qws := qw_5 110 rfl rfl
theorem wd_1234 : Cond.methodLink RX11 193 yX10_show ∈ qws := qw_5 111 rfl rfl
theorem wd_1235 : Cond.instanceMethod yX10_show ∈ qws := qw_5 112 rfl rfl
theorem wd_1236 : Cond.selects RX10 yX10_show yX10_show ∈ qws := qw_5 113 rfl rfl
theorem wd_1237 : Cond.code yX10_show cX10_show 2 (some .int) ∈ qws := qw_5 114 rfl rfl
theorem wd_1238 : Cond.methodLink RX10 34 yX10_bestToListen ∈ qws := qw_5 115 rfl rfl
theorem wd_1240 : Cond.instanceMethod yX10_bestToListen ∈ qws := qw_5 117 rfl rfl
theorem wd_1241 : Cond.code yX10_bestToListen cX10_bestToListen 5 (some .int) ∈ qws := qw_5 118 rfl rfl
theorem wd_1242 : Cond.methodLink RX10 38 yX10_othersHeardIn ∈ qws := qw_5 119 rfl rfl
theorem wd_1244 : Cond.instanceMethod yX10_othersHeardIn ∈ qws := qw_5 121 rfl rfl
theorem wd_1245 : Cond.code yX10_othersHeardIn cX10_othersHeardIn 4 (some .int) ∈ qws := qw_5 122 rfl rfl
theorem wd_1246 : Cond.methodLink RX10 59 yX10_whereHeard ∈ qws := qw_5 123 rfl rfl
theorem wd_1248 : Cond.instanceMethod yX10_whereHeard ∈ qws := qw_5 125 rfl rfl
theorem wd_1249 : Cond.code yX10_whereHeard cX10_whereHeard 4 (some .int) ∈ qws := qw_5 126 rfl rfl
theorem wd_1250 : Cond.methodLink RX10 62 yJ9_min_7cf53 ∈ qws := qw_5 127 rfl rfl
theorem wd_1251 : Cond.methodLink RX10 67 yJ9_max_7cf53 ∈ qws := qw_5 128 rfl rfl
theorem wd_1252 : Cond.methodLink RX10 70 yX10_wallsBetween ∈ qws := qw_5 129 rfl rfl
theorem wd_1254 : Cond.instanceMethod yX10_wallsBetween ∈ qws := qw_5 131 rfl rfl
theorem wd_1255 : Cond.code yX10_wallsBetween cX10_wallsBetween 5 (some .int) ∈ qws := qw_5 132 rfl rfl
theorem wd_1256 : Cond.methodLink RX10 55 yX10_has ∈ qws := qw_5 133 rfl rfl
theorem wd_1258 : Cond.instanceMethod yX10_has ∈ qws := qw_5 135 rfl rfl
theorem wd_1259 : Cond.code yX10_has cX10_has 2 (some .boolean) ∈ qws := qw_5 136 rfl rfl
theorem wd_1260 : Cond.methodLink RX10 73 yX10_loudOf ∈ qws := qw_5 137 rfl rfl
theorem wd_1262 : Cond.instanceMethod yX10_loudOf ∈ qws := qw_5 139 rfl rfl
theorem wd_1263 : Cond.code yX10_loudOf cX10_loudOf 2 (some .int) ∈ qws := qw_5 140 rfl rfl
theorem wd_1264 : Cond.methodLink RX10 42 yX10_fewestGuards ∈ qws := qw_5 141 rfl rfl
theorem wd_1266 : Cond.instanceMethod yX10_fewestGuards ∈ qws := qw_5 143 rfl rfl
theorem wd_1267 : Cond.code yX10_fewestGuards cX10_fewestGuards 4 (some .int) ∈ qws := qw_5 144 rfl rfl
theorem wd_1268 : Cond.methodLink RX10 76 yJ6_bitCount_0f7a4 ∈ qws := qw_5 145 rfl rfl
theorem wd_1269 : Cond.static yJ6_bitCount_0f7a4 ∈ qws := qw_5 146 rfl rfl
theorem wd_1270 : Cond.code yJ6_bitCount_0f7a4 cJ6_bitCount_0f7a4 1 (some .int) ∈ qws := qw_5 147 rfl rfl
theorem wd_1271 : Cond.constant RJ6 265 (1431655765) ∈ qws := qw_5 148 rfl rfl
theorem wd_1272 : Cond.constant RJ6 266 (858993459) ∈ qws := qw_5 149 rfl rfl
theorem wd_1273 : Cond.constant RJ6 267 (252645135) ∈ qws := qw_5 150 rfl rfl
theorem wd_1274 : Cond.methodLink RX10 81 yX10_allHeardBy ∈ qws := qw_5 151 rfl rfl
theorem wd_1276 : Cond.instanceMethod yX10_allHeardBy ∈ qws := qw_5 153 rfl rfl
theorem wd_1277 : Cond.code yX10_allHeardBy cX10_allHeardBy 4 (some .boolean) ∈ qws := qw_5 154 rfl rfl
theorem wd_1278 : Cond.methodLink RX10 45 yX10_wrongCouples ∈ qws := qw_5 155 rfl rfl
theorem wd_1280 : Cond.instanceMethod yX10_wrongCouples ∈ qws := qw_5 157 rfl rfl
theorem wd_1281 : Cond.code yX10_wrongCouples cX10_wrongCouples 4 (some .int) ∈ qws := qw_5 158 rfl rfl
theorem wd_1282 : Cond.methodLink RX10 48 yX10_hushing ∈ qws := qw_5 159 rfl rfl
theorem wd_1284 : Cond.instanceMethod yX10_hushing ∈ qws := qw_5 161 rfl rfl
theorem wd_1285 : Cond.code yX10_hushing cX10_hushing 3 (some .int) ∈ qws := qw_5 162 rfl rfl
theorem wd_1286 : Cond.methodLink RX10 51 yX10_showHouse ∈ qws := qw_5 163 rfl rfl
theorem wd_1288 : Cond.instanceMethod yX10_showHouse ∈ qws := qw_5 165 rfl rfl
theorem wd_1289 : Cond.code yX10_showHouse cX10_showHouse 3 (some .int) ∈ qws := qw_5 166 rfl rfl
theorem wd_1290 : Cond.methodLink RL 98 yX11_drawn ∈ qws := qw_5 167 rfl rfl
theorem wd_1291 : Cond.instanceMethod yX11_drawn ∈ qws := qw_5 168 rfl rfl
theorem wd_1292 : Cond.selects RX11 yX11_drawn yX11_drawn ∈ qws := qw_5 169 rfl rfl
theorem wd_1293 : Cond.code yX11_drawn cX11_drawn 6 (some .int) ∈ qws := qw_5 170 rfl rfl
theorem wd_1294 : Cond.methodLink RX11 199 yX8_playDrawn ∈ qws := qw_5 171 rfl rfl
theorem wd_1295 : Cond.instanceMethod yX8_playDrawn ∈ qws := qw_5 172 rfl rfl
theorem wd_1296 : Cond.selects RX8 yX8_playDrawn yX8_playDrawn ∈ qws := qw_5 173 rfl rfl
theorem wd_1297 : Cond.code yX8_playDrawn cX8_playDrawn 5 none ∈ qws := qw_5 174 rfl rfl
theorem wd_1298 : Cond.methodLink RX8 79 yX8_drawDeed ∈ qws := qw_5 175 rfl rfl
theorem wd_1300 : Cond.instanceMethod yX8_drawDeed ∈ qws := qw_5 177 rfl rfl
theorem wd_1301 : Cond.code yX8_drawDeed cX8_drawDeed 4 none ∈ qws := qw_5 178 rfl rfl
theorem wd_1302 : Cond.methodLink RX8 83 yX8_draw ∈ qws := qw_5 179 rfl rfl
theorem wd_1304 : Cond.instanceMethod yX8_draw ∈ qws := qw_5 181 rfl rfl
theorem wd_1305 : Cond.code yX8_draw cX8_draw 2 (some .int) ∈ qws := qw_5 182 rfl rfl
theorem wd_1306 : Cond.constant RX8 104 (1103515245) ∈ qws := qw_5 183 rfl rfl
theorem wd_1307 : Cond.methodLink RX8 86 yX8_drawFollower ∈ qws := qw_5 184 rfl rfl
theorem wd_1309 : Cond.instanceMethod yX8_drawFollower ∈ qws := qw_5 186 rfl rfl
theorem wd_1310 : Cond.code yX8_drawFollower cX8_drawFollower 3 (some .int) ∈ qws := qw_5 187 rfl rfl
theorem wd_1311 : Cond.methodLink RX8 96 yX0_howManyFollow ∈ qws := qw_5 188 rfl rfl
theorem wd_1312 : Cond.methodLink RL 102 yX11_bar ∈ qws := qw_5 189 rfl rfl
theorem wd_1313 : Cond.instanceMethod yX11_bar ∈ qws := qw_5 190 rfl rfl
theorem wd_1314 : Cond.selects RX11 yX11_bar yX11_bar ∈ qws := qw_5 191 rfl rfl
theorem wd_1315 : Cond.code yX11_bar cX11_bar 4 (some .int) ∈ qws := qw_5 192 rfl rfl
theorem wd_1316 : Cond.methodLink RX11 203 yX6_fewestOut ∈ qws := qw_5 193 rfl rfl
theorem wd_1317 : Cond.instanceMethod yX6_fewestOut ∈ qws := qw_5 194 rfl rfl
theorem wd_1318 : Cond.selects RX6 yX6_fewestOut yX6_fewestOut ∈ qws := qw_5 195 rfl rfl
theorem wd_1319 : Cond.code yX6_fewestOut cX6_fewestOut 6 (some .int) ∈ qws := qw_5 196 rfl rfl
theorem wd_1320 : Cond.methodLink RX6 107 yX6_linesOf ∈ qws := qw_5 197 rfl rfl
theorem wd_1321 : Cond.static yX6_linesOf ∈ qws := qw_5 198 rfl rfl
theorem wd_1322 : Cond.code yX6_linesOf cX6_linesOf 4 (some .int) ∈ qws := qw_5 199 rfl rfl
theorem wd_1323 : Cond.methodLink RX6 111 yJ6_bitCount_0f7a4 ∈ qws := qw_5 200 rfl rfl
theorem wd_1324 : Cond.methodLink RX6 116 yX6_canBeSaid ∈ qws := qw_5 201 rfl rfl
theorem wd_1326 : Cond.instanceMethod yX6_canBeSaid ∈ qws := qw_5 203 rfl rfl
theorem wd_1327 : Cond.code yX6_canBeSaid cX6_canBeSaid 11 (some .int) ∈ qws := qw_5 204 rfl rfl
theorem wd_1328 : Cond.methodLink RX6 103 yX6_mayBeSaid ∈ qws := qw_5 205 rfl rfl
theorem wd_1329 : Cond.static yX6_mayBeSaid ∈ qws := qw_5 206 rfl rfl
theorem wd_1330 : Cond.code yX6_mayBeSaid cX6_mayBeSaid 4 (some .boolean) ∈ qws := qw_5 207 rfl rfl
theorem wd_1331 : Cond.methodLink RL 106 yX11_must ∈ qws := qw_5 208 rfl rfl
theorem wd_1332 : Cond.instanceMethod yX11_must ∈ qws := qw_5 209 rfl rfl
theorem wd_1333 : Cond.selects RX11 yX11_must yX11_must ∈ qws := qw_5 210 rfl rfl
theorem wd_1334 : Cond.code yX11_must cX11_must 4 (some .int) ∈ qws := qw_5 211 rfl rfl
theorem wd_1335 : Cond.methodLink RX11 206 yX6_neededFor ∈ qws := qw_5 212 rfl rfl
theorem wd_1336 : Cond.instanceMethod yX6_neededFor ∈ qws := qw_5 213 rfl rfl
theorem wd_1337 : Cond.selects RX6 yX6_neededFor yX6_neededFor ∈ qws := qw_5 214 rfl rfl
theorem wd_1338 : Cond.code yX6_neededFor cX6_neededFor 6 (some .int) ∈ qws := qw_5 215 rfl rfl
theorem wd_1339 : Cond.methodLink RL 110 yX11_ways ∈ qws := qw_5 216 rfl rfl
theorem wd_1340 : Cond.instanceMethod yX11_ways ∈ qws := qw_5 217 rfl rfl
theorem wd_1341 : Cond.selects RX11 yX11_ways yX11_ways ∈ qws := qw_5 218 rfl rfl
theorem wd_1342 : Cond.code yX11_ways cX11_ways 4 (some .long) ∈ qws := qw_5 219 rfl rfl
theorem wd_1343 : Cond.methodLink RX11 209 yX6_howManyWays ∈ qws := qw_5 220 rfl rfl
theorem wd_1344 : Cond.instanceMethod yX6_howManyWays ∈ qws := qw_5 221 rfl rfl
theorem wd_1345 : Cond.selects RX6 yX6_howManyWays yX6_howManyWays ∈ qws := qw_5 222 rfl rfl
theorem wd_1346 : Cond.code yX6_howManyWays cX6_howManyWays 5 (some .long) ∈ qws := qw_5 223 rfl rfl
theorem wd_1347 : Cond.methodLink RX6 92 yX6_sumOfFollowers ∈ qws := qw_5 224 rfl rfl
theorem wd_1349 : Cond.instanceMethod yX6_sumOfFollowers ∈ qws := qw_5 226 rfl rfl
theorem wd_1350 : Cond.code yX6_sumOfFollowers cX6_sumOfFollowers 7 (some .long) ∈ qws := qw_5 227 rfl rfl
theorem wd_1351 : Cond.methodLink RL 115 yX11_worst ∈ qws := qw_5 228 rfl rfl
theorem wd_1352 : Cond.instanceMethod yX11_worst ∈ qws := qw_5 229 rfl rfl
theorem wd_1353 : Cond.selects RX11 yX11_worst yX11_worst ∈ qws := qw_5 230 rfl rfl
theorem wd_1354 : Cond.code yX11_worst cX11_worst 6 (some .int) ∈ qws := qw_5 231 rfl rfl
theorem wd_1355 : Cond.methodLink RX11 213 yX6_harmOfWay ∈ qws := qw_5 232 rfl rfl
theorem wd_1356 : Cond.instanceMethod yX6_harmOfWay ∈ qws := qw_5 233 rfl rfl
theorem wd_1357 : Cond.selects RX6 yX6_harmOfWay yX6_harmOfWay ∈ qws := qw_5 234 rfl rfl
theorem wd_1358 : Cond.code yX6_harmOfWay cX6_harmOfWay 8 (some .int) ∈ qws := qw_5 235 rfl rfl
theorem wd_1359 : Cond.methodLink RX6 96 yX0_harmDone ∈ qws := qw_5 236 rfl rfl
theorem wd_1360 : Cond.methodLink RX6 99 yX6_harmBehind ∈ qws := qw_5 237 rfl rfl
theorem wd_1362 : Cond.instanceMethod yX6_harmBehind ∈ qws := qw_5 239 rfl rfl
theorem wd_1363 : Cond.code yX6_harmBehind cX6_harmBehind 10 (some .int) ∈ qws := qw_6 0 rfl rfl
theorem wd_1364 : Cond.methodLink RL 120 yX11_lost ∈ qws := qw_6 1 rfl rfl
theorem wd_1365 : Cond.instanceMethod yX11_lost ∈ qws := qw_6 2 rfl rfl
theorem wd_1366 : Cond.selects RX11 yX11_lost yX11_lost ∈ qws := qw_6 3 rfl rfl
theorem wd_1367 : Cond.code yX11_lost cX11_lost 5 (some .int) ∈ qws := qw_6 4 rfl rfl
theorem wd_1368 : Cond.methodLink RX11 217 yX0_shortestWithout ∈ qws := qw_6 5 rfl rfl
theorem wd_1369 : Cond.instanceMethod yX0_shortestWithout ∈ qws := qw_6 6 rfl rfl
theorem wd_1370 : Cond.selects RX0 yX0_shortestWithout yX0_shortestWithout ∈ qws := qw_6 7 rfl rfl
theorem wd_1371 : Cond.code yX0_shortestWithout cX0_shortestWithout 5 (some .int) ∈ qws := qw_6 8 rfl rfl
theorem wd_1372 : Cond.constant RX0 102 (1000000) ∈ qws := qw_6 9 rfl rfl
theorem wd_1373 : Cond.methodLink RX0 103 yX0_lengthWithout ∈ qws := qw_6 10 rfl rfl
theorem wd_1374 : Cond.methodLink RL 124 yX11_force ∈ qws := qw_6 11 rfl rfl
theorem wd_1375 : Cond.instanceMethod yX11_force ∈ qws := qw_6 12 rfl rfl
theorem wd_1376 : Cond.selects RX11 yX11_force yX11_force ∈ qws := qw_6 13 rfl rfl
theorem wd_1377 : Cond.code yX11_force cX11_force 5 (some .int) ∈ qws := qw_6 14 rfl rfl
theorem wd_1378 : Cond.methodLink RX11 220 yX6_linesForSure ∈ qws := qw_6 15 rfl rfl
theorem wd_1379 : Cond.instanceMethod yX6_linesForSure ∈ qws := qw_6 16 rfl rfl
theorem wd_1380 : Cond.selects RX6 yX6_linesForSure yX6_linesForSure ∈ qws := qw_6 17 rfl rfl
theorem wd_1381 : Cond.code yX6_linesForSure cX6_linesForSure 6 (some .int) ∈ qws := qw_6 18 rfl rfl
theorem wd_1382 : Cond.methodLink RX6 119 yX6_sureBehind ∈ qws := qw_6 19 rfl rfl
theorem wd_1384 : Cond.instanceMethod yX6_sureBehind ∈ qws := qw_6 21 rfl rfl
theorem wd_1385 : Cond.code yX6_sureBehind cX6_sureBehind 9 (some .int) ∈ qws := qw_6 22 rfl rfl
theorem wd_1386 : Cond.methodLink RL 128 yX11_prompts ∈ qws := qw_6 23 rfl rfl
theorem wd_1387 : Cond.instanceMethod yX11_prompts ∈ qws := qw_6 24 rfl rfl
theorem wd_1388 : Cond.selects RX11 yX11_prompts yX11_prompts ∈ qws := qw_6 25 rfl rfl
theorem wd_1389 : Cond.code yX11_prompts cX11_prompts 5 (some .long) ∈ qws := qw_6 26 rfl rfl
theorem wd_1390 : Cond.methodLink RX11 223 yX5_driesByNext ∈ qws := qw_6 27 rfl rfl
theorem wd_1391 : Cond.instanceMethod yX5_driesByNext ∈ qws := qw_6 28 rfl rfl
theorem wd_1392 : Cond.selects RX5 yX5_driesByNext yX5_driesByNext ∈ qws := qw_6 29 rfl rfl
theorem wd_1393 : Cond.code yX5_driesByNext cX5_driesByNext 7 none ∈ qws := qw_6 30 rfl rfl
theorem wd_1394 : Cond.methodLink RL 133 yX11_parted ∈ qws := qw_6 31 rfl rfl
theorem wd_1395 : Cond.instanceMethod yX11_parted ∈ qws := qw_6 32 rfl rfl
theorem wd_1396 : Cond.selects RX11 yX11_parted yX11_parted ∈ qws := qw_6 33 rfl rfl
theorem wd_1397 : Cond.code yX11_parted cX11_parted 5 (some .int) ∈ qws := qw_6 34 rfl rfl
theorem wd_1398 : Cond.methodLink RX11 227 yX4_firstUnlike ∈ qws := qw_6 35 rfl rfl
theorem wd_1399 : Cond.instanceMethod yX4_firstUnlike ∈ qws := qw_6 36 rfl rfl
theorem wd_1400 : Cond.selects RX4 yX4_firstUnlike yX4_firstUnlike ∈ qws := qw_6 37 rfl rfl
theorem wd_1401 : Cond.code yX4_firstUnlike cX4_firstUnlike 6 (some .int) ∈ qws := qw_6 38 rfl rfl
theorem wd_1402 : Cond.methodLink RL 137 yX11_after ∈ qws := qw_6 39 rfl rfl
theorem wd_1403 : Cond.instanceMethod yX11_after ∈ qws := qw_6 40 rfl rfl
theorem wd_1404 : Cond.selects RX11 yX11_after yX11_after ∈ qws := qw_6 41 rfl rfl
theorem wd_1405 : Cond.code yX11_after cX11_after 6 (some .int) ∈ qws := qw_6 42 rfl rfl
theorem wd_1406 : Cond.methodLink RX11 231 yX8_longestSilence ∈ qws := qw_6 43 rfl rfl
theorem wd_1407 : Cond.instanceMethod yX8_longestSilence ∈ qws := qw_6 44 rfl rfl
theorem wd_1408 : Cond.selects RX8 yX8_longestSilence yX8_longestSilence ∈ qws := qw_6 45 rfl rfl
theorem wd_1409 : Cond.code yX8_longestSilence cX8_longestSilence 5 (some .int) ∈ qws := qw_6 46 rfl rfl
theorem wd_1410 : Cond.methodLink RX11 235 yX8_loudest ∈ qws := qw_6 47 rfl rfl
theorem wd_1411 : Cond.instanceMethod yX8_loudest ∈ qws := qw_6 48 rfl rfl
theorem wd_1412 : Cond.selects RX8 yX8_loudest yX8_loudest ∈ qws := qw_6 49 rfl rfl
theorem wd_1413 : Cond.code yX8_loudest cX8_loudest 6 (some .int) ∈ qws := qw_6 50 rfl rfl
theorem wd_1414 : Cond.methodLink RX8 68 yX8_play ∈ qws := qw_6 51 rfl rfl
theorem wd_1415 : Cond.methodLink RX11 238 yX8_firstFined ∈ qws := qw_6 52 rfl rfl
theorem wd_1416 : Cond.instanceMethod yX8_firstFined ∈ qws := qw_6 53 rfl rfl
theorem wd_1417 : Cond.selects RX8 yX8_firstFined yX8_firstFined ∈ qws := qw_6 54 rfl rfl
theorem wd_1418 : Cond.code yX8_firstFined cX8_firstFined 4 (some .int) ∈ qws := qw_6 55 rfl rfl
theorem wd_1419 : Cond.methodLink RL 141 yX11_count ∈ qws := qw_6 56 rfl rfl
theorem wd_1420 : Cond.instanceMethod yX11_count ∈ qws := qw_6 57 rfl rfl
theorem wd_1421 : Cond.selects RX11 yX11_count yX11_count ∈ qws := qw_6 58 rfl rfl
theorem wd_1422 : Cond.code yX11_count cX11_count 2 (some .int) ∈ qws := qw_6 59 rfl rfl
theorem wd_1423 : Cond.methodLink RL 145 yX11_image ∈ qws := qw_6 60 rfl rfl
theorem wd_1424 : Cond.instanceMethod yX11_image ∈ qws := qw_6 61 rfl rfl
theorem wd_1425 : Cond.selects RX11 yX11_image yX11_image ∈ qws := qw_6 62 rfl rfl
theorem wd_1426 : Cond.code yX11_image cX11_image 3 (some .boolean) ∈ qws := qw_6 63 rfl rfl
theorem wd_1427 : Cond.methodLink RX11 241 yX9_copy ∈ qws := qw_6 64 rfl rfl
theorem wd_1428 : Cond.instanceMethod yX9_copy ∈ qws := qw_6 65 rfl rfl
theorem wd_1429 : Cond.selects RX9 yX9_copy yX9_copy ∈ qws := qw_6 66 rfl rfl
theorem wd_1430 : Cond.code yX9_copy cX9_copy 3 none ∈ qws := qw_6 67 rfl rfl
theorem wd_1431 : Cond.methodLink RX9 54 arraycopyName ∈ qws := qw_6 68 rfl rfl
theorem wd_1432 : Cond.methodLink RX9 63 yX0_copy ∈ qws := qw_6 69 rfl rfl
theorem wd_1433 : Cond.instanceMethod yX0_copy ∈ qws := qw_6 70 rfl rfl
theorem wd_1434 : Cond.selects RX0 yX0_copy yX0_copy ∈ qws := qw_6 71 rfl rfl
theorem wd_1435 : Cond.code yX0_copy cX0_copy 2 none ∈ qws := qw_6 72 rfl rfl
theorem wd_1436 : Cond.methodLink RX0 76 arraycopyName ∈ qws := qw_6 73 rfl rfl
theorem wd_1437 : Cond.methodLink RX9 67 yX1_copy ∈ qws := qw_6 74 rfl rfl
theorem wd_1438 : Cond.instanceMethod yX1_copy ∈ qws := qw_6 75 rfl rfl
theorem wd_1439 : Cond.selects RX1 yX1_copy yX1_copy ∈ qws := qw_6 76 rfl rfl
theorem wd_1440 : Cond.code yX1_copy cX1_copy 2 none ∈ qws := qw_6 77 rfl rfl
theorem wd_1441 : Cond.methodLink RX1 22 arraycopyName ∈ qws := qw_6 78 rfl rfl
theorem wd_1442 : Cond.methodLink RX9 70 yX3_copy ∈ qws := qw_6 79 rfl rfl
theorem wd_1443 : Cond.instanceMethod yX3_copy ∈ qws := qw_6 80 rfl rfl
theorem wd_1444 : Cond.selects RX3 yX3_copy yX3_copy ∈ qws := qw_6 81 rfl rfl
theorem wd_1445 : Cond.code yX3_copy cX3_copy 2 none ∈ qws := qw_6 82 rfl rfl
theorem wd_1446 : Cond.methodLink RX3 19 arraycopyName ∈ qws := qw_6 83 rfl rfl
theorem wd_1447 : Cond.methodLink RX9 73 yX10_copy ∈ qws := qw_6 84 rfl rfl
theorem wd_1448 : Cond.instanceMethod yX10_copy ∈ qws := qw_6 85 rfl rfl
theorem wd_1449 : Cond.selects RX10 yX10_copy yX10_copy ∈ qws := qw_6 86 rfl rfl
theorem wd_1450 : Cond.code yX10_copy cX10_copy 2 none ∈ qws := qw_6 87 rfl rfl
theorem wd_1451 : Cond.methodLink RX10 28 arraycopyName ∈ qws := qw_6 88 rfl rfl
theorem wd_1452 : Cond.methodLink RL 150 yX11_again ∈ qws := qw_6 89 rfl rfl
theorem wd_1453 : Cond.instanceMethod yX11_again ∈ qws := qw_6 90 rfl rfl
theorem wd_1454 : Cond.selects RX11 yX11_again yX11_again ∈ qws := qw_6 91 rfl rfl
theorem wd_1455 : Cond.code yX11_again cX11_again 3 (some .boolean) ∈ qws := qw_6 92 rfl rfl
theorem wd_1456 : Cond.classLink RL 10 RX12 ∈ qws := qw_6 93 rfl rfl
theorem wd_1457 : Cond.instantiable RX12 49 ∈ qws := qw_6 94 rfl rfl
theorem wd_1458 : Cond.methodLink RL 12 yX12_init ∈ qws := qw_6 95 rfl rfl
theorem wd_1459 : Cond.instanceMethod yX12_init ∈ qws := qw_6 96 rfl rfl
theorem wd_1460 : Cond.code yX12_init cX12_init 1 none ∈ qws := qw_6 97 rfl rfl
theorem wd_1461 : Cond.methodLink RX12 1 Lib.objectInit ∈ qws := qw_6 98 rfl rfl
theorem wd_1610 : Cond.arrayClass .boolean ∈ qws := qw_7 7 rfl rfl
theorem wd_1611 : Cond.methodLink RL 17 yX12_feed ∈ qws := qw_7 8 rfl rfl
theorem wd_1612 : Cond.instanceMethod yX12_feed ∈ qws := qw_7 9 rfl rfl
theorem wd_1613 : Cond.selects RX12 yX12_feed yX12_feed ∈ qws := qw_7 10 rfl rfl
theorem wd_1614 : Cond.code yX12_feed cX12_feed 6 (some .int) ∈ qws := qw_7 11 rfl rfl
theorem wd_1615 : Cond.methodLink RX12 111 yX12_four ∈ qws := qw_7 12 rfl rfl
theorem wd_1617 : Cond.instanceMethod yX12_four ∈ qws := qw_7 14 rfl rfl
theorem wd_1618 : Cond.code yX12_four cX12_four 3 none ∈ qws := qw_7 15 rfl rfl
theorem wd_1619 : Cond.methodLink RL 22 yX12_end ∈ qws := qw_7 16 rfl rfl
theorem wd_1620 : Cond.instanceMethod yX12_end ∈ qws := qw_7 17 rfl rfl
theorem wd_1621 : Cond.selects RX12 yX12_end yX12_end ∈ qws := qw_7 18 rfl rfl
theorem wd_1622 : Cond.code yX12_end cX12_end 2 (some .int) ∈ qws := qw_7 19 rfl rfl
theorem wd_1623 : Cond.methodLink RX12 107 yX12_in ∈ qws := qw_7 20 rfl rfl
theorem wd_1624 : Cond.static yX12_in ∈ qws := qw_7 21 rfl rfl
theorem wd_1625 : Cond.code yX12_in cX12_in 3 (some .boolean) ∈ qws := qw_7 22 rfl rfl
theorem wd_1626 : Cond.methodLink RL 27 yX12_text ∈ qws := qw_7 23 rfl rfl
theorem wd_1627 : Cond.instanceMethod yX12_text ∈ qws := qw_7 24 rfl rfl
theorem wd_1628 : Cond.selects RX12 yX12_text yX12_text ∈ qws := qw_7 25 rfl rfl
theorem wd_1629 : Cond.code yX12_text cX12_text 4 (some .int) ∈ qws := qw_7 26 rfl rfl
theorem wd_1630 : Cond.methodLink RX12 260 yX12_is ∈ qws := qw_7 27 rfl rfl
theorem wd_1632 : Cond.instanceMethod yX12_is ∈ qws := qw_7 29 rfl rfl
theorem wd_1633 : Cond.code yX12_is cX12_is 3 (some .boolean) ∈ qws := qw_7 30 rfl rfl
theorem wd_1634 : Cond.methodLink RX12 263 yX12_readText ∈ qws := qw_7 31 rfl rfl
theorem wd_1636 : Cond.instanceMethod yX12_readText ∈ qws := qw_7 33 rfl rfl
theorem wd_1637 : Cond.code yX12_readText cX12_readText 3 (some .boolean) ∈ qws := qw_7 34 rfl rfl
theorem wd_1638 : Cond.methodLink RX12 249 yX12_blank ∈ qws := qw_7 35 rfl rfl
theorem wd_1640 : Cond.instanceMethod yX12_blank ∈ qws := qw_7 37 rfl rfl
theorem wd_1641 : Cond.code yX12_blank cX12_blank 3 none ∈ qws := qw_7 38 rfl rfl
theorem wd_1642 : Cond.methodLink RX12 159 yX12_token ∈ qws := qw_7 39 rfl rfl
theorem wd_1644 : Cond.instanceMethod yX12_token ∈ qws := qw_7 41 rfl rfl
theorem wd_1645 : Cond.code yX12_token cX12_token 3 none ∈ qws := qw_7 42 rfl rfl
theorem wd_1646 : Cond.methodLink RX12 121 yX12_see ∈ qws := qw_7 43 rfl rfl
theorem wd_1648 : Cond.instanceMethod yX12_see ∈ qws := qw_7 45 rfl rfl
theorem wd_1649 : Cond.code yX12_see cX12_see 1 (some .int) ∈ qws := qw_7 46 rfl rfl
theorem wd_1650 : Cond.methodLink RX12 252 yX12_lines ∈ qws := qw_7 47 rfl rfl
theorem wd_1652 : Cond.instanceMethod yX12_lines ∈ qws := qw_7 49 rfl rfl
theorem wd_1653 : Cond.code yX12_lines cX12_lines 4 (some .boolean) ∈ qws := qw_7 50 rfl rfl
theorem wd_1654 : Cond.methodLink RX12 245 yX12_lineOf ∈ qws := qw_7 51 rfl rfl
theorem wd_1656 : Cond.instanceMethod yX12_lineOf ∈ qws := qw_7 53 rfl rfl
theorem wd_1657 : Cond.code yX12_lineOf cX12_lineOf 5 (some .boolean) ∈ qws := qw_7 54 rfl rfl
theorem wd_1658 : Cond.methodLink RX12 232 yX12_bookLine ∈ qws := qw_7 55 rfl rfl
theorem wd_1660 : Cond.instanceMethod yX12_bookLine ∈ qws := qw_7 57 rfl rfl
theorem wd_1661 : Cond.code yX12_bookLine cX12_bookLine 4 (some .boolean) ∈ qws := qw_7 58 rfl rfl
theorem wd_1662 : Cond.constantLong RX12 181 (1818848869) ∈ qws := qw_7 59 rfl rfl
theorem wd_1663 : Cond.constantLong RX12 179 (6582905) ∈ qws := qw_7 60 rfl rfl
theorem wd_1664 : Cond.constantLong RX12 183 (1650549611) ∈ qws := qw_7 61 rfl rfl
theorem wd_1665 : Cond.constantLong RX12 185 (426953501796) ∈ qws := qw_7 62 rfl rfl
theorem wd_1666 : Cond.constantLong RX12 175 (1718773093) ∈ qws := qw_7 63 rfl rfl
theorem wd_1667 : Cond.constantLong RX12 177 (6518132) ∈ qws := qw_7 64 rfl rfl
theorem wd_1668 : Cond.methodLink RX12 147 yX12_fails ∈ qws := qw_7 65 rfl rfl
theorem wd_1670 : Cond.instanceMethod yX12_fails ∈ qws := qw_7 67 rfl rfl
theorem wd_1671 : Cond.code yX12_fails cX12_fails 1 (some .boolean) ∈ qws := qw_7 68 rfl rfl
theorem wd_1672 : Cond.methodLink RX12 187 yX12_full ∈ qws := qw_7 69 rfl rfl
theorem wd_1674 : Cond.instanceMethod yX12_full ∈ qws := qw_7 71 rfl rfl
theorem wd_1675 : Cond.code yX12_full cX12_full 4 none ∈ qws := qw_7 72 rfl rfl
theorem wd_1676 : Cond.methodLink RX12 151 yX12_later ∈ qws := qw_7 73 rfl rfl
theorem wd_1678 : Cond.instanceMethod yX12_later ∈ qws := qw_7 75 rfl rfl
theorem wd_1679 : Cond.code yX12_later cX12_later 3 none ∈ qws := qw_7 76 rfl rfl
theorem wd_1680 : Cond.methodLink RX12 191 yX12_lineLine ∈ qws := qw_7 77 rfl rfl
theorem wd_1682 : Cond.instanceMethod yX12_lineLine ∈ qws := qw_7 79 rfl rfl
theorem wd_1683 : Cond.code yX12_lineLine cX12_lineLine 3 (some .boolean) ∈ qws := qw_7 80 rfl rfl
theorem wd_1684 : Cond.methodLink RX12 172 yX12_takeFar ∈ qws := qw_7 81 rfl rfl
theorem wd_1686 : Cond.instanceMethod yX12_takeFar ∈ qws := qw_7 83 rfl rfl
theorem wd_1687 : Cond.code yX12_takeFar cX12_takeFar 4 (some .boolean) ∈ qws := qw_7 84 rfl rfl
theorem wd_1688 : Cond.methodLink RX12 162 yX12_take ∈ qws := qw_7 85 rfl rfl
theorem wd_1690 : Cond.instanceMethod yX12_take ∈ qws := qw_7 87 rfl rfl
theorem wd_1691 : Cond.code yX12_take cX12_take 4 (some .boolean) ∈ qws := qw_7 88 rfl rfl
theorem wd_1692 : Cond.methodLink RX12 168 yX12_greater ∈ qws := qw_7 89 rfl rfl
theorem wd_1693 : Cond.static yX12_greater ∈ qws := qw_7 90 rfl rfl
theorem wd_1694 : Cond.code yX12_greater cX12_greater 2 (some .int) ∈ qws := qw_7 91 rfl rfl
theorem wd_1695 : Cond.methodLink RX12 194 yX12_backLine ∈ qws := qw_7 92 rfl rfl
theorem wd_1697 : Cond.instanceMethod yX12_backLine ∈ qws := qw_7 94 rfl rfl
theorem wd_1698 : Cond.code yX12_backLine cX12_backLine 2 (some .boolean) ∈ qws := qw_7 95 rfl rfl
theorem wd_1699 : Cond.methodLink RX12 197 yX12_ownLine ∈ qws := qw_7 96 rfl rfl
theorem wd_1701 : Cond.instanceMethod yX12_ownLine ∈ qws := qw_7 98 rfl rfl
theorem wd_1702 : Cond.code yX12_ownLine cX12_ownLine 3 (some .boolean) ∈ qws := qw_7 99 rfl rfl
theorem wd_1703 : Cond.methodLink RX12 236 yX12_eveningLine ∈ qws := qw_7 100 rfl rfl
theorem wd_1705 : Cond.instanceMethod yX12_eveningLine ∈ qws := qw_7 102 rfl rfl
theorem wd_1706 : Cond.code yX12_eveningLine cX12_eveningLine 5 (some .boolean) ∈ qws := qw_7 103 rfl rfl
theorem wd_1707 : Cond.methodLink RX12 213 yX12_deedBy ∈ qws := qw_7 104 rfl rfl
theorem wd_1708 : Cond.static yX12_deedBy ∈ qws := qw_7 105 rfl rfl
theorem wd_1709 : Cond.code yX12_deedBy cX12_deedBy 2 (some .int) ∈ qws := qw_7 106 rfl rfl
theorem wd_1710 : Cond.constantLong RX12 201 (7561593) ∈ qws := qw_7 107 rfl rfl
theorem wd_1711 : Cond.constantLong RX12 203 (7304564) ∈ qws := qw_7 108 rfl rfl
theorem wd_1712 : Cond.constantLong RX12 205 (26990) ∈ qws := qw_7 109 rfl rfl
theorem wd_1713 : Cond.constantLong RX12 207 (123636798025844) ∈ qws := qw_7 110 rfl rfl
theorem wd_1714 : Cond.constantLong RX12 209 (2002872692) ∈ qws := qw_7 111 rfl rfl
theorem wd_1715 : Cond.constantLong RX12 211 (26479) ∈ qws := qw_7 112 rfl rfl
theorem wd_1716 : Cond.methodLink RX12 217 yX12_keep ∈ qws := qw_7 113 rfl rfl
theorem wd_1718 : Cond.instanceMethod yX12_keep ∈ qws := qw_7 115 rfl rfl
theorem wd_1719 : Cond.code yX12_keep cX12_keep 5 none ∈ qws := qw_7 116 rfl rfl
theorem wd_1720 : Cond.methodLink RX12 239 yX12_logLine ∈ qws := qw_7 117 rfl rfl
theorem wd_1722 : Cond.instanceMethod yX12_logLine ∈ qws := qw_7 119 rfl rfl
theorem wd_1723 : Cond.code yX12_logLine cX12_logLine 4 (some .boolean) ∈ qws := qw_7 120 rfl rfl
theorem wd_1724 : Cond.constantLong RX12 220 (448377483876) ∈ qws := qw_7 121 rfl rfl
theorem wd_1725 : Cond.constantLong RX12 222 (6775152) ∈ qws := qw_7 122 rfl rfl
theorem wd_1726 : Cond.methodLink RX12 242 yX12_townLine ∈ qws := qw_7 123 rfl rfl
theorem wd_1728 : Cond.instanceMethod yX12_townLine ∈ qws := qw_7 125 rfl rfl
theorem wd_1729 : Cond.code yX12_townLine cX12_townLine 3 (some .boolean) ∈ qws := qw_7 126 rfl rfl
theorem wd_1730 : Cond.constantLong RX12 224 (114827921155443) ∈ qws := qw_7 127 rfl rfl
theorem wd_1731 : Cond.constantLong RX12 226 (2002873452) ∈ qws := qw_7 128 rfl rfl
theorem wd_1732 : Cond.constantLong RX12 228 (1651470187) ∈ qws := qw_7 129 rfl rfl
theorem wd_1733 : Cond.constantLong RX12 230 (1819243876) ∈ qws := qw_7 130 rfl rfl
theorem wd_1734 : Cond.methodLink RX12 266 yX12_storeAll ∈ qws := qw_7 131 rfl rfl
theorem wd_1736 : Cond.instanceMethod yX12_storeAll ∈ qws := qw_7 133 rfl rfl
theorem wd_1737 : Cond.code yX12_storeAll cX12_storeAll 3 none ∈ qws := qw_7 134 rfl rfl
theorem wd_1738 : Cond.methodLink RX12 256 yX12_store ∈ qws := qw_7 135 rfl rfl
theorem wd_1740 : Cond.instanceMethod yX12_store ∈ qws := qw_7 137 rfl rfl
theorem wd_1741 : Cond.code yX12_store cX12_store 5 none ∈ qws := qw_7 138 rfl rfl
theorem wd_1742 : Cond.methodLink RL 31 yX12_fault ∈ qws := qw_7 139 rfl rfl
theorem wd_1743 : Cond.instanceMethod yX12_fault ∈ qws := qw_7 140 rfl rfl
theorem wd_1744 : Cond.selects RX12 yX12_fault yX12_fault ∈ qws := qw_7 141 rfl rfl
theorem wd_1745 : Cond.code yX12_fault cX12_fault 2 (some .int) ∈ qws := qw_7 142 rfl rfl
theorem wd_1746 : Cond.methodLink RL 35 yX12_book ∈ qws := qw_7 143 rfl rfl
theorem wd_1747 : Cond.instanceMethod yX12_book ∈ qws := qw_7 144 rfl rfl
theorem wd_1748 : Cond.selects RX12 yX12_book yX12_book ∈ qws := qw_7 145 rfl rfl
theorem wd_1749 : Cond.code yX12_book cX12_book 3 (some .int) ∈ qws := qw_7 146 rfl rfl
theorem wd_1750 : Cond.methodLink RX12 285 yX12_hand ∈ qws := qw_7 147 rfl rfl
theorem wd_1752 : Cond.instanceMethod yX12_hand ∈ qws := qw_7 149 rfl rfl
theorem wd_1753 : Cond.code yX12_hand cX12_hand 3 (some .boolean) ∈ qws := qw_7 150 rfl rfl
theorem wd_1754 : Cond.methodLink RX12 272 yX12_of ∈ qws := qw_7 151 rfl rfl
theorem wd_1756 : Cond.instanceMethod yX12_of ∈ qws := qw_7 153 rfl rfl
theorem wd_1757 : Cond.code yX12_of cX12_of 2 (some .int) ∈ qws := qw_7 154 rfl rfl
theorem wd_1758 : Cond.methodLink RX12 279 yX12_addFollower ∈ qws := qw_7 155 rfl rfl
theorem wd_1760 : Cond.instanceMethod yX12_addFollower ∈ qws := qw_7 157 rfl rfl
theorem wd_1761 : Cond.code yX12_addFollower cX12_addFollower 4 none ∈ qws := qw_7 158 rfl rfl
theorem wd_1762 : Cond.methodLink RX12 288 yX12_isPerson ∈ qws := qw_7 159 rfl rfl
theorem wd_1763 : Cond.static yX12_isPerson ∈ qws := qw_7 160 rfl rfl
theorem wd_1764 : Cond.code yX12_isPerson cX12_isPerson 1 (some .boolean) ∈ qws := qw_7 161 rfl rfl
theorem wd_1765 : Cond.methodLink RX12 291 yX12_isLine ∈ qws := qw_7 162 rfl rfl
theorem wd_1767 : Cond.instanceMethod yX12_isLine ∈ qws := qw_7 164 rfl rfl
theorem wd_1768 : Cond.code yX12_isLine cX12_isLine 2 (some .boolean) ∈ qws := qw_7 165 rfl rfl
theorem wd_1769 : Cond.methodLink RX12 294 yX12_ofLine ∈ qws := qw_7 166 rfl rfl
theorem wd_1771 : Cond.instanceMethod yX12_ofLine ∈ qws := qw_7 168 rfl rfl
theorem wd_1772 : Cond.code yX12_ofLine cX12_ofLine 3 (some .int) ∈ qws := qw_7 169 rfl rfl
theorem wd_1773 : Cond.methodLink RX12 297 yX12_behind ∈ qws := qw_7 170 rfl rfl
theorem wd_1775 : Cond.instanceMethod yX12_behind ∈ qws := qw_7 172 rfl rfl
theorem wd_1776 : Cond.code yX12_behind cX12_behind 3 (some .int) ∈ qws := qw_7 173 rfl rfl
theorem wd_1777 : Cond.methodLink RL 40 yX12_follower ∈ qws := qw_7 174 rfl rfl
theorem wd_1778 : Cond.instanceMethod yX12_follower ∈ qws := qw_7 175 rfl rfl
theorem wd_1779 : Cond.selects RX12 yX12_follower yX12_follower ∈ qws := qw_7 176 rfl rfl
theorem wd_1780 : Cond.code yX12_follower cX12_follower 4 (some .int) ∈ qws := qw_7 177 rfl rfl
theorem wd_1781 : Cond.methodLink RL 44 yX12_deed ∈ qws := qw_7 178 rfl rfl
theorem wd_1782 : Cond.instanceMethod yX12_deed ∈ qws := qw_7 179 rfl rfl
theorem wd_1783 : Cond.selects RX12 yX12_deed yX12_deed ∈ qws := qw_7 180 rfl rfl
theorem wd_1784 : Cond.code yX12_deed cX12_deed 4 (some .int) ∈ qws := qw_7 181 rfl rfl
theorem wd_1785 : Cond.methodLink RX12 303 yX12_hasEvening ∈ qws := qw_7 182 rfl rfl
theorem wd_1787 : Cond.instanceMethod yX12_hasEvening ∈ qws := qw_7 184 rfl rfl
theorem wd_1788 : Cond.code yX12_hasEvening cX12_hasEvening 2 (some .boolean) ∈ qws := qw_7 185 rfl rfl
theorem wd_1789 : Cond.methodLink RX12 306 yX12_deeds ∈ qws := qw_7 186 rfl rfl
theorem wd_1791 : Cond.instanceMethod yX12_deeds ∈ qws := qw_7 188 rfl rfl
theorem wd_1792 : Cond.code yX12_deeds cX12_deeds 1 (some .int) ∈ qws := qw_7 189 rfl rfl
theorem wd_1793 : Cond.methodLink RX12 309 yX12_deedOf ∈ qws := qw_7 190 rfl rfl
theorem wd_1795 : Cond.instanceMethod yX12_deedOf ∈ qws := qw_7 192 rfl rfl
theorem wd_1796 : Cond.code yX12_deedOf cX12_deedOf 3 (some .int) ∈ qws := qw_7 193 rfl rfl
theorem wd_1797 : Cond.methodLink RL 48 yX12_till ∈ qws := qw_7 194 rfl rfl
theorem wd_1798 : Cond.instanceMethod yX12_till ∈ qws := qw_7 195 rfl rfl
theorem wd_1799 : Cond.selects RX12 yX12_till yX12_till ∈ qws := qw_7 196 rfl rfl
theorem wd_1800 : Cond.code yX12_till cX12_till 3 (some .int) ∈ qws := qw_7 197 rfl rfl
theorem wd_1801 : Cond.methodLink RX12 352 yX12_layAll ∈ qws := qw_7 198 rfl rfl
theorem wd_1803 : Cond.instanceMethod yX12_layAll ∈ qws := qw_7 200 rfl rfl
theorem wd_1804 : Cond.code yX12_layAll cX12_layAll 3 (some .boolean) ∈ qws := qw_7 201 rfl rfl
theorem wd_1805 : Cond.methodLink RX12 355 yX12_play ∈ qws := qw_7 202 rfl rfl
theorem wd_1807 : Cond.instanceMethod yX12_play ∈ qws := qw_7 204 rfl rfl
theorem wd_1808 : Cond.code yX12_play cX12_play 3 (some .int) ∈ qws := qw_7 205 rfl rfl
theorem wd_1809 : Cond.methodLink RX12 346 yX12_begin ∈ qws := qw_7 206 rfl rfl
theorem wd_1811 : Cond.instanceMethod yX12_begin ∈ qws := qw_7 208 rfl rfl
theorem wd_1812 : Cond.code yX12_begin cX12_begin 2 none ∈ qws := qw_7 209 rfl rfl
theorem wd_1813 : Cond.methodLink RX12 349 yX12_does ∈ qws := qw_7 210 rfl rfl
theorem wd_1815 : Cond.instanceMethod yX12_does ∈ qws := qw_7 212 rfl rfl
theorem wd_1816 : Cond.code yX12_does cX12_does 4 (some .boolean) ∈ qws := qw_7 213 rfl rfl
theorem wd_1817 : Cond.methodLink RX12 327 yX12_goes ∈ qws := qw_7 214 rfl rfl
theorem wd_1819 : Cond.instanceMethod yX12_goes ∈ qws := qw_7 216 rfl rfl
theorem wd_1820 : Cond.code yX12_goes cX12_goes 3 (some .boolean) ∈ qws := qw_7 217 rfl rfl
theorem wd_1821 : Cond.methodLink RX12 321 yX12_isThere ∈ qws := qw_7 218 rfl rfl
theorem wd_1823 : Cond.instanceMethod yX12_isThere ∈ qws := qw_7 220 rfl rfl
theorem wd_1824 : Cond.code yX12_isThere cX12_isThere 2 (some .boolean) ∈ qws := qw_7 221 rfl rfl
theorem wd_1825 : Cond.methodLink RX12 95 yX12_has ∈ qws := qw_7 222 rfl rfl
theorem wd_1826 : Cond.static yX12_has ∈ qws := qw_7 223 rfl rfl
theorem wd_1827 : Cond.code yX12_has cX12_has 2 (some .boolean) ∈ qws := qw_7 224 rfl rfl
theorem wd_1828 : Cond.methodLink RX12 331 yX12_says ∈ qws := qw_7 225 rfl rfl
theorem wd_1830 : Cond.instanceMethod yX12_says ∈ qws := qw_7 227 rfl rfl
theorem wd_1831 : Cond.code yX12_says cX12_says 2 (some .boolean) ∈ qws := qw_7 228 rfl rfl
theorem wd_1832 : Cond.methodLink RX12 318 yX12_isFollower ∈ qws := qw_7 229 rfl rfl
theorem wd_1834 : Cond.instanceMethod yX12_isFollower ∈ qws := qw_7 231 rfl rfl
theorem wd_1835 : Cond.code yX12_isFollower cX12_isFollower 3 (some .boolean) ∈ qws := qw_7 232 rfl rfl
theorem wd_1836 : Cond.methodLink RX12 282 yX12_who ∈ qws := qw_7 233 rfl rfl
theorem wd_1838 : Cond.instanceMethod yX12_who ∈ qws := qw_7 235 rfl rfl
theorem wd_1839 : Cond.code yX12_who cX12_who 2 (some .int) ∈ qws := qw_7 236 rfl rfl
theorem wd_1840 : Cond.methodLink RX12 324 yX12_isSaid ∈ qws := qw_7 237 rfl rfl
theorem wd_1842 : Cond.instanceMethod yX12_isSaid ∈ qws := qw_7 239 rfl rfl
theorem wd_1843 : Cond.code yX12_isSaid cX12_isSaid 2 none ∈ qws := qw_8 0 rfl rfl
theorem wd_1844 : Cond.methodLink RX12 312 yX12_harmOf ∈ qws := qw_8 1 rfl rfl
theorem wd_1846 : Cond.instanceMethod yX12_harmOf ∈ qws := qw_8 3 rfl rfl
theorem wd_1847 : Cond.code yX12_harmOf cX12_harmOf 2 (some .int) ∈ qws := qw_8 4 rfl rfl
theorem wd_1848 : Cond.methodLink RX12 315 yX12_goesOn ∈ qws := qw_8 5 rfl rfl
theorem wd_1850 : Cond.instanceMethod yX12_goesOn ∈ qws := qw_8 7 rfl rfl
theorem wd_1851 : Cond.code yX12_goesOn cX12_goesOn 2 none ∈ qws := qw_8 8 rfl rfl
theorem wd_1852 : Cond.methodLink RX12 334 yX12_dries ∈ qws := qw_8 9 rfl rfl
theorem wd_1854 : Cond.instanceMethod yX12_dries ∈ qws := qw_8 11 rfl rfl
theorem wd_1855 : Cond.code yX12_dries cX12_dries 1 (some .boolean) ∈ qws := qw_8 12 rfl rfl
theorem wd_1856 : Cond.methodLink RX12 337 yX12_isPrompted ∈ qws := qw_8 13 rfl rfl
theorem wd_1858 : Cond.instanceMethod yX12_isPrompted ∈ qws := qw_8 15 rfl rfl
theorem wd_1859 : Cond.code yX12_isPrompted cX12_isPrompted 1 (some .boolean) ∈ qws := qw_8 16 rfl rfl
theorem wd_1860 : Cond.methodLink RX12 340 yX12_waits ∈ qws := qw_8 17 rfl rfl
theorem wd_1862 : Cond.instanceMethod yX12_waits ∈ qws := qw_8 19 rfl rfl
theorem wd_1863 : Cond.code yX12_waits cX12_waits 1 (some .boolean) ∈ qws := qw_8 20 rfl rfl
theorem wd_1864 : Cond.methodLink RX12 343 yX12_isCut ∈ qws := qw_8 21 rfl rfl
theorem wd_1866 : Cond.instanceMethod yX12_isCut ∈ qws := qw_8 23 rfl rfl
theorem wd_1867 : Cond.code yX12_isCut cX12_isCut 1 (some .boolean) ∈ qws := qw_8 24 rfl rfl
theorem wd_1868 : Cond.methodLink RL 53 yX12_state ∈ qws := qw_8 25 rfl rfl
theorem wd_1869 : Cond.instanceMethod yX12_state ∈ qws := qw_8 26 rfl rfl
theorem wd_1870 : Cond.selects RX12 yX12_state yX12_state ∈ qws := qw_8 27 rfl rfl
theorem wd_1871 : Cond.code yX12_state cX12_state 5 (some .int) ∈ qws := qw_8 28 rfl rfl
theorem wd_1872 : Cond.methodLink RX12 358 yX12_ofState ∈ qws := qw_8 29 rfl rfl
theorem wd_1874 : Cond.instanceMethod yX12_ofState ∈ qws := qw_8 31 rfl rfl
theorem wd_1875 : Cond.code yX12_ofState cX12_ofState 2 (some .int) ∈ qws := qw_8 32 rfl rfl
theorem wd_1876 : Cond.methodLink RL 57 yX12_avoid ∈ qws := qw_8 33 rfl rfl
theorem wd_1877 : Cond.instanceMethod yX12_avoid ∈ qws := qw_8 34 rfl rfl
theorem wd_1878 : Cond.selects RX12 yX12_avoid yX12_avoid ∈ qws := qw_8 35 rfl rfl
theorem wd_1879 : Cond.code yX12_avoid cX12_avoid 8 (some .int) ∈ qws := qw_8 36 rfl rfl
theorem wd_1880 : Cond.methodLink RX12 371 yX12_isScene ∈ qws := qw_8 37 rfl rfl
theorem wd_1881 : Cond.static yX12_isScene ∈ qws := qw_8 38 rfl rfl
theorem wd_1882 : Cond.code yX12_isScene cX12_isScene 1 (some .boolean) ∈ qws := qw_8 39 rfl rfl
theorem wd_1883 : Cond.methodLink RX12 374 yX12_findFewest ∈ qws := qw_8 40 rfl rfl
theorem wd_1885 : Cond.instanceMethod yX12_findFewest ∈ qws := qw_8 42 rfl rfl
theorem wd_1886 : Cond.code yX12_findFewest cX12_findFewest 7 none ∈ qws := qw_8 43 rfl rfl
theorem wd_1887 : Cond.constant RX12 361 (1000000) ∈ qws := qw_8 44 rfl rfl
theorem wd_1888 : Cond.methodLink RX12 362 yX12_strays ∈ qws := qw_8 45 rfl rfl
theorem wd_1889 : Cond.static yX12_strays ∈ qws := qw_8 46 rfl rfl
theorem wd_1890 : Cond.code yX12_strays cX12_strays 1 (some .int) ∈ qws := qw_8 47 rfl rfl
theorem wd_1891 : Cond.methodLink RX12 365 yX12_lesser ∈ qws := qw_8 48 rfl rfl
theorem wd_1892 : Cond.static yX12_lesser ∈ qws := qw_8 49 rfl rfl
theorem wd_1893 : Cond.code yX12_lesser cX12_lesser 2 (some .int) ∈ qws := qw_8 50 rfl rfl
theorem wd_1894 : Cond.methodLink RX12 368 yX12_isOf ∈ qws := qw_8 51 rfl rfl
theorem wd_1896 : Cond.instanceMethod yX12_isOf ∈ qws := qw_8 53 rfl rfl
theorem wd_1897 : Cond.code yX12_isOf cX12_isOf 3 (some .boolean) ∈ qws := qw_8 54 rfl rfl
theorem wd_1898 : Cond.methodLink RX12 377 yX12_bestFollower ∈ qws := qw_8 55 rfl rfl
theorem wd_1900 : Cond.instanceMethod yX12_bestFollower ∈ qws := qw_8 57 rfl rfl
theorem wd_1901 : Cond.code yX12_bestFollower cX12_bestFollower 7 (some .int) ∈ qws := qw_8 58 rfl rfl
theorem wd_1902 : Cond.methodLink RL 61 yX12_soonest ∈ qws := qw_8 59 rfl rfl
theorem wd_1903 : Cond.instanceMethod yX12_soonest ∈ qws := qw_8 60 rfl rfl
theorem wd_1904 : Cond.selects RX12 yX12_soonest yX12_soonest ∈ qws := qw_8 61 rfl rfl
theorem wd_1905 : Cond.code yX12_soonest cX12_soonest 9 (some .int) ∈ qws := qw_8 62 rfl rfl
theorem wd_1906 : Cond.methodLink RX12 380 yX12_nears ∈ qws := qw_8 63 rfl rfl
theorem wd_1908 : Cond.instanceMethod yX12_nears ∈ qws := qw_8 65 rfl rfl
theorem wd_1909 : Cond.code yX12_nears cX12_nears 4 (some .boolean) ∈ qws := qw_8 66 rfl rfl
theorem wd_1910 : Cond.methodLink RL 65 yX12_together ∈ qws := qw_8 67 rfl rfl
theorem wd_1911 : Cond.instanceMethod yX12_together ∈ qws := qw_8 68 rfl rfl
theorem wd_1912 : Cond.selects RX12 yX12_together yX12_together ∈ qws := qw_8 69 rfl rfl
theorem wd_1913 : Cond.code yX12_together cX12_together 10 (some .int) ∈ qws := qw_8 70 rfl rfl
theorem wd_1914 : Cond.methodLink RX12 383 yX12_saidBy ∈ qws := qw_8 71 rfl rfl
theorem wd_1916 : Cond.instanceMethod yX12_saidBy ∈ qws := qw_8 73 rfl rfl
theorem wd_1917 : Cond.code yX12_saidBy cX12_saidBy 5 (some .int) ∈ qws := qw_8 74 rfl rfl
theorem wd_1918 : Cond.methodLink RL 70 yX12_comes ∈ qws := qw_8 75 rfl rfl
theorem wd_1919 : Cond.instanceMethod yX12_comes ∈ qws := qw_8 76 rfl rfl
theorem wd_1920 : Cond.selects RX12 yX12_comes yX12_comes ∈ qws := qw_8 77 rfl rfl
theorem wd_1921 : Cond.code yX12_comes cX12_comes 10 (some .long) ∈ qws := qw_8 78 rfl rfl
theorem wd_1922 : Cond.constantLong RX12 389 (-1) ∈ qws := qw_8 79 rfl rfl
theorem wd_1923 : Cond.methodLink RX12 391 yX12_oneMore ∈ qws := qw_8 80 rfl rfl
theorem wd_1925 : Cond.instanceMethod yX12_oneMore ∈ qws := qw_8 82 rfl rfl
theorem wd_1926 : Cond.code yX12_oneMore cX12_oneMore 7 none ∈ qws := qw_8 83 rfl rfl
theorem wd_1927 : Cond.constantLong RX12 387 (10) ∈ qws := qw_8 84 rfl rfl
theorem wd_1928 : Cond.methodLink RX12 395 yX12_tens ∈ qws := qw_8 85 rfl rfl
theorem wd_1929 : Cond.static yX12_tens ∈ qws := qw_8 86 rfl rfl
theorem wd_1930 : Cond.code yX12_tens cX12_tens 4 (some .long) ∈ qws := qw_8 87 rfl rfl
theorem wd_1931 : Cond.methodLink RX12 399 yX12_part ∈ qws := qw_8 88 rfl rfl
theorem wd_1932 : Cond.static yX12_part ∈ qws := qw_8 89 rfl rfl
theorem wd_1933 : Cond.code yX12_part cX12_part 5 (some .long) ∈ qws := qw_8 90 rfl rfl
theorem wd_1934 : Cond.methodLink RX12 99 yX12_common ∈ qws := qw_8 91 rfl rfl
theorem wd_1935 : Cond.static yX12_common ∈ qws := qw_8 92 rfl rfl
theorem wd_1936 : Cond.code yX12_common cX12_common 10 (some .long) ∈ qws := qw_8 93 rfl rfl
theorem wd_1937 : Cond.methodLink RL 75 yX12_harm ∈ qws := qw_8 94 rfl rfl
theorem wd_1938 : Cond.instanceMethod yX12_harm ∈ qws := qw_8 95 rfl rfl
theorem wd_1939 : Cond.selects RX12 yX12_harm yX12_harm ∈ qws := qw_8 96 rfl rfl
theorem wd_1940 : Cond.code yX12_harm cX12_harm 9 (some .long) ∈ qws := qw_8 97 rfl rfl
theorem wd_1941 : Cond.methodLink RL 80 yX12_loop ∈ qws := qw_8 98 rfl rfl
theorem wd_1942 : Cond.instanceMethod yX12_loop ∈ qws := qw_8 99 rfl rfl
theorem wd_1943 : Cond.selects RX12 yX12_loop yX12_loop ∈ qws := qw_8 100 rfl rfl
theorem wd_1944 : Cond.code yX12_loop cX12_loop 6 (some .int) ∈ qws := qw_8 101 rfl rfl
theorem wd_1945 : Cond.methodLink RX12 409 yX12_lengthWithout ∈ qws := qw_8 102 rfl rfl
theorem wd_1947 : Cond.instanceMethod yX12_lengthWithout ∈ qws := qw_8 104 rfl rfl
theorem wd_1948 : Cond.code yX12_lengthWithout cX12_lengthWithout 5 (some .int) ∈ qws := qw_8 105 rfl rfl
theorem wd_1949 : Cond.methodLink RX12 403 yX12_next ∈ qws := qw_8 106 rfl rfl
theorem wd_1951 : Cond.instanceMethod yX12_next ∈ qws := qw_8 108 rfl rfl
theorem wd_1952 : Cond.code yX12_next cX12_next 4 (some .int) ∈ qws := qw_8 109 rfl rfl
theorem wd_1953 : Cond.methodLink RL 84 yX12_merged ∈ qws := qw_8 110 rfl rfl
theorem wd_1954 : Cond.instanceMethod yX12_merged ∈ qws := qw_8 111 rfl rfl
theorem wd_1955 : Cond.selects RX12 yX12_merged yX12_merged ∈ qws := qw_8 112 rfl rfl
theorem wd_1956 : Cond.code yX12_merged cX12_merged 5 (some .int) ∈ qws := qw_8 113 rfl rfl
theorem wd_1957 : Cond.methodLink RX12 418 yX12_layRow ∈ qws := qw_8 114 rfl rfl
theorem wd_1959 : Cond.instanceMethod yX12_layRow ∈ qws := qw_8 116 rfl rfl
theorem wd_1960 : Cond.code yX12_layRow cX12_layRow 5 (some .int) ∈ qws := qw_8 117 rfl rfl
theorem wd_1961 : Cond.methodLink RX12 422 yX12_findShortest ∈ qws := qw_8 118 rfl rfl
theorem wd_1963 : Cond.instanceMethod yX12_findShortest ∈ qws := qw_8 120 rfl rfl
theorem wd_1964 : Cond.code yX12_findShortest cX12_findShortest 4 none ∈ qws := qw_8 121 rfl rfl
theorem wd_1965 : Cond.methodLink RX12 425 yX12_mergedAt ∈ qws := qw_8 122 rfl rfl
theorem wd_1967 : Cond.instanceMethod yX12_mergedAt ∈ qws := qw_8 124 rfl rfl
theorem wd_1968 : Cond.code yX12_mergedAt cX12_mergedAt 10 (some .int) ∈ qws := qw_8 125 rfl rfl
theorem wd_1969 : Cond.methodLink RL 88 yX12_voice ∈ qws := qw_8 126 rfl rfl
theorem wd_1970 : Cond.instanceMethod yX12_voice ∈ qws := qw_8 127 rfl rfl
theorem wd_1971 : Cond.selects RX12 yX12_voice yX12_voice ∈ qws := qw_8 128 rfl rfl
theorem wd_1972 : Cond.code yX12_voice cX12_voice 3 (some .int) ∈ qws := qw_8 129 rfl rfl
theorem wd_1973 : Cond.methodLink RX12 431 yX12_hasLog ∈ qws := qw_8 130 rfl rfl
theorem wd_1975 : Cond.instanceMethod yX12_hasLog ∈ qws := qw_8 132 rfl rfl
theorem wd_1976 : Cond.code yX12_hasLog cX12_hasLog 2 (some .boolean) ∈ qws := qw_8 133 rfl rfl
theorem wd_1977 : Cond.methodLink RX12 434 yX12_voices ∈ qws := qw_8 134 rfl rfl
theorem wd_1979 : Cond.instanceMethod yX12_voices ∈ qws := qw_8 136 rfl rfl
theorem wd_1980 : Cond.code yX12_voices cX12_voices 1 (some .int) ∈ qws := qw_8 137 rfl rfl
theorem wd_1981 : Cond.methodLink RX12 437 yX12_voiceOf ∈ qws := qw_8 138 rfl rfl
theorem wd_1983 : Cond.instanceMethod yX12_voiceOf ∈ qws := qw_8 140 rfl rfl
theorem wd_1984 : Cond.code yX12_voiceOf cX12_voiceOf 2 (some .int) ∈ qws := qw_8 141 rfl rfl
theorem wd_1985 : Cond.methodLink RL 93 yX12_fits ∈ qws := qw_8 142 rfl rfl
theorem wd_1986 : Cond.instanceMethod yX12_fits ∈ qws := qw_8 143 rfl rfl
theorem wd_1987 : Cond.selects RX12 yX12_fits yX12_fits ∈ qws := qw_8 144 rfl rfl
theorem wd_1988 : Cond.code yX12_fits cX12_fits 4 (some .long) ∈ qws := qw_8 145 rfl rfl
theorem wd_1989 : Cond.constantLong RX12 456 (-2) ∈ qws := qw_8 146 rfl rfl
theorem wd_1990 : Cond.methodLink RX12 458 yX12_findWays ∈ qws := qw_8 147 rfl rfl
theorem wd_1992 : Cond.instanceMethod yX12_findWays ∈ qws := qw_8 149 rfl rfl
theorem wd_1993 : Cond.code yX12_findWays cX12_findWays 1 none ∈ qws := qw_8 150 rfl rfl
theorem wd_1994 : Cond.methodLink RX12 443 yX12_findFrom ∈ qws := qw_8 151 rfl rfl
theorem wd_1996 : Cond.instanceMethod yX12_findFrom ∈ qws := qw_8 153 rfl rfl
theorem wd_1997 : Cond.code yX12_findFrom cX12_findFrom 8 none ∈ qws := qw_8 154 rfl rfl
theorem wd_1998 : Cond.methodLink RX12 440 yX12_isHeard ∈ qws := qw_8 155 rfl rfl
theorem wd_2000 : Cond.instanceMethod yX12_isHeard ∈ qws := qw_8 157 rfl rfl
theorem wd_2001 : Cond.code yX12_isHeard cX12_isHeard 3 (some .boolean) ∈ qws := qw_8 158 rfl rfl
theorem wd_2002 : Cond.methodLink RX12 446 yX12_findUpTo ∈ qws := qw_8 159 rfl rfl
theorem wd_2004 : Cond.instanceMethod yX12_findUpTo ∈ qws := qw_8 161 rfl rfl
theorem wd_2005 : Cond.code yX12_findUpTo cX12_findUpTo 4 none ∈ qws := qw_8 162 rfl rfl
theorem wd_2006 : Cond.methodLink RX12 461 yX12_firstAt ∈ qws := qw_8 163 rfl rfl
theorem wd_2008 : Cond.instanceMethod yX12_firstAt ∈ qws := qw_8 165 rfl rfl
theorem wd_2009 : Cond.code yX12_firstAt cX12_firstAt 7 (some .int) ∈ qws := qw_8 166 rfl rfl
theorem wd_2010 : Cond.methodLink RX12 464 yX12_sureOf ∈ qws := qw_8 167 rfl rfl
theorem wd_2012 : Cond.instanceMethod yX12_sureOf ∈ qws := qw_8 169 rfl rfl
theorem wd_2013 : Cond.code yX12_sureOf cX12_sureOf 3 (some .int) ∈ qws := qw_8 170 rfl rfl
theorem wd_2014 : Cond.methodLink RX12 452 yX12_through ∈ qws := qw_8 171 rfl rfl
theorem wd_2016 : Cond.instanceMethod yX12_through ∈ qws := qw_8 173 rfl rfl
theorem wd_2017 : Cond.code yX12_through cX12_through 3 (some .long) ∈ qws := qw_8 174 rfl rfl
theorem wd_2018 : Cond.methodLink RX12 467 yX12_guess ∈ qws := qw_8 175 rfl rfl
theorem wd_2020 : Cond.instanceMethod yX12_guess ∈ qws := qw_8 177 rfl rfl
theorem wd_2021 : Cond.code yX12_guess cX12_guess 11 (some .int) ∈ qws := qw_8 178 rfl rfl
theorem wd_2022 : Cond.methodLink RL 97 yX12_town ∈ qws := qw_8 179 rfl rfl
theorem wd_2023 : Cond.instanceMethod yX12_town ∈ qws := qw_8 180 rfl rfl
theorem wd_2024 : Cond.selects RX12 yX12_town yX12_town ∈ qws := qw_8 181 rfl rfl
theorem wd_2025 : Cond.code yX12_town cX12_town 3 (some .int) ∈ qws := qw_8 182 rfl rfl
theorem wd_2026 : Cond.methodLink RX12 473 yX12_townOf ∈ qws := qw_8 183 rfl rfl
theorem wd_2028 : Cond.instanceMethod yX12_townOf ∈ qws := qw_8 185 rfl rfl
theorem wd_2029 : Cond.code yX12_townOf cX12_townOf 2 (some .int) ∈ qws := qw_8 186 rfl rfl
theorem wd_2030 : Cond.methodLink RX12 494 yX12_ofHouse ∈ qws := qw_8 187 rfl rfl
theorem wd_2032 : Cond.instanceMethod yX12_ofHouse ∈ qws := qw_8 189 rfl rfl
theorem wd_2033 : Cond.code yX12_ofHouse cX12_ofHouse 3 (some .int) ∈ qws := qw_8 190 rfl rfl
theorem wd_2034 : Cond.methodLink RX12 491 yX12_heardIn ∈ qws := qw_8 191 rfl rfl
theorem wd_2036 : Cond.instanceMethod yX12_heardIn ∈ qws := qw_8 193 rfl rfl
theorem wd_2037 : Cond.code yX12_heardIn cX12_heardIn 4 (some .int) ∈ qws := qw_8 194 rfl rfl
theorem wd_2038 : Cond.methodLink RX12 482 yX12_isHeardIn ∈ qws := qw_8 195 rfl rfl
theorem wd_2040 : Cond.instanceMethod yX12_isHeardIn ∈ qws := qw_8 197 rfl rfl
theorem wd_2041 : Cond.code yX12_isHeardIn cX12_isHeardIn 3 (some .boolean) ∈ qws := qw_8 198 rfl rfl
theorem wd_2042 : Cond.methodLink RX12 476 yX12_between ∈ qws := qw_8 199 rfl rfl
theorem wd_2044 : Cond.instanceMethod yX12_between ∈ qws := qw_8 201 rfl rfl
theorem wd_2045 : Cond.code yX12_between cX12_between 5 (some .int) ∈ qws := qw_8 202 rfl rfl
theorem wd_2046 : Cond.methodLink RX12 497 yX12_listen ∈ qws := qw_8 203 rfl rfl
theorem wd_2048 : Cond.instanceMethod yX12_listen ∈ qws := qw_8 205 rfl rfl
theorem wd_2049 : Cond.code yX12_listen cX12_listen 3 (some .int) ∈ qws := qw_8 206 rfl rfl
theorem wd_2050 : Cond.methodLink RX12 485 yX12_othersIn ∈ qws := qw_8 207 rfl rfl
theorem wd_2052 : Cond.instanceMethod yX12_othersIn ∈ qws := qw_8 209 rfl rfl
theorem wd_2053 : Cond.code yX12_othersIn cX12_othersIn 4 (some .int) ∈ qws := qw_8 210 rfl rfl
theorem wd_2054 : Cond.methodLink RX12 500 yX12_guard ∈ qws := qw_8 211 rfl rfl
theorem wd_2056 : Cond.instanceMethod yX12_guard ∈ qws := qw_8 213 rfl rfl
theorem wd_2057 : Cond.code yX12_guard cX12_guard 5 (some .int) ∈ qws := qw_8 214 rfl rfl
theorem wd_2058 : Cond.methodLink RX12 488 yX12_ones ∈ qws := qw_8 215 rfl rfl
theorem wd_2059 : Cond.static yX12_ones ∈ qws := qw_8 216 rfl rfl
theorem wd_2060 : Cond.code yX12_ones cX12_ones 3 (some .int) ∈ qws := qw_8 217 rfl rfl
theorem wd_2061 : Cond.methodLink RX12 503 yX12_wrong ∈ qws := qw_8 218 rfl rfl
theorem wd_2063 : Cond.instanceMethod yX12_wrong ∈ qws := qw_8 220 rfl rfl
theorem wd_2064 : Cond.code yX12_wrong cX12_wrong 3 (some .int) ∈ qws := qw_8 221 rfl rfl
theorem wd_2065 : Cond.methodLink RX12 506 yX12_hush ∈ qws := qw_8 222 rfl rfl
theorem wd_2067 : Cond.instanceMethod yX12_hush ∈ qws := qw_8 224 rfl rfl
theorem wd_2068 : Cond.code yX12_hush cX12_hush 3 (some .int) ∈ qws := qw_8 225 rfl rfl
theorem wd_2069 : Cond.methodLink RL 101 yX12_drawn ∈ qws := qw_8 226 rfl rfl
theorem wd_2070 : Cond.instanceMethod yX12_drawn ∈ qws := qw_8 227 rfl rfl
theorem wd_2071 : Cond.selects RX12 yX12_drawn yX12_drawn ∈ qws := qw_8 228 rfl rfl
theorem wd_2072 : Cond.code yX12_drawn cX12_drawn 6 (some .int) ∈ qws := qw_8 229 rfl rfl
theorem wd_2073 : Cond.methodLink RX12 516 yX12_drawDeed ∈ qws := qw_8 230 rfl rfl
theorem wd_2075 : Cond.instanceMethod yX12_drawDeed ∈ qws := qw_8 232 rfl rfl
theorem wd_2076 : Cond.code yX12_drawDeed cX12_drawDeed 3 none ∈ qws := qw_8 233 rfl rfl
theorem wd_2077 : Cond.methodLink RX12 513 yX12_draw ∈ qws := qw_8 234 rfl rfl
theorem wd_2079 : Cond.instanceMethod yX12_draw ∈ qws := qw_8 236 rfl rfl
theorem wd_2080 : Cond.code yX12_draw cX12_draw 2 (some .int) ∈ qws := qw_8 237 rfl rfl
theorem wd_2081 : Cond.constant RX12 512 (1103515245) ∈ qws := qw_8 238 rfl rfl
theorem wd_2082 : Cond.methodLink RL 105 yX12_bar ∈ qws := qw_8 239 rfl rfl
theorem wd_2083 : Cond.instanceMethod yX12_bar ∈ qws := qw_9 0 rfl rfl
theorem wd_2084 : Cond.selects RX12 yX12_bar yX12_bar ∈ qws := qw_9 1 rfl rfl
theorem wd_2085 : Cond.code yX12_bar cX12_bar 6 (some .int) ∈ qws := qw_9 2 rfl rfl
theorem wd_2086 : Cond.methodLink RX12 519 yX12_reachable ∈ qws := qw_9 3 rfl rfl
theorem wd_2088 : Cond.instanceMethod yX12_reachable ∈ qws := qw_9 5 rfl rfl
theorem wd_2089 : Cond.code yX12_reachable cX12_reachable 8 (some .int) ∈ qws := qw_9 6 rfl rfl
theorem wd_2090 : Cond.methodLink RX12 522 yX12_isSceneIn ∈ qws := qw_9 7 rfl rfl
theorem wd_2092 : Cond.instanceMethod yX12_isSceneIn ∈ qws := qw_9 9 rfl rfl
theorem wd_2093 : Cond.code yX12_isSceneIn cX12_isSceneIn 4 (some .boolean) ∈ qws := qw_9 10 rfl rfl
theorem wd_2094 : Cond.methodLink RL 109 yX12_must ∈ qws := qw_9 11 rfl rfl
theorem wd_2095 : Cond.instanceMethod yX12_must ∈ qws := qw_9 12 rfl rfl
theorem wd_2096 : Cond.selects RX12 yX12_must yX12_must ∈ qws := qw_9 13 rfl rfl
theorem wd_2097 : Cond.code yX12_must cX12_must 5 (some .int) ∈ qws := qw_9 14 rfl rfl
theorem wd_2098 : Cond.methodLink RL 114 yX12_ways ∈ qws := qw_9 15 rfl rfl
theorem wd_2099 : Cond.instanceMethod yX12_ways ∈ qws := qw_9 16 rfl rfl
theorem wd_2100 : Cond.selects RX12 yX12_ways yX12_ways ∈ qws := qw_9 17 rfl rfl
theorem wd_2101 : Cond.code yX12_ways cX12_ways 8 (some .long) ∈ qws := qw_9 18 rfl rfl
theorem wd_2102 : Cond.methodLink RL 119 yX12_worst ∈ qws := qw_9 19 rfl rfl
theorem wd_2103 : Cond.instanceMethod yX12_worst ∈ qws := qw_9 20 rfl rfl
theorem wd_2104 : Cond.selects RX12 yX12_worst yX12_worst ∈ qws := qw_9 21 rfl rfl
theorem wd_2105 : Cond.code yX12_worst cX12_worst 12 (some .int) ∈ qws := qw_9 22 rfl rfl
theorem wd_2106 : Cond.methodLink RX12 525 yX12_cell ∈ qws := qw_9 23 rfl rfl
theorem wd_2107 : Cond.static yX12_cell ∈ qws := qw_9 24 rfl rfl
theorem wd_2108 : Cond.code yX12_cell cX12_cell 3 (some .int) ∈ qws := qw_9 25 rfl rfl
theorem wd_2109 : Cond.methodLink RL 123 yX12_lost ∈ qws := qw_9 26 rfl rfl
theorem wd_2110 : Cond.instanceMethod yX12_lost ∈ qws := qw_9 27 rfl rfl
theorem wd_2111 : Cond.selects RX12 yX12_lost yX12_lost ∈ qws := qw_9 28 rfl rfl
theorem wd_2112 : Cond.code yX12_lost cX12_lost 5 (some .int) ∈ qws := qw_9 29 rfl rfl
theorem wd_2113 : Cond.methodLink RL 127 yX12_force ∈ qws := qw_9 30 rfl rfl
theorem wd_2114 : Cond.instanceMethod yX12_force ∈ qws := qw_9 31 rfl rfl
theorem wd_2115 : Cond.selects RX12 yX12_force yX12_force ∈ qws := qw_9 32 rfl rfl
theorem wd_2116 : Cond.code yX12_force cX12_force 10 (some .int) ∈ qws := qw_9 33 rfl rfl
theorem wd_2117 : Cond.methodLink RL 132 yX12_prompts ∈ qws := qw_9 34 rfl rfl
theorem wd_2118 : Cond.instanceMethod yX12_prompts ∈ qws := qw_9 35 rfl rfl
theorem wd_2119 : Cond.selects RX12 yX12_prompts yX12_prompts ∈ qws := qw_9 36 rfl rfl
theorem wd_2120 : Cond.code yX12_prompts cX12_prompts 7 (some .long) ∈ qws := qw_9 37 rfl rfl
theorem wd_2121 : Cond.methodLink RL 136 yX12_parted ∈ qws := qw_9 38 rfl rfl
theorem wd_2122 : Cond.instanceMethod yX12_parted ∈ qws := qw_9 39 rfl rfl
theorem wd_2123 : Cond.selects RX12 yX12_parted yX12_parted ∈ qws := qw_9 40 rfl rfl
theorem wd_2124 : Cond.code yX12_parted cX12_parted 4 (some .int) ∈ qws := qw_9 41 rfl rfl
theorem wd_2125 : Cond.methodLink RL 140 yX12_after ∈ qws := qw_9 42 rfl rfl
theorem wd_2126 : Cond.instanceMethod yX12_after ∈ qws := qw_9 43 rfl rfl
theorem wd_2127 : Cond.selects RX12 yX12_after yX12_after ∈ qws := qw_9 44 rfl rfl
theorem wd_2128 : Cond.code yX12_after cX12_after 7 (some .int) ∈ qws := qw_9 45 rfl rfl
theorem wd_2129 : Cond.methodLink RX12 529 yX12_loudest ∈ qws := qw_9 46 rfl rfl
theorem wd_2131 : Cond.instanceMethod yX12_loudest ∈ qws := qw_9 48 rfl rfl
theorem wd_2132 : Cond.code yX12_loudest cX12_loudest 3 (some .int) ∈ qws := qw_9 49 rfl rfl
theorem wd_2133 : Cond.methodLink RL 144 yX12_count ∈ qws := qw_9 50 rfl rfl
theorem wd_2134 : Cond.instanceMethod yX12_count ∈ qws := qw_9 51 rfl rfl
theorem wd_2135 : Cond.selects RX12 yX12_count yX12_count ∈ qws := qw_9 52 rfl rfl
theorem wd_2136 : Cond.code yX12_count cX12_count 2 (some .int) ∈ qws := qw_9 53 rfl rfl
theorem wd_2137 : Cond.methodLink RL 149 yX12_image ∈ qws := qw_9 54 rfl rfl
theorem wd_2138 : Cond.instanceMethod yX12_image ∈ qws := qw_9 55 rfl rfl
theorem wd_2139 : Cond.selects RX12 yX12_image yX12_image ∈ qws := qw_9 56 rfl rfl
theorem wd_2140 : Cond.code yX12_image cX12_image 2 (some .boolean) ∈ qws := qw_9 57 rfl rfl
theorem wd_2141 : Cond.methodLink RX12 532 yX12_copyAll ∈ qws := qw_9 58 rfl rfl
theorem wd_2143 : Cond.instanceMethod yX12_copyAll ∈ qws := qw_9 60 rfl rfl
theorem wd_2144 : Cond.code yX12_copyAll cX12_copyAll 4 none ∈ qws := qw_9 61 rfl rfl
theorem wd_2145 : Cond.methodLink RX12 103 yX12_copyRow ∈ qws := qw_9 62 rfl rfl
theorem wd_2146 : Cond.static yX12_copyRow ∈ qws := qw_9 63 rfl rfl
theorem wd_2147 : Cond.code yX12_copyRow cX12_copyRow 5 none ∈ qws := qw_9 64 rfl rfl
theorem wd_2148 : Cond.methodLink RL 153 yX12_again ∈ qws := qw_9 65 rfl rfl
theorem wd_2149 : Cond.instanceMethod yX12_again ∈ qws := qw_9 66 rfl rfl
theorem wd_2150 : Cond.selects RX12 yX12_again yX12_again ∈ qws := qw_9 67 rfl rfl
theorem wd_2151 : Cond.code yX12_again cX12_again 2 (some .boolean) ∈ qws := qw_9 68 rfl rfl
theorem wd_2152 : Cond.fieldLink RJ0 9 "java/lang/String" "value" "[B" ∈ qws := qw_9 69 rfl rfl
theorem wd_2153 : Cond.fieldLink RJ0 15 "java/lang/String" "coder" "B" ∈ qws := qw_9 70 rfl rfl
theorem qm_X11_isPerson : qM yX11_isPerson cX11_isPerson 1 (some .boolean) 1 := ⟨wd_761, wd_164, by decide +kernel, by decide +kernel, by decide +kernel⟩
theorem qm_X0_howManyFollow : qM yX0_howManyFollow cX0_howManyFollow 2 (some .int) 1 := ⟨wd_793, wd_166, by decide +kernel, by decide +kernel, by decide +kernel⟩
theorem qm_X0_following : qM yX0_following cX0_following 3 (some .int) 2 := ⟨wd_797, wd_166, by decide +kernel, by decide +kernel, by decide +kernel⟩
theorem qm_X0_has : qM yX0_has cX0_has 2 (some .boolean) 1 := ⟨wd_785, wd_166, by decide +kernel, by decide +kernel, by decide +kernel⟩
theorem qm_X0_follows : qM yX0_follows cX0_follows 4 (some .boolean) 2 := ⟨wd_789, wd_166, by decide +kernel, by decide +kernel, by decide +kernel⟩
theorem qm_X0_isChild : qM yX0_isChild cX0_isChild 2 (some .boolean) 1 := ⟨wd_777, wd_166, by decide +kernel, by decide +kernel, by decide +kernel⟩
theorem qm_X0_addFollower : qM yX0_addFollower cX0_addFollower 4 none 2 := ⟨wd_781, wd_166, by decide +kernel, by decide +kernel, by decide +kernel⟩
theorem qm_X0_nextOf : qM yX0_nextOf cX0_nextOf 2 (some .int) 1 := ⟨wd_870, wd_166, by decide +kernel, by decide +kernel, by decide +kernel⟩
theorem qm_X0_driesOf : qM yX0_driesOf cX0_driesOf 2 (some .int) 1 := ⟨wd_874, wd_166, by decide +kernel, by decide +kernel, by decide +kernel⟩
theorem qm_X0_showLine : qM yX0_showLine cX0_showLine 3 (some .int) 2 := ⟨wd_866, wd_166, by decide +kernel, by decide +kernel, by decide +kernel⟩
theorem qm_X0_nextWithout : qM yX0_nextWithout cX0_nextWithout 4 (some .int) 2 := ⟨wd_1098, wd_166, by decide +kernel, by decide +kernel, by decide +kernel⟩
theorem qm_X0_lengthWithout : qM yX0_lengthWithout cX0_lengthWithout 5 (some .int) 1 := ⟨wd_1094, wd_166, by decide +kernel, by decide +kernel, by decide +kernel⟩
theorem qm_X1_has : qM yX1_has cX1_has 2 (some .boolean) 1 := ⟨wd_896, wd_167, by decide +kernel, by decide +kernel, by decide +kernel⟩
theorem qm_X1_numberAt : qM yX1_numberAt cX1_numberAt 2 (some .int) 1 := ⟨wd_900, wd_167, by decide +kernel, by decide +kernel, by decide +kernel⟩
theorem qm_X1_deedAt : qM yX1_deedAt cX1_deedAt 2 (some .int) 1 := ⟨wd_892, wd_167, by decide +kernel, by decide +kernel, by decide +kernel⟩
theorem qm_X3_has : qM yX3_has cX3_has 2 (some .boolean) 1 := ⟨wd_1159, wd_168, by decide +kernel, by decide +kernel, by decide +kernel⟩
theorem qm_X2_at : qM yX2_at cX2_at 4 (some .long) 3 := ⟨wd_1187, wd_175, by decide +kernel, by decide +kernel, by decide +kernel⟩
theorem qm_X0_strayingOf : qM yX0_strayingOf cX0_strayingOf 3 (some .int) 2 := ⟨wd_1006, wd_166, by decide +kernel, by decide +kernel, by decide +kernel⟩
theorem qm_J9_min_7cf53 : qM yJ9_min_7cf53 cJ9_min_7cf53 2 (some .int) 2 := ⟨wd_1009, wd_181, by decide +kernel, by decide +kernel, by decide +kernel⟩
theorem qm_X0_whoSays : qM yX0_whoSays cX0_whoSays 2 (some .int) 1 := ⟨wd_933, wd_166, by decide +kernel, by decide +kernel, by decide +kernel⟩
theorem qm_X3_mayBe : qM yX3_mayBe cX3_mayBe 3 (some .boolean) 2 := ⟨wd_1178, wd_168, by decide +kernel, by decide +kernel, by decide +kernel⟩
theorem qm_X2_behind : qM yX2_behind cX2_behind 8 (some .long) 4 := ⟨wd_1182, wd_175, by decide +kernel, by decide +kernel, by decide +kernel⟩
theorem qm_X2_fewestBehind : qM yX2_fewestBehind cX2_fewestBehind 9 (some .int) 4 := ⟨wd_1191, wd_175, by decide +kernel, by decide +kernel, by decide +kernel⟩
theorem qm_X2_through : qM yX2_through cX2_through 3 (some .long) 2 := ⟨wd_1215, wd_175, by decide +kernel, by decide +kernel, by decide +kernel⟩
theorem qm_J9_max_f86c9 : qM yJ9_max_f86c9 cJ9_max_f86c9 4 (some .long) 2 := ⟨wd_1218, wd_181, by decide +kernel, by decide +kernel, by decide +kernel⟩
theorem qm_X2_countUpTo : qM yX2_countUpTo cX2_countUpTo 7 none 2 := ⟨wd_1202, wd_175, by decide +kernel, by decide +kernel, by decide +kernel⟩
theorem qm_X3_isGap : qM yX3_isGap cX3_isGap 2 (some .boolean) 1 := ⟨wd_1207, wd_168, by decide +kernel, by decide +kernel, by decide +kernel⟩
theorem qm_X2_mostOfOnePerson : qM yX2_mostOfOnePerson cX2_mostOfOnePerson 9 (some .long) 2 := ⟨wd_1211, wd_175, by decide +kernel, by decide +kernel, by decide +kernel⟩
theorem qm_X2_countFrom : qM yX2_countFrom cX2_countFrom 5 none 2 := ⟨wd_1172, wd_175, by decide +kernel, by decide +kernel, by decide +kernel⟩
theorem qm_X2_bestGuess : qM yX2_bestGuess cX2_bestGuess 9 (some .int) 2 := ⟨wd_1198, wd_175, by decide +kernel, by decide +kernel, by decide +kernel⟩
theorem qm_X2_sureAt : qM yX2_sureAt cX2_sureAt 5 (some .int) 3 := ⟨wd_1228, wd_175, by decide +kernel, by decide +kernel, by decide +kernel⟩
theorem qm_X2_firstWayAt : qM yX2_firstWayAt cX2_firstWayAt 8 (some .int) 2 := ⟨wd_1224, wd_175, by decide +kernel, by decide +kernel, by decide +kernel⟩
theorem qm_X4_isShared : qM yX4_isShared cX4_isShared 3 (some .boolean) 2 := ⟨wd_1124, wd_174, by decide +kernel, by decide +kernel, by decide +kernel⟩
theorem qm_X4_shortestAt : qM yX4_shortestAt cX4_shortestAt 3 (some .int) 2 := ⟨wd_1128, wd_174, by decide +kernel, by decide +kernel, by decide +kernel⟩
theorem qm_X4_takesOne : qM yX4_takesOne cX4_takesOne 5 (some .boolean) 2 := ⟨wd_1138, wd_174, by decide +kernel, by decide +kernel, by decide +kernel⟩
theorem qm_X4_fillByNext : qM yX4_fillByNext cX4_fillByNext 5 (some .int) 3 := ⟨wd_1113, wd_174, by decide +kernel, by decide +kernel, by decide +kernel⟩
theorem qm_X4_shortestFrom : qM yX4_shortestFrom cX4_shortestFrom 3 (some .int) 2 := ⟨wd_1120, wd_174, by decide +kernel, by decide +kernel, by decide +kernel⟩
theorem qm_X4_fillRow : qM yX4_fillRow cX4_fillRow 5 none 0 := ⟨wd_1134, wd_174, by decide +kernel, by decide +kernel, by decide +kernel⟩
theorem qm_X0_harmDone : qM yX0_harmDone cX0_harmDone 2 (some .int) 1 := ⟨wd_946, wd_166, by decide +kernel, by decide +kernel, by decide +kernel⟩
theorem qm_X0_sceneOf : qM yX0_sceneOf cX0_sceneOf 2 (some .int) 1 := ⟨wd_991, wd_166, by decide +kernel, by decide +kernel, by decide +kernel⟩
theorem qm_X5_tenths : qM yX5_tenths cX5_tenths 3 (some .int) 3 := ⟨wd_1058, wd_173, by decide +kernel, by decide +kernel, by decide +kernel⟩
theorem qm_X5_takeScene : qM yX5_takeScene cX5_takeScene 6 (some .long) 2 := ⟨wd_1070, wd_173, by decide +kernel, by decide +kernel, by decide +kernel⟩
theorem qm_X5_step : qM yX5_step cX5_step 7 none 2 := ⟨wd_1075, wd_173, by decide +kernel, by decide +kernel, by decide +kernel⟩
theorem qm_X5_takeHarm : qM yX5_takeHarm cX5_takeHarm 5 (some .long) 1 := ⟨wd_1065, wd_173, by decide +kernel, by decide +kernel, by decide +kernel⟩
theorem qm_X5_reduce : qM yX5_reduce cX5_reduce 12 none 2 := ⟨wd_1082, wd_173, by decide +kernel, by decide +kernel, by decide +kernel⟩
theorem qm_X6_fewestAt : qM yX6_fewestAt cX6_fewestAt 3 (some .int) 2 := ⟨wd_1002, wd_172, by decide +kernel, by decide +kernel, by decide +kernel⟩
theorem qm_X6_fewestFrom : qM yX6_fewestFrom cX6_fewestFrom 7 (some .int) 3 := ⟨wd_996, wd_172, by decide +kernel, by decide +kernel, by decide +kernel⟩
theorem qm_X6_stepStrayings : qM yX6_stepStrayings cX6_stepStrayings 5 none 1 := ⟨wd_1025, wd_172, by decide +kernel, by decide +kernel, by decide +kernel⟩
theorem qm_X6_saidBy : qM yX6_saidBy cX6_saidBy 5 (some .int) 4 := ⟨wd_1040, wd_172, by decide +kernel, by decide +kernel, by decide +kernel⟩
theorem qm_X6_stepTogether : qM yX6_stepTogether cX6_stepTogether 8 none 3 := ⟨wd_1045, wd_172, by decide +kernel, by decide +kernel, by decide +kernel⟩
theorem qm_X6_sumOfFollowers : qM yX6_sumOfFollowers cX6_sumOfFollowers 7 (some .long) 2 := ⟨wd_1350, wd_172, by decide +kernel, by decide +kernel, by decide +kernel⟩
theorem qm_X6_harmBehind : qM yX6_harmBehind cX6_harmBehind 10 (some .int) 4 := ⟨wd_1363, wd_172, by decide +kernel, by decide +kernel, by decide +kernel⟩
theorem qm_X6_mayBeSaid : qM yX6_mayBeSaid cX6_mayBeSaid 4 (some .boolean) 4 := ⟨wd_1330, wd_172, by decide +kernel, by decide +kernel, by decide +kernel⟩
theorem qm_X6_linesOf : qM yX6_linesOf cX6_linesOf 4 (some .int) 2 := ⟨wd_1322, wd_172, by decide +kernel, by decide +kernel, by decide +kernel⟩
theorem qm_J6_bitCount_0f7a4 : qM yJ6_bitCount_0f7a4 cJ6_bitCount_0f7a4 1 (some .int) 1 := ⟨wd_1270, wd_183, by decide +kernel, by decide +kernel, by decide +kernel⟩
theorem qm_X6_canBeSaid : qM yX6_canBeSaid cX6_canBeSaid 11 (some .int) 3 := ⟨wd_1327, wd_172, by decide +kernel, by decide +kernel, by decide +kernel⟩
theorem qm_X6_sureBehind : qM yX6_sureBehind cX6_sureBehind 9 (some .int) 3 := ⟨wd_1385, wd_172, by decide +kernel, by decide +kernel, by decide +kernel⟩
theorem qm_X9_byteAt : qM yX9_byteAt cX9_byteAt 2 (some .int) 1 := ⟨wd_572, wd_165, by decide +kernel, by decide +kernel, by decide +kernel⟩
theorem qm_X7_isLetter : qM yX7_isLetter cX7_isLetter 1 (some .boolean) 1 := ⟨wd_578, wd_170, by decide +kernel, by decide +kernel, by decide +kernel⟩
theorem qm_X7_isDigit : qM yX7_isDigit cX7_isDigit 1 (some .boolean) 1 := ⟨wd_581, wd_170, by decide +kernel, by decide +kernel, by decide +kernel⟩
theorem qm_J0_length_8abf5 : qM yJ0_length_8abf5 cJ0_length_8abf5 1 (some .int) 0 := ⟨wd_618, wd_177, by decide +kernel, by decide +kernel, by decide +kernel⟩
theorem qm_J0_charAt_5068e : qM yJ0_charAt_5068e cJ0_charAt_5068e 2 (some .char) 1 := ⟨wd_628, wd_177, by decide +kernel, by decide +kernel, by decide +kernel⟩
theorem qm_X7_nameOf : qM yX7_nameOf cX7_nameOf 1 (some (.object "java/lang/String")) 1 := ⟨wd_593, wd_170, by decide +kernel, by decide +kernel, by decide +kernel⟩
theorem qm_X7_isName : qM yX7_isName cX7_isName 5 (some .boolean) 4 := ⟨wd_614, wd_170, by decide +kernel, by decide +kernel, by decide +kernel⟩
theorem qm_X7_put : qM yX7_put cX7_put 4 none 3 := ⟨wd_666, wd_170, by decide +kernel, by decide +kernel, by decide +kernel⟩
theorem qm_X7_wordOf : qM yX7_wordOf cX7_wordOf 5 (some .int) 4 := ⟨wd_588, wd_170, by decide +kernel, by decide +kernel, by decide +kernel⟩
theorem qm_X7_endOfRow : qM yX7_endOfRow cX7_endOfRow 3 (some .int) 2 := ⟨wd_575, wd_170, by decide +kernel, by decide +kernel, by decide +kernel⟩
theorem qm_X7_addToken : qM yX7_addToken cX7_addToken 7 none 4 := ⟨wd_585, wd_170, by decide +kernel, by decide +kernel, by decide +kernel⟩
theorem qm_X7_kindAt : qM yX7_kindAt cX7_kindAt 2 (some .int) 1 := ⟨wd_670, wd_170, by decide +kernel, by decide +kernel, by decide +kernel⟩
theorem qm_X7_valueAt : qM yX7_valueAt cX7_valueAt 2 (some .int) 1 := ⟨wd_682, wd_170, by decide +kernel, by decide +kernel, by decide +kernel⟩
theorem qm_X7_numbersOf : qM yX7_numbersOf cX7_numbersOf 1 (some .int) 1 := ⟨wd_685, wd_170, by decide +kernel, by decide +kernel, by decide +kernel⟩
theorem qm_X7_behindStatement : qM yX7_behindStatement cX7_behindStatement 2 (some .int) 1 := ⟨wd_678, wd_170, by decide +kernel, by decide +kernel, by decide +kernel⟩
theorem qm_X7_startAt : qM yX7_startAt cX7_startAt 2 (some .int) 1 := ⟨wd_691, wd_170, by decide +kernel, by decide +kernel, by decide +kernel⟩
theorem qm_X7_blame : qM yX7_blame cX7_blame 3 none 2 := ⟨wd_695, wd_170, by decide +kernel, by decide +kernel, by decide +kernel⟩
theorem qm_X7_lastToken : qM yX7_lastToken cX7_lastToken 1 (some .int) 0 := ⟨wd_703, wd_170, by decide +kernel, by decide +kernel, by decide +kernel⟩
theorem qm_X7_checkNumbers : qM yX7_checkNumbers cX7_checkNumbers 6 none 1 := ⟨wd_707, wd_170, by decide +kernel, by decide +kernel, by decide +kernel⟩
theorem qm_J9_max_7cf53 : qM yJ9_max_7cf53 cJ9_max_7cf53 2 (some .int) 2 := ⟨wd_722, wd_181, by decide +kernel, by decide +kernel, by decide +kernel⟩
theorem qm_X7_townTellsOfMissing : qM yX7_townTellsOfMissing cX7_townTellsOfMissing 5 (some .boolean) 0 := ⟨wd_726, wd_170, by decide +kernel, by decide +kernel, by decide +kernel⟩
theorem qm_X7_bookTellsOfMissing : qM yX7_bookTellsOfMissing cX7_bookTellsOfMissing 5 (some .boolean) 0 := ⟨wd_719, wd_170, by decide +kernel, by decide +kernel, by decide +kernel⟩
theorem qm_X7_split : qM yX7_split cX7_split 6 none 2 := ⟨wd_568, wd_170, by decide +kernel, by decide +kernel, by decide +kernel⟩
theorem qm_X7_firstUnfit : qM yX7_firstUnfit cX7_firstUnfit 4 (some .int) 0 := ⟨wd_674, wd_170, by decide +kernel, by decide +kernel, by decide +kernel⟩
theorem qm_X7_findWrongNumber : qM yX7_findWrongNumber cX7_findWrongNumber 7 none 0 := ⟨wd_699, wd_170, by decide +kernel, by decide +kernel, by decide +kernel⟩
theorem qm_X7_tellsOfMissing : qM yX7_tellsOfMissing cX7_tellsOfMissing 2 (some .boolean) 1 := ⟨wd_715, wd_170, by decide +kernel, by decide +kernel, by decide +kernel⟩
theorem qm_X0_addLine : qM yX0_addLine cX0_addLine 5 none 4 := ⟨wd_754, wd_166, by decide +kernel, by decide +kernel, by decide +kernel⟩
theorem qm_X0_setDry : qM yX0_setDry cX0_setDry 3 none 2 := ⟨wd_758, wd_166, by decide +kernel, by decide +kernel, by decide +kernel⟩
theorem qm_X0_addBack : qM yX0_addBack cX0_addBack 3 none 2 := ⟨wd_765, wd_166, by decide +kernel, by decide +kernel, by decide +kernel⟩
theorem qm_X0_setChild : qM yX0_setChild cX0_setChild 2 none 1 := ⟨wd_769, wd_166, by decide +kernel, by decide +kernel, by decide +kernel⟩
theorem qm_X0_clear : qM yX0_clear cX0_clear 2 none 0 := ⟨wd_746, wd_166, by decide +kernel, by decide +kernel, by decide +kernel⟩
theorem qm_X7_tellBook : qM yX7_tellBook cX7_tellBook 5 none 2 := ⟨wd_750, wd_170, by decide +kernel, by decide +kernel, by decide +kernel⟩
theorem qm_X0_settle : qM yX0_settle cX0_settle 2 none 0 := ⟨wd_773, wd_166, by decide +kernel, by decide +kernel, by decide +kernel⟩
theorem qm_X1_add : qM yX1_add cX1_add 3 none 2 := ⟨wd_809, wd_167, by decide +kernel, by decide +kernel, by decide +kernel⟩
theorem qm_X3_add : qM yX3_add cX3_add 2 none 1 := ⟨wd_821, wd_168, by decide +kernel, by decide +kernel, by decide +kernel⟩
theorem qm_X10_setWall : qM yX10_setWall cX10_setWall 3 none 2 := ⟨wd_841, wd_169, by decide +kernel, by decide +kernel, by decide +kernel⟩
theorem qm_X10_setBook : qM yX10_setBook cX10_setBook 3 none 2 := ⟨wd_845, wd_169, by decide +kernel, by decide +kernel, by decide +kernel⟩
theorem qm_X10_setLoud : qM yX10_setLoud cX10_setLoud 3 none 2 := ⟨wd_849, wd_169, by decide +kernel, by decide +kernel, by decide +kernel⟩
theorem qm_X10_clear : qM yX10_clear cX10_clear 2 none 0 := ⟨wd_833, wd_169, by decide +kernel, by decide +kernel, by decide +kernel⟩
theorem qm_X7_tellTown : qM yX7_tellTown cX7_tellTown 5 none 2 := ⟨wd_837, wd_170, by decide +kernel, by decide +kernel, by decide +kernel⟩
theorem qm_X9_bookAt : qM yX9_bookAt cX9_bookAt 2 (some (.object "CellarPrompter$Book")) 1 := ⟨wd_738, wd_165, by decide +kernel, by decide +kernel, by decide +kernel⟩
theorem qm_X7_fillBook : qM yX7_fillBook cX7_fillBook 3 none 1 := ⟨wd_742, wd_170, by decide +kernel, by decide +kernel, by decide +kernel⟩
theorem qm_X9_eveningAt : qM yX9_eveningAt cX9_eveningAt 2 (some (.object "CellarPrompter$Evening")) 1 := ⟨wd_801, wd_165, by decide +kernel, by decide +kernel, by decide +kernel⟩
theorem qm_X7_fillEvening : qM yX7_fillEvening cX7_fillEvening 4 none 1 := ⟨wd_805, wd_170, by decide +kernel, by decide +kernel, by decide +kernel⟩
theorem qm_X9_logAt : qM yX9_logAt cX9_logAt 2 (some (.object "CellarPrompter$Log")) 1 := ⟨wd_813, wd_165, by decide +kernel, by decide +kernel, by decide +kernel⟩
theorem qm_X7_fillLog : qM yX7_fillLog cX7_fillLog 3 none 1 := ⟨wd_817, wd_170, by decide +kernel, by decide +kernel, by decide +kernel⟩
theorem qm_X9_townAt : qM yX9_townAt cX9_townAt 2 (some (.object "CellarPrompter$Town")) 1 := ⟨wd_825, wd_165, by decide +kernel, by decide +kernel, by decide +kernel⟩
theorem qm_X7_fillTown : qM yX7_fillTown cX7_fillTown 3 none 1 := ⟨wd_829, wd_170, by decide +kernel, by decide +kernel, by decide +kernel⟩
theorem qm_X8_isIn : qM yX8_isIn cX8_isIn 2 (some .boolean) 1 := ⟨wd_937, wd_171, by decide +kernel, by decide +kernel, by decide +kernel⟩
theorem qm_X8_speak : qM yX8_speak cX8_speak 4 none 2 := ⟨wd_942, wd_171, by decide +kernel, by decide +kernel, by decide +kernel⟩
theorem qm_X8_due : qM yX8_due cX8_due 2 (some .int) 1 := ⟨wd_926, wd_171, by decide +kernel, by decide +kernel, by decide +kernel⟩
theorem qm_X8_sayLine : qM yX8_sayLine cX8_sayLine 4 (some .boolean) 2 := ⟨wd_922, wd_171, by decide +kernel, by decide +kernel, by decide +kernel⟩
theorem qm_X8_move : qM yX8_move cX8_move 3 (some .boolean) 2 := ⟨wd_950, wd_171, by decide +kernel, by decide +kernel, by decide +kernel⟩
theorem qm_X8_dryUp : qM yX8_dryUp cX8_dryUp 3 (some .boolean) 1 := ⟨wd_954, wd_171, by decide +kernel, by decide +kernel, by decide +kernel⟩
theorem qm_X8_promptDue : qM yX8_promptDue cX8_promptDue 3 (some .boolean) 1 := ⟨wd_958, wd_171, by decide +kernel, by decide +kernel, by decide +kernel⟩
theorem qm_X8_cutDue : qM yX8_cutDue cX8_cutDue 3 (some .boolean) 1 := ⟨wd_962, wd_171, by decide +kernel, by decide +kernel, by decide +kernel⟩
theorem qm_X8_begin : qM yX8_begin cX8_begin 2 none 0 := ⟨wd_912, wd_171, by decide +kernel, by decide +kernel, by decide +kernel⟩
theorem qm_X8_perform : qM yX8_perform cX8_perform 5 (some .boolean) 3 := ⟨wd_918, wd_171, by decide +kernel, by decide +kernel, by decide +kernel⟩
theorem qm_X8_play : qM yX8_play cX8_play 5 (some .int) 3 := ⟨wd_908, wd_171, by decide +kernel, by decide +kernel, by decide +kernel⟩
theorem qm_X8_fines : qM yX8_fines cX8_fines 2 (some .int) 1 := ⟨wd_974, wd_171, by decide +kernel, by decide +kernel, by decide +kernel⟩
theorem qm_X8_draw : qM yX8_draw cX8_draw 2 (some .int) 1 := ⟨wd_1305, wd_171, by decide +kernel, by decide +kernel, by decide +kernel⟩
theorem qm_X8_drawFollower : qM yX8_drawFollower cX8_drawFollower 3 (some .int) 1 := ⟨wd_1310, wd_171, by decide +kernel, by decide +kernel, by decide +kernel⟩
theorem qm_X8_drawDeed : qM yX8_drawDeed cX8_drawDeed 4 none 1 := ⟨wd_1301, wd_171, by decide +kernel, by decide +kernel, by decide +kernel⟩
theorem qm_X0_init : qM yX0_init cX0_init 1 none 0 := ⟨wd_209, wd_166, by decide +kernel, by decide +kernel, by decide +kernel⟩
theorem qm_X1_init : qM yX1_init cX1_init 1 none 0 := ⟨wd_270, wd_167, by decide +kernel, by decide +kernel, by decide +kernel⟩
theorem qm_X3_init : qM yX3_init cX3_init 1 none 0 := ⟨wd_288, wd_168, by decide +kernel, by decide +kernel, by decide +kernel⟩
theorem qm_X10_init : qM yX10_init cX10_init 1 none 0 := ⟨wd_302, wd_169, by decide +kernel, by decide +kernel, by decide +kernel⟩
theorem qm_X0_copy : qM yX0_copy cX0_copy 2 none 1 := ⟨wd_1435, wd_166, by decide +kernel, by decide +kernel, by decide +kernel⟩
theorem qm_X1_copy : qM yX1_copy cX1_copy 2 none 1 := ⟨wd_1440, wd_167, by decide +kernel, by decide +kernel, by decide +kernel⟩
theorem qm_X3_copy : qM yX3_copy cX3_copy 2 none 1 := ⟨wd_1445, wd_168, by decide +kernel, by decide +kernel, by decide +kernel⟩
theorem qm_X10_copy : qM yX10_copy cX10_copy 2 none 1 := ⟨wd_1450, wd_169, by decide +kernel, by decide +kernel, by decide +kernel⟩
theorem qm_X10_has : qM yX10_has cX10_has 2 (some .boolean) 1 := ⟨wd_1259, wd_169, by decide +kernel, by decide +kernel, by decide +kernel⟩
theorem qm_X10_wallsBetween : qM yX10_wallsBetween cX10_wallsBetween 5 (some .int) 2 := ⟨wd_1255, wd_169, by decide +kernel, by decide +kernel, by decide +kernel⟩
theorem qm_X10_loudOf : qM yX10_loudOf cX10_loudOf 2 (some .int) 1 := ⟨wd_1263, wd_169, by decide +kernel, by decide +kernel, by decide +kernel⟩
theorem qm_X10_whereHeard : qM yX10_whereHeard cX10_whereHeard 4 (some .int) 1 := ⟨wd_1249, wd_169, by decide +kernel, by decide +kernel, by decide +kernel⟩
theorem qm_X10_othersHeardIn : qM yX10_othersHeardIn cX10_othersHeardIn 4 (some .int) 1 := ⟨wd_1245, wd_169, by decide +kernel, by decide +kernel, by decide +kernel⟩
theorem qm_X10_allHeardBy : qM yX10_allHeardBy cX10_allHeardBy 4 (some .boolean) 1 := ⟨wd_1277, wd_169, by decide +kernel, by decide +kernel, by decide +kernel⟩
theorem qm_X10_bestToListen : qM yX10_bestToListen cX10_bestToListen 5 (some .int) 0 := ⟨wd_1241, wd_169, by decide +kernel, by decide +kernel, by decide +kernel⟩
theorem qm_X10_fewestGuards : qM yX10_fewestGuards cX10_fewestGuards 4 (some .int) 0 := ⟨wd_1267, wd_169, by decide +kernel, by decide +kernel, by decide +kernel⟩
theorem qm_X10_wrongCouples : qM yX10_wrongCouples cX10_wrongCouples 4 (some .int) 0 := ⟨wd_1281, wd_169, by decide +kernel, by decide +kernel, by decide +kernel⟩
theorem qm_X10_hushing : qM yX10_hushing cX10_hushing 3 (some .int) 0 := ⟨wd_1285, wd_169, by decide +kernel, by decide +kernel, by decide +kernel⟩
theorem qm_X10_showHouse : qM yX10_showHouse cX10_showHouse 3 (some .int) 2 := ⟨wd_1289, wd_169, by decide +kernel, by decide +kernel, by decide +kernel⟩
theorem qm_X9_init : qM yX9_init cX9_init 2 none 0 := ⟨wd_196, wd_165, by decide +kernel, by decide +kernel, by decide +kernel⟩
theorem qm_X7_init : qM yX7_init cX7_init 1 none 0 := ⟨wd_358, wd_170, by decide +kernel, by decide +kernel, by decide +kernel⟩
theorem qm_X8_init : qM yX8_init cX8_init 1 none 0 := ⟨wd_385, wd_171, by decide +kernel, by decide +kernel, by decide +kernel⟩
theorem qm_X6_init : qM yX6_init cX6_init 1 none 0 := ⟨wd_425, wd_172, by decide +kernel, by decide +kernel, by decide +kernel⟩
theorem qm_X5_init : qM yX5_init cX5_init 1 none 0 := ⟨wd_454, wd_173, by decide +kernel, by decide +kernel, by decide +kernel⟩
theorem qm_X4_init : qM yX4_init cX4_init 1 none 0 := ⟨wd_475, wd_174, by decide +kernel, by decide +kernel, by decide +kernel⟩
theorem qm_X2_init : qM yX2_init cX2_init 1 none 0 := ⟨wd_504, wd_175, by decide +kernel, by decide +kernel, by decide +kernel⟩
theorem qm_X9_addNumber : qM yX9_addNumber cX9_addNumber 3 none 1 := ⟨wd_548, wd_165, by decide +kernel, by decide +kernel, by decide +kernel⟩
theorem qm_X9_howMany : qM yX9_howMany cX9_howMany 2 (some .int) 1 := ⟨wd_560, wd_165, by decide +kernel, by decide +kernel, by decide +kernel⟩
theorem qm_X7_read : qM yX7_read cX7_read 4 none 2 := ⟨wd_564, wd_170, by decide +kernel, by decide +kernel, by decide +kernel⟩
theorem qm_X7_fill : qM yX7_fill cX7_fill 4 none 3 := ⟨wd_734, wd_170, by decide +kernel, by decide +kernel, by decide +kernel⟩
theorem qm_X9_addOne : qM yX9_addOne cX9_addOne 2 none 1 := ⟨wd_730, wd_165, by decide +kernel, by decide +kernel, by decide +kernel⟩
theorem qm_X0_show : qM yX0_show cX0_show 2 (some .int) 1 := ⟨wd_862, wd_166, by decide +kernel, by decide +kernel, by decide +kernel⟩
theorem qm_X1_show : qM yX1_show cX1_show 3 (some .int) 2 := ⟨wd_888, wd_167, by decide +kernel, by decide +kernel, by decide +kernel⟩
theorem qm_X8_show : qM yX8_show cX8_show 3 (some .int) 2 := ⟨wd_970, wd_171, by decide +kernel, by decide +kernel, by decide +kernel⟩
theorem qm_X11_isScene : qM yX11_isScene cX11_isScene 1 (some .boolean) 1 := ⟨wd_982, wd_164, by decide +kernel, by decide +kernel, by decide +kernel⟩
theorem qm_X6_fewestWithout : qM yX6_fewestWithout cX6_fewestWithout 6 (some .int) 3 := ⟨wd_986, wd_172, by decide +kernel, by decide +kernel, by decide +kernel⟩
theorem qm_X6_lineWithout : qM yX6_lineWithout cX6_lineWithout 10 (some .int) 3 := ⟨wd_1013, wd_172, by decide +kernel, by decide +kernel, by decide +kernel⟩
theorem qm_X6_linesUpTo : qM yX6_linesUpTo cX6_linesUpTo 6 (some .int) 3 := ⟨wd_1021, wd_172, by decide +kernel, by decide +kernel, by decide +kernel⟩
theorem qm_X6_linesUntilBoth : qM yX6_linesUntilBoth cX6_linesUntilBoth 5 (some .int) 3 := ⟨wd_1037, wd_172, by decide +kernel, by decide +kernel, by decide +kernel⟩
theorem qm_X5_gather : qM yX5_gather cX5_gather 10 none 4 := ⟨wd_1054, wd_173, by decide +kernel, by decide +kernel, by decide +kernel⟩
theorem qm_X0_lengthOfLoop : qM yX0_lengthOfLoop cX0_lengthOfLoop 4 (some .int) 0 := ⟨wd_1102, wd_166, by decide +kernel, by decide +kernel, by decide +kernel⟩
theorem qm_X4_merge : qM yX4_merge cX4_merge 6 none 3 := ⟨wd_1110, wd_174, by decide +kernel, by decide +kernel, by decide +kernel⟩
theorem qm_X4_person : qM yX4_person cX4_person 2 (some .int) 1 := ⟨wd_1146, wd_174, by decide +kernel, by decide +kernel, by decide +kernel⟩
theorem qm_X4_common : qM yX4_common cX4_common 1 (some .int) 0 := ⟨wd_1142, wd_174, by decide +kernel, by decide +kernel, by decide +kernel⟩
theorem qm_X3_show : qM yX3_show cX3_show 2 (some .int) 1 := ⟨wd_1155, wd_168, by decide +kernel, by decide +kernel, by decide +kernel⟩
theorem qm_X2_show : qM yX2_show cX2_show 8 (some .long) 3 := ⟨wd_1168, wd_175, by decide +kernel, by decide +kernel, by decide +kernel⟩
theorem qm_X10_show : qM yX10_show cX10_show 2 (some .int) 1 := ⟨wd_1237, wd_169, by decide +kernel, by decide +kernel, by decide +kernel⟩
theorem qm_X8_playDrawn : qM yX8_playDrawn cX8_playDrawn 5 none 3 := ⟨wd_1297, wd_171, by decide +kernel, by decide +kernel, by decide +kernel⟩
theorem qm_X6_fewestOut : qM yX6_fewestOut cX6_fewestOut 6 (some .int) 2 := ⟨wd_1319, wd_172, by decide +kernel, by decide +kernel, by decide +kernel⟩
theorem qm_X6_neededFor : qM yX6_neededFor cX6_neededFor 6 (some .int) 2 := ⟨wd_1338, wd_172, by decide +kernel, by decide +kernel, by decide +kernel⟩
theorem qm_X6_howManyWays : qM yX6_howManyWays cX6_howManyWays 5 (some .long) 2 := ⟨wd_1346, wd_172, by decide +kernel, by decide +kernel, by decide +kernel⟩
theorem qm_X6_harmOfWay : qM yX6_harmOfWay cX6_harmOfWay 8 (some .int) 4 := ⟨wd_1358, wd_172, by decide +kernel, by decide +kernel, by decide +kernel⟩
theorem qm_X0_shortestWithout : qM yX0_shortestWithout cX0_shortestWithout 5 (some .int) 0 := ⟨wd_1371, wd_166, by decide +kernel, by decide +kernel, by decide +kernel⟩
theorem qm_X6_linesForSure : qM yX6_linesForSure cX6_linesForSure 6 (some .int) 3 := ⟨wd_1381, wd_172, by decide +kernel, by decide +kernel, by decide +kernel⟩
theorem qm_X5_driesByNext : qM yX5_driesByNext cX5_driesByNext 7 none 2 := ⟨wd_1393, wd_173, by decide +kernel, by decide +kernel, by decide +kernel⟩
theorem qm_X4_firstUnlike : qM yX4_firstUnlike cX4_firstUnlike 6 (some .int) 2 := ⟨wd_1401, wd_174, by decide +kernel, by decide +kernel, by decide +kernel⟩
theorem qm_X8_longestSilence : qM yX8_longestSilence cX8_longestSilence 5 (some .int) 2 := ⟨wd_1409, wd_171, by decide +kernel, by decide +kernel, by decide +kernel⟩
theorem qm_X8_loudest : qM yX8_loudest cX8_loudest 6 (some .int) 2 := ⟨wd_1413, wd_171, by decide +kernel, by decide +kernel, by decide +kernel⟩
theorem qm_X8_firstFined : qM yX8_firstFined cX8_firstFined 4 (some .int) 2 := ⟨wd_1418, wd_171, by decide +kernel, by decide +kernel, by decide +kernel⟩
theorem qm_X9_copy : qM yX9_copy cX9_copy 3 none 1 := ⟨wd_1430, wd_165, by decide +kernel, by decide +kernel, by decide +kernel⟩
theorem qm_X12_has : qM yX12_has cX12_has 2 (some .boolean) 2 := ⟨wd_1827, wd_176, by decide +kernel, by decide +kernel, by decide +kernel⟩
theorem qm_X12_common : qM yX12_common cX12_common 10 (some .long) 2 := ⟨wd_1936, wd_176, by decide +kernel, by decide +kernel, by decide +kernel⟩
theorem qm_X12_copyRow : qM yX12_copyRow cX12_copyRow 5 none 4 := ⟨wd_2147, wd_176, by decide +kernel, by decide +kernel, by decide +kernel⟩
theorem qm_X12_in : qM yX12_in cX12_in 3 (some .boolean) 3 := ⟨wd_1625, wd_176, by decide +kernel, by decide +kernel, by decide +kernel⟩
theorem qm_X12_four : qM yX12_four cX12_four 3 none 1 := ⟨wd_1618, wd_176, by decide +kernel, by decide +kernel, by decide +kernel⟩
theorem qm_X12_see : qM yX12_see cX12_see 1 (some .int) 0 := ⟨wd_1649, wd_176, by decide +kernel, by decide +kernel, by decide +kernel⟩
theorem qm_X12_token : qM yX12_token cX12_token 3 none 0 := ⟨wd_1645, wd_176, by decide +kernel, by decide +kernel, by decide +kernel⟩
theorem qm_X12_later : qM yX12_later cX12_later 3 none 2 := ⟨wd_1679, wd_176, by decide +kernel, by decide +kernel, by decide +kernel⟩
theorem qm_X12_fails : qM yX12_fails cX12_fails 1 (some .boolean) 0 := ⟨wd_1671, wd_176, by decide +kernel, by decide +kernel, by decide +kernel⟩
theorem qm_X12_take : qM yX12_take cX12_take 4 (some .boolean) 3 := ⟨wd_1691, wd_176, by decide +kernel, by decide +kernel, by decide +kernel⟩
theorem qm_X12_greater : qM yX12_greater cX12_greater 2 (some .int) 2 := ⟨wd_1694, wd_176, by decide +kernel, by decide +kernel, by decide +kernel⟩
theorem qm_X12_takeFar : qM yX12_takeFar cX12_takeFar 4 (some .boolean) 3 := ⟨wd_1687, wd_176, by decide +kernel, by decide +kernel, by decide +kernel⟩
theorem qm_X12_full : qM yX12_full cX12_full 4 none 3 := ⟨wd_1675, wd_176, by decide +kernel, by decide +kernel, by decide +kernel⟩
theorem qm_X12_ownLine : qM yX12_ownLine cX12_ownLine 3 (some .boolean) 1 := ⟨wd_1702, wd_176, by decide +kernel, by decide +kernel, by decide +kernel⟩
theorem qm_X12_backLine : qM yX12_backLine cX12_backLine 2 (some .boolean) 0 := ⟨wd_1698, wd_176, by decide +kernel, by decide +kernel, by decide +kernel⟩
theorem qm_X12_lineLine : qM yX12_lineLine cX12_lineLine 3 (some .boolean) 0 := ⟨wd_1683, wd_176, by decide +kernel, by decide +kernel, by decide +kernel⟩
theorem qm_X12_deedBy : qM yX12_deedBy cX12_deedBy 2 (some .int) 1 := ⟨wd_1709, wd_176, by decide +kernel, by decide +kernel, by decide +kernel⟩
theorem qm_X12_keep : qM yX12_keep cX12_keep 5 none 2 := ⟨wd_1719, wd_176, by decide +kernel, by decide +kernel, by decide +kernel⟩
theorem qm_X12_bookLine : qM yX12_bookLine cX12_bookLine 4 (some .boolean) 2 := ⟨wd_1661, wd_176, by decide +kernel, by decide +kernel, by decide +kernel⟩
theorem qm_X12_eveningLine : qM yX12_eveningLine cX12_eveningLine 5 (some .boolean) 2 := ⟨wd_1706, wd_176, by decide +kernel, by decide +kernel, by decide +kernel⟩
theorem qm_X12_logLine : qM yX12_logLine cX12_logLine 4 (some .boolean) 2 := ⟨wd_1723, wd_176, by decide +kernel, by decide +kernel, by decide +kernel⟩
theorem qm_X12_townLine : qM yX12_townLine cX12_townLine 3 (some .boolean) 1 := ⟨wd_1729, wd_176, by decide +kernel, by decide +kernel, by decide +kernel⟩
theorem qm_X12_lineOf : qM yX12_lineOf cX12_lineOf 5 (some .boolean) 3 := ⟨wd_1657, wd_176, by decide +kernel, by decide +kernel, by decide +kernel⟩
theorem qm_X12_blank : qM yX12_blank cX12_blank 3 none 1 := ⟨wd_1641, wd_176, by decide +kernel, by decide +kernel, by decide +kernel⟩
theorem qm_X12_lines : qM yX12_lines cX12_lines 4 (some .boolean) 1 := ⟨wd_1653, wd_176, by decide +kernel, by decide +kernel, by decide +kernel⟩
theorem qm_X12_store : qM yX12_store cX12_store 5 none 3 := ⟨wd_1741, wd_176, by decide +kernel, by decide +kernel, by decide +kernel⟩
theorem qm_X12_is : qM yX12_is cX12_is 3 (some .boolean) 2 := ⟨wd_1633, wd_176, by decide +kernel, by decide +kernel, by decide +kernel⟩
theorem qm_X12_readText : qM yX12_readText cX12_readText 3 (some .boolean) 1 := ⟨wd_1637, wd_176, by decide +kernel, by decide +kernel, by decide +kernel⟩
theorem qm_X12_storeAll : qM yX12_storeAll cX12_storeAll 3 none 2 := ⟨wd_1737, wd_176, by decide +kernel, by decide +kernel, by decide +kernel⟩
theorem qm_X12_of : qM yX12_of cX12_of 2 (some .int) 1 := ⟨wd_1757, wd_176, by decide +kernel, by decide +kernel, by decide +kernel⟩
theorem qm_X12_addFollower : qM yX12_addFollower cX12_addFollower 4 none 2 := ⟨wd_1761, wd_176, by decide +kernel, by decide +kernel, by decide +kernel⟩
theorem qm_X12_who : qM yX12_who cX12_who 2 (some .int) 1 := ⟨wd_1839, wd_176, by decide +kernel, by decide +kernel, by decide +kernel⟩
theorem qm_X12_behind : qM yX12_behind cX12_behind 3 (some .int) 2 := ⟨wd_1776, wd_176, by decide +kernel, by decide +kernel, by decide +kernel⟩
theorem qm_X12_hand : qM yX12_hand cX12_hand 3 (some .boolean) 1 := ⟨wd_1753, wd_176, by decide +kernel, by decide +kernel, by decide +kernel⟩
theorem qm_X12_isLine : qM yX12_isLine cX12_isLine 2 (some .boolean) 1 := ⟨wd_1768, wd_176, by decide +kernel, by decide +kernel, by decide +kernel⟩
theorem qm_X12_ofLine : qM yX12_ofLine cX12_ofLine 3 (some .int) 2 := ⟨wd_1772, wd_176, by decide +kernel, by decide +kernel, by decide +kernel⟩
theorem qm_X12_isPerson : qM yX12_isPerson cX12_isPerson 1 (some .boolean) 1 := ⟨wd_1764, wd_176, by decide +kernel, by decide +kernel, by decide +kernel⟩
theorem qm_X12_hasEvening : qM yX12_hasEvening cX12_hasEvening 2 (some .boolean) 1 := ⟨wd_1788, wd_176, by decide +kernel, by decide +kernel, by decide +kernel⟩
theorem qm_X12_deeds : qM yX12_deeds cX12_deeds 1 (some .int) 0 := ⟨wd_1792, wd_176, by decide +kernel, by decide +kernel, by decide +kernel⟩
theorem qm_X12_deedOf : qM yX12_deedOf cX12_deedOf 3 (some .int) 2 := ⟨wd_1796, wd_176, by decide +kernel, by decide +kernel, by decide +kernel⟩
theorem qm_X12_harmOf : qM yX12_harmOf cX12_harmOf 2 (some .int) 1 := ⟨wd_1847, wd_176, by decide +kernel, by decide +kernel, by decide +kernel⟩
theorem qm_X12_goesOn : qM yX12_goesOn cX12_goesOn 2 none 1 := ⟨wd_1851, wd_176, by decide +kernel, by decide +kernel, by decide +kernel⟩
theorem qm_X12_isThere : qM yX12_isThere cX12_isThere 2 (some .boolean) 1 := ⟨wd_1824, wd_176, by decide +kernel, by decide +kernel, by decide +kernel⟩
theorem qm_X12_isSaid : qM yX12_isSaid cX12_isSaid 2 none 1 := ⟨wd_1843, wd_176, by decide +kernel, by decide +kernel, by decide +kernel⟩
theorem qm_X12_isFollower : qM yX12_isFollower cX12_isFollower 3 (some .boolean) 1 := ⟨wd_1835, wd_176, by decide +kernel, by decide +kernel, by decide +kernel⟩
theorem qm_X12_goes : qM yX12_goes cX12_goes 3 (some .boolean) 2 := ⟨wd_1820, wd_176, by decide +kernel, by decide +kernel, by decide +kernel⟩
theorem qm_X12_isCut : qM yX12_isCut cX12_isCut 1 (some .boolean) 0 := ⟨wd_1867, wd_176, by decide +kernel, by decide +kernel, by decide +kernel⟩
theorem qm_X12_waits : qM yX12_waits cX12_waits 1 (some .boolean) 0 := ⟨wd_1863, wd_176, by decide +kernel, by decide +kernel, by decide +kernel⟩
theorem qm_X12_isPrompted : qM yX12_isPrompted cX12_isPrompted 1 (some .boolean) 0 := ⟨wd_1859, wd_176, by decide +kernel, by decide +kernel, by decide +kernel⟩
theorem qm_X12_dries : qM yX12_dries cX12_dries 1 (some .boolean) 0 := ⟨wd_1855, wd_176, by decide +kernel, by decide +kernel, by decide +kernel⟩
theorem qm_X12_says : qM yX12_says cX12_says 2 (some .boolean) 1 := ⟨wd_1831, wd_176, by decide +kernel, by decide +kernel, by decide +kernel⟩
theorem qm_X12_begin : qM yX12_begin cX12_begin 2 none 0 := ⟨wd_1812, wd_176, by decide +kernel, by decide +kernel, by decide +kernel⟩
theorem qm_X12_does : qM yX12_does cX12_does 4 (some .boolean) 2 := ⟨wd_1816, wd_176, by decide +kernel, by decide +kernel, by decide +kernel⟩
theorem qm_X12_layAll : qM yX12_layAll cX12_layAll 3 (some .boolean) 2 := ⟨wd_1804, wd_176, by decide +kernel, by decide +kernel, by decide +kernel⟩
theorem qm_X12_play : qM yX12_play cX12_play 3 (some .int) 1 := ⟨wd_1808, wd_176, by decide +kernel, by decide +kernel, by decide +kernel⟩
theorem qm_X12_ofState : qM yX12_ofState cX12_ofState 2 (some .int) 1 := ⟨wd_1875, wd_176, by decide +kernel, by decide +kernel, by decide +kernel⟩
theorem qm_X12_strays : qM yX12_strays cX12_strays 1 (some .int) 1 := ⟨wd_1890, wd_176, by decide +kernel, by decide +kernel, by decide +kernel⟩
theorem qm_X12_lesser : qM yX12_lesser cX12_lesser 2 (some .int) 2 := ⟨wd_1893, wd_176, by decide +kernel, by decide +kernel, by decide +kernel⟩
theorem qm_X12_isOf : qM yX12_isOf cX12_isOf 3 (some .boolean) 2 := ⟨wd_1897, wd_176, by decide +kernel, by decide +kernel, by decide +kernel⟩
theorem qm_X12_isScene : qM yX12_isScene cX12_isScene 1 (some .boolean) 1 := ⟨wd_1882, wd_176, by decide +kernel, by decide +kernel, by decide +kernel⟩
theorem qm_X12_findFewest : qM yX12_findFewest cX12_findFewest 7 none 2 := ⟨wd_1886, wd_176, by decide +kernel, by decide +kernel, by decide +kernel⟩
theorem qm_X12_bestFollower : qM yX12_bestFollower cX12_bestFollower 7 (some .int) 2 := ⟨wd_1901, wd_176, by decide +kernel, by decide +kernel, by decide +kernel⟩
theorem qm_X12_nears : qM yX12_nears cX12_nears 4 (some .boolean) 2 := ⟨wd_1909, wd_176, by decide +kernel, by decide +kernel, by decide +kernel⟩
theorem qm_X12_saidBy : qM yX12_saidBy cX12_saidBy 5 (some .int) 4 := ⟨wd_1917, wd_176, by decide +kernel, by decide +kernel, by decide +kernel⟩
theorem qm_X12_oneMore : qM yX12_oneMore cX12_oneMore 7 none 2 := ⟨wd_1926, wd_176, by decide +kernel, by decide +kernel, by decide +kernel⟩
theorem qm_X12_tens : qM yX12_tens cX12_tens 4 (some .long) 1 := ⟨wd_1930, wd_176, by decide +kernel, by decide +kernel, by decide +kernel⟩
theorem qm_X12_part : qM yX12_part cX12_part 5 (some .long) 3 := ⟨wd_1933, wd_176, by decide +kernel, by decide +kernel, by decide +kernel⟩
theorem qm_X12_next : qM yX12_next cX12_next 4 (some .int) 2 := ⟨wd_1952, wd_176, by decide +kernel, by decide +kernel, by decide +kernel⟩
theorem qm_X12_lengthWithout : qM yX12_lengthWithout cX12_lengthWithout 5 (some .int) 1 := ⟨wd_1948, wd_176, by decide +kernel, by decide +kernel, by decide +kernel⟩
theorem qm_X12_layRow : qM yX12_layRow cX12_layRow 5 (some .int) 2 := ⟨wd_1960, wd_176, by decide +kernel, by decide +kernel, by decide +kernel⟩
theorem qm_X12_findShortest : qM yX12_findShortest cX12_findShortest 4 none 0 := ⟨wd_1964, wd_176, by decide +kernel, by decide +kernel, by decide +kernel⟩
theorem qm_X12_mergedAt : qM yX12_mergedAt cX12_mergedAt 10 (some .int) 1 := ⟨wd_1968, wd_176, by decide +kernel, by decide +kernel, by decide +kernel⟩
theorem qm_X12_hasLog : qM yX12_hasLog cX12_hasLog 2 (some .boolean) 1 := ⟨wd_1976, wd_176, by decide +kernel, by decide +kernel, by decide +kernel⟩
theorem qm_X12_voices : qM yX12_voices cX12_voices 1 (some .int) 0 := ⟨wd_1980, wd_176, by decide +kernel, by decide +kernel, by decide +kernel⟩
theorem qm_X12_voiceOf : qM yX12_voiceOf cX12_voiceOf 2 (some .int) 1 := ⟨wd_1984, wd_176, by decide +kernel, by decide +kernel, by decide +kernel⟩
theorem qm_X12_isHeard : qM yX12_isHeard cX12_isHeard 3 (some .boolean) 2 := ⟨wd_2001, wd_176, by decide +kernel, by decide +kernel, by decide +kernel⟩
theorem qm_X12_findFrom : qM yX12_findFrom cX12_findFrom 8 none 0 := ⟨wd_1997, wd_176, by decide +kernel, by decide +kernel, by decide +kernel⟩
theorem qm_X12_findUpTo : qM yX12_findUpTo cX12_findUpTo 4 none 0 := ⟨wd_2005, wd_176, by decide +kernel, by decide +kernel, by decide +kernel⟩
theorem qm_X12_through : qM yX12_through cX12_through 3 (some .long) 2 := ⟨wd_2017, wd_176, by decide +kernel, by decide +kernel, by decide +kernel⟩
theorem qm_X12_findWays : qM yX12_findWays cX12_findWays 1 none 0 := ⟨wd_1993, wd_176, by decide +kernel, by decide +kernel, by decide +kernel⟩
theorem qm_X12_guess : qM yX12_guess cX12_guess 11 (some .int) 0 := ⟨wd_2021, wd_176, by decide +kernel, by decide +kernel, by decide +kernel⟩
theorem qm_X12_sureOf : qM yX12_sureOf cX12_sureOf 3 (some .int) 1 := ⟨wd_2013, wd_176, by decide +kernel, by decide +kernel, by decide +kernel⟩
theorem qm_X12_firstAt : qM yX12_firstAt cX12_firstAt 7 (some .int) 1 := ⟨wd_2009, wd_176, by decide +kernel, by decide +kernel, by decide +kernel⟩
theorem qm_X12_townOf : qM yX12_townOf cX12_townOf 2 (some .int) 1 := ⟨wd_2029, wd_176, by decide +kernel, by decide +kernel, by decide +kernel⟩
theorem qm_X12_between : qM yX12_between cX12_between 5 (some .int) 2 := ⟨wd_2045, wd_176, by decide +kernel, by decide +kernel, by decide +kernel⟩
theorem qm_X12_isHeardIn : qM yX12_isHeardIn cX12_isHeardIn 3 (some .boolean) 2 := ⟨wd_2041, wd_176, by decide +kernel, by decide +kernel, by decide +kernel⟩
theorem qm_X12_othersIn : qM yX12_othersIn cX12_othersIn 4 (some .int) 1 := ⟨wd_2053, wd_176, by decide +kernel, by decide +kernel, by decide +kernel⟩
theorem qm_X12_heardIn : qM yX12_heardIn cX12_heardIn 4 (some .int) 1 := ⟨wd_2037, wd_176, by decide +kernel, by decide +kernel, by decide +kernel⟩
theorem qm_X12_ones : qM yX12_ones cX12_ones 3 (some .int) 1 := ⟨wd_2060, wd_176, by decide +kernel, by decide +kernel, by decide +kernel⟩
theorem qm_X12_listen : qM yX12_listen cX12_listen 3 (some .int) 0 := ⟨wd_2049, wd_176, by decide +kernel, by decide +kernel, by decide +kernel⟩
theorem qm_X12_guard : qM yX12_guard cX12_guard 5 (some .int) 0 := ⟨wd_2057, wd_176, by decide +kernel, by decide +kernel, by decide +kernel⟩
theorem qm_X12_wrong : qM yX12_wrong cX12_wrong 3 (some .int) 0 := ⟨wd_2064, wd_176, by decide +kernel, by decide +kernel, by decide +kernel⟩
theorem qm_X12_hush : qM yX12_hush cX12_hush 3 (some .int) 0 := ⟨wd_2068, wd_176, by decide +kernel, by decide +kernel, by decide +kernel⟩
theorem qm_X12_ofHouse : qM yX12_ofHouse cX12_ofHouse 3 (some .int) 2 := ⟨wd_2033, wd_176, by decide +kernel, by decide +kernel, by decide +kernel⟩
theorem qm_X12_draw : qM yX12_draw cX12_draw 2 (some .int) 1 := ⟨wd_2080, wd_176, by decide +kernel, by decide +kernel, by decide +kernel⟩
theorem qm_X12_drawDeed : qM yX12_drawDeed cX12_drawDeed 3 none 0 := ⟨wd_2076, wd_176, by decide +kernel, by decide +kernel, by decide +kernel⟩
theorem qm_X12_reachable : qM yX12_reachable cX12_reachable 8 (some .int) 2 := ⟨wd_2089, wd_176, by decide +kernel, by decide +kernel, by decide +kernel⟩
theorem qm_X12_isSceneIn : qM yX12_isSceneIn cX12_isSceneIn 4 (some .boolean) 2 := ⟨wd_2093, wd_176, by decide +kernel, by decide +kernel, by decide +kernel⟩
theorem qm_X12_cell : qM yX12_cell cX12_cell 3 (some .int) 3 := ⟨wd_2108, wd_176, by decide +kernel, by decide +kernel, by decide +kernel⟩
theorem qm_X12_loudest : qM yX12_loudest cX12_loudest 3 (some .int) 0 := ⟨wd_2132, wd_176, by decide +kernel, by decide +kernel, by decide +kernel⟩
theorem qm_X12_copyAll : qM yX12_copyAll cX12_copyAll 4 none 2 := ⟨wd_2144, wd_176, by decide +kernel, by decide +kernel, by decide +kernel⟩
theorem qm_X11_init : qM yX11_init cX11_init 1 none 0 := ⟨wd_188, wd_164, by decide +kernel, by decide +kernel, by decide +kernel⟩
theorem qm_X12_init : qM yX12_init cX12_init 1 none 0 := ⟨wd_1460, wd_176, by decide +kernel, by decide +kernel, by decide +kernel⟩
theorem qm_X11_feed : qM yX11_feed cX11_feed 6 (some .int) 5 := ⟨wd_544, wd_164, by decide +kernel, by decide +kernel, by decide +kernel⟩
theorem qm_X12_feed : qM yX12_feed cX12_feed 6 (some .int) 5 := ⟨wd_1614, wd_176, by decide +kernel, by decide +kernel, by decide +kernel⟩
theorem qm_X11_end : qM yX11_end cX11_end 2 (some .int) 1 := ⟨wd_552, wd_164, by decide +kernel, by decide +kernel, by decide +kernel⟩
theorem qm_X12_end : qM yX12_end cX12_end 2 (some .int) 1 := ⟨wd_1622, wd_176, by decide +kernel, by decide +kernel, by decide +kernel⟩
theorem qm_X11_text : qM yX11_text cX11_text 6 (some .int) 2 := ⟨wd_556, wd_164, by decide +kernel, by decide +kernel, by decide +kernel⟩
theorem qm_X12_text : qM yX12_text cX12_text 4 (some .int) 2 := ⟨wd_1629, wd_176, by decide +kernel, by decide +kernel, by decide +kernel⟩
theorem qm_X11_fault : qM yX11_fault cX11_fault 2 (some .int) 1 := ⟨wd_853, wd_164, by decide +kernel, by decide +kernel, by decide +kernel⟩
theorem qm_X12_fault : qM yX12_fault cX12_fault 2 (some .int) 1 := ⟨wd_1745, wd_176, by decide +kernel, by decide +kernel, by decide +kernel⟩
theorem qm_X11_book : qM yX11_book cX11_book 4 (some .int) 2 := ⟨wd_857, wd_164, by decide +kernel, by decide +kernel, by decide +kernel⟩
theorem qm_X12_book : qM yX12_book cX12_book 3 (some .int) 2 := ⟨wd_1749, wd_176, by decide +kernel, by decide +kernel, by decide +kernel⟩
theorem qm_X11_follower : qM yX11_follower cX11_follower 5 (some .int) 3 := ⟨wd_878, wd_164, by decide +kernel, by decide +kernel, by decide +kernel⟩
theorem qm_X12_follower : qM yX12_follower cX12_follower 4 (some .int) 3 := ⟨wd_1780, wd_176, by decide +kernel, by decide +kernel, by decide +kernel⟩
theorem qm_X11_deed : qM yX11_deed cX11_deed 5 (some .int) 3 := ⟨wd_883, wd_164, by decide +kernel, by decide +kernel, by decide +kernel⟩
theorem qm_X12_deed : qM yX12_deed cX12_deed 4 (some .int) 3 := ⟨wd_1784, wd_176, by decide +kernel, by decide +kernel, by decide +kernel⟩
theorem qm_X11_till : qM yX11_till cX11_till 5 (some .int) 2 := ⟨wd_904, wd_164, by decide +kernel, by decide +kernel, by decide +kernel⟩
theorem qm_X12_till : qM yX12_till cX12_till 3 (some .int) 2 := ⟨wd_1800, wd_176, by decide +kernel, by decide +kernel, by decide +kernel⟩
theorem qm_X11_state : qM yX11_state cX11_state 7 (some .int) 4 := ⟨wd_966, wd_164, by decide +kernel, by decide +kernel, by decide +kernel⟩
theorem qm_X12_state : qM yX12_state cX12_state 5 (some .int) 4 := ⟨wd_1871, wd_176, by decide +kernel, by decide +kernel, by decide +kernel⟩
theorem qm_X11_avoid : qM yX11_avoid cX11_avoid 7 (some .int) 4 := ⟨wd_979, wd_164, by decide +kernel, by decide +kernel, by decide +kernel⟩
theorem qm_X12_avoid : qM yX12_avoid cX12_avoid 8 (some .int) 4 := ⟨wd_1879, wd_176, by decide +kernel, by decide +kernel, by decide +kernel⟩
theorem qm_X11_soonest : qM yX11_soonest cX11_soonest 5 (some .int) 3 := ⟨wd_1017, wd_164, by decide +kernel, by decide +kernel, by decide +kernel⟩
theorem qm_X12_soonest : qM yX12_soonest cX12_soonest 9 (some .int) 3 := ⟨wd_1905, wd_176, by decide +kernel, by decide +kernel, by decide +kernel⟩
theorem qm_X11_together : qM yX11_together cX11_together 5 (some .int) 3 := ⟨wd_1032, wd_164, by decide +kernel, by decide +kernel, by decide +kernel⟩
theorem qm_X12_together : qM yX12_together cX12_together 10 (some .int) 3 := ⟨wd_1913, wd_176, by decide +kernel, by decide +kernel, by decide +kernel⟩
theorem qm_X11_comes : qM yX11_comes cX11_comes 7 (some .long) 5 := ⟨wd_1049, wd_164, by decide +kernel, by decide +kernel, by decide +kernel⟩
theorem qm_X12_comes : qM yX12_comes cX12_comes 10 (some .long) 5 := ⟨wd_1921, wd_176, by decide +kernel, by decide +kernel, by decide +kernel⟩
theorem qm_X11_harm : qM yX11_harm cX11_harm 6 (some .long) 4 := ⟨wd_1086, wd_164, by decide +kernel, by decide +kernel, by decide +kernel⟩
theorem qm_X12_harm : qM yX12_harm cX12_harm 9 (some .long) 4 := ⟨wd_1940, wd_176, by decide +kernel, by decide +kernel, by decide +kernel⟩
theorem qm_X11_loop : qM yX11_loop cX11_loop 4 (some .int) 2 := ⟨wd_1090, wd_164, by decide +kernel, by decide +kernel, by decide +kernel⟩
theorem qm_X12_loop : qM yX12_loop cX12_loop 6 (some .int) 2 := ⟨wd_1944, wd_176, by decide +kernel, by decide +kernel, by decide +kernel⟩
theorem qm_X11_merged : qM yX11_merged cX11_merged 7 (some .int) 4 := ⟨wd_1106, wd_164, by decide +kernel, by decide +kernel, by decide +kernel⟩
theorem qm_X12_merged : qM yX12_merged cX12_merged 5 (some .int) 4 := ⟨wd_1956, wd_176, by decide +kernel, by decide +kernel, by decide +kernel⟩
theorem qm_X11_voice : qM yX11_voice cX11_voice 4 (some .int) 2 := ⟨wd_1150, wd_164, by decide +kernel, by decide +kernel, by decide +kernel⟩
theorem qm_X12_voice : qM yX12_voice cX12_voice 3 (some .int) 2 := ⟨wd_1972, wd_176, by decide +kernel, by decide +kernel, by decide +kernel⟩
theorem qm_X11_fits : qM yX11_fits cX11_fits 6 (some .long) 3 := ⟨wd_1163, wd_164, by decide +kernel, by decide +kernel, by decide +kernel⟩
theorem qm_X12_fits : qM yX12_fits cX12_fits 4 (some .long) 3 := ⟨wd_1988, wd_176, by decide +kernel, by decide +kernel, by decide +kernel⟩
theorem qm_X11_town : qM yX11_town cX11_town 4 (some .int) 2 := ⟨wd_1232, wd_164, by decide +kernel, by decide +kernel, by decide +kernel⟩
theorem qm_X12_town : qM yX12_town cX12_town 3 (some .int) 2 := ⟨wd_2025, wd_176, by decide +kernel, by decide +kernel, by decide +kernel⟩
theorem qm_X11_drawn : qM yX11_drawn cX11_drawn 6 (some .int) 4 := ⟨wd_1293, wd_164, by decide +kernel, by decide +kernel, by decide +kernel⟩
theorem qm_X12_drawn : qM yX12_drawn cX12_drawn 6 (some .int) 4 := ⟨wd_2072, wd_176, by decide +kernel, by decide +kernel, by decide +kernel⟩
theorem qm_X11_bar : qM yX11_bar cX11_bar 4 (some .int) 2 := ⟨wd_1315, wd_164, by decide +kernel, by decide +kernel, by decide +kernel⟩
theorem qm_X12_bar : qM yX12_bar cX12_bar 6 (some .int) 2 := ⟨wd_2085, wd_176, by decide +kernel, by decide +kernel, by decide +kernel⟩
theorem qm_X11_must : qM yX11_must cX11_must 4 (some .int) 2 := ⟨wd_1334, wd_164, by decide +kernel, by decide +kernel, by decide +kernel⟩
theorem qm_X12_must : qM yX12_must cX12_must 5 (some .int) 2 := ⟨wd_2097, wd_176, by decide +kernel, by decide +kernel, by decide +kernel⟩
theorem qm_X11_ways : qM yX11_ways cX11_ways 4 (some .long) 2 := ⟨wd_1342, wd_164, by decide +kernel, by decide +kernel, by decide +kernel⟩
theorem qm_X12_ways : qM yX12_ways cX12_ways 8 (some .long) 2 := ⟨wd_2101, wd_176, by decide +kernel, by decide +kernel, by decide +kernel⟩
theorem qm_X11_worst : qM yX11_worst cX11_worst 6 (some .int) 4 := ⟨wd_1354, wd_164, by decide +kernel, by decide +kernel, by decide +kernel⟩
theorem qm_X12_worst : qM yX12_worst cX12_worst 12 (some .int) 4 := ⟨wd_2105, wd_176, by decide +kernel, by decide +kernel, by decide +kernel⟩
theorem qm_X11_lost : qM yX11_lost cX11_lost 5 (some .int) 2 := ⟨wd_1367, wd_164, by decide +kernel, by decide +kernel, by decide +kernel⟩
theorem qm_X12_lost : qM yX12_lost cX12_lost 5 (some .int) 2 := ⟨wd_2112, wd_176, by decide +kernel, by decide +kernel, by decide +kernel⟩
theorem qm_X11_force : qM yX11_force cX11_force 5 (some .int) 3 := ⟨wd_1377, wd_164, by decide +kernel, by decide +kernel, by decide +kernel⟩
theorem qm_X12_force : qM yX12_force cX12_force 10 (some .int) 3 := ⟨wd_2116, wd_176, by decide +kernel, by decide +kernel, by decide +kernel⟩
theorem qm_X11_prompts : qM yX11_prompts cX11_prompts 5 (some .long) 3 := ⟨wd_1389, wd_164, by decide +kernel, by decide +kernel, by decide +kernel⟩
theorem qm_X12_prompts : qM yX12_prompts cX12_prompts 7 (some .long) 3 := ⟨wd_2120, wd_176, by decide +kernel, by decide +kernel, by decide +kernel⟩
theorem qm_X11_parted : qM yX11_parted cX11_parted 5 (some .int) 2 := ⟨wd_1397, wd_164, by decide +kernel, by decide +kernel, by decide +kernel⟩
theorem qm_X12_parted : qM yX12_parted cX12_parted 4 (some .int) 2 := ⟨wd_2124, wd_176, by decide +kernel, by decide +kernel, by decide +kernel⟩
theorem qm_X11_after : qM yX11_after cX11_after 6 (some .int) 3 := ⟨wd_1405, wd_164, by decide +kernel, by decide +kernel, by decide +kernel⟩
theorem qm_X12_after : qM yX12_after cX12_after 7 (some .int) 3 := ⟨wd_2128, wd_176, by decide +kernel, by decide +kernel, by decide +kernel⟩
theorem qm_X11_count : qM yX11_count cX11_count 2 (some .int) 1 := ⟨wd_1422, wd_164, by decide +kernel, by decide +kernel, by decide +kernel⟩
theorem qm_X12_count : qM yX12_count cX12_count 2 (some .int) 1 := ⟨wd_2136, wd_176, by decide +kernel, by decide +kernel, by decide +kernel⟩
theorem qm_X11_image : qM yX11_image cX11_image 3 (some .boolean) 1 := ⟨wd_1426, wd_164, by decide +kernel, by decide +kernel, by decide +kernel⟩
theorem qm_X12_image : qM yX12_image cX12_image 2 (some .boolean) 1 := ⟨wd_2140, wd_176, by decide +kernel, by decide +kernel, by decide +kernel⟩
theorem qm_X11_again : qM yX11_again cX11_again 3 (some .boolean) 1 := ⟨wd_1455, wd_164, by decide +kernel, by decide +kernel, by decide +kernel⟩
theorem qm_X12_again : qM yX12_again cX12_again 2 (some .boolean) 1 := ⟨wd_2151, wd_176, by decide +kernel, by decide +kernel, by decide +kernel⟩
theorem qm_J0_coder_7d493 : qM yJ0_coder_7d493 cJ0_coder_7d493 1 (some .byte) 0 := ⟨wd_622, wd_177, by decide +kernel, by decide +kernel, by decide +kernel⟩
theorem qm_J0_isLatin1_aae02 : qM yJ0_isLatin1_aae02 cJ0_isLatin1_aae02 1 (some .boolean) 0 := ⟨wd_632, wd_177, by decide +kernel, by decide +kernel, by decide +kernel⟩
theorem qm_J0_checkIndex_df160 : qM yJ0_checkIndex_df160 cJ0_checkIndex_df160 2 none 2 := ⟨wd_638, wd_177, by decide +kernel, by decide +kernel, by decide +kernel⟩
theorem qm_J1_charAt_3b067 : qM yJ1_charAt_3b067 cJ1_charAt_3b067 2 (some .char) 2 := ⟨wd_635, wd_178, by decide +kernel, by decide +kernel, by decide +kernel⟩
theorem qm_J3_checkIndex_8e157 : qM yJ3_checkIndex_8e157 cJ3_checkIndex_8e157 3 (some .int) 3 := ⟨wd_643, wd_179, by decide +kernel, by decide +kernel, by decide +kernel⟩
theorem fl_X0_11 : qFl RX0 11 0 0 (.array .int) true := ⟨(RX0, TX0, 15), rfl, by decide, qw_1 48 rfl rfl, by decide +kernel, rfl, fun _ => Or.inr trivial⟩
theorem fl_X0_15 : qFl RX0 15 0 1 (.array .int) true := ⟨(RX0, TX0, 15), rfl, by decide, qw_1 49 rfl rfl, by decide +kernel, rfl, fun _ => Or.inr trivial⟩
theorem fl_X0_18 : qFl RX0 18 0 2 (.array .int) true := ⟨(RX0, TX0, 15), rfl, by decide, qw_1 50 rfl rfl, by decide +kernel, rfl, fun _ => Or.inr trivial⟩
theorem fl_X0_21 : qFl RX0 21 0 3 (.array .int) true := ⟨(RX0, TX0, 15), rfl, by decide, qw_1 51 rfl rfl, by decide +kernel, rfl, fun _ => Or.inr trivial⟩
theorem fl_X0_24 : qFl RX0 24 0 4 (.array .int) true := ⟨(RX0, TX0, 15), rfl, by decide, qw_1 52 rfl rfl, by decide +kernel, rfl, fun _ => Or.inr trivial⟩
theorem fl_X0_27 : qFl RX0 27 0 5 (.array .int) true := ⟨(RX0, TX0, 15), rfl, by decide, qw_1 53 rfl rfl, by decide +kernel, rfl, fun _ => Or.inr trivial⟩
theorem fl_X0_30 : qFl RX0 30 0 6 (.array .int) true := ⟨(RX0, TX0, 15), rfl, by decide, qw_1 54 rfl rfl, by decide +kernel, rfl, fun _ => Or.inr trivial⟩
theorem fl_X0_33 : qFl RX0 33 0 7 (.array .int) true := ⟨(RX0, TX0, 15), rfl, by decide, qw_1 55 rfl rfl, by decide +kernel, rfl, fun _ => Or.inr trivial⟩
theorem fl_X0_36 : qFl RX0 36 0 8 (.array .int) true := ⟨(RX0, TX0, 15), rfl, by decide, qw_1 56 rfl rfl, by decide +kernel, rfl, fun _ => Or.inr trivial⟩
theorem fl_X0_39 : qFl RX0 39 0 9 (.array .int) true := ⟨(RX0, TX0, 15), rfl, by decide, qw_1 57 rfl rfl, by decide +kernel, rfl, fun _ => Or.inr trivial⟩
theorem fl_X0_42 : qFl RX0 42 0 10 (.array .int) true := ⟨(RX0, TX0, 15), rfl, by decide, qw_1 58 rfl rfl, by decide +kernel, rfl, fun _ => Or.inr trivial⟩
theorem fl_X0_45 : qFl RX0 45 0 12 .int false := ⟨(RX0, TX0, 15), rfl, by decide, qw_1 60 rfl rfl, by decide +kernel, rfl, fun _ => Or.inr trivial⟩
theorem fl_X0_49 : qFl RX0 49 0 11 .int false := ⟨(RX0, TX0, 15), rfl, by decide, qw_1 59 rfl rfl, by decide +kernel, rfl, fun _ => Or.inr trivial⟩
theorem fl_X0_52 : qFl RX0 52 0 13 .int false := ⟨(RX0, TX0, 15), rfl, by decide, qw_1 65 rfl rfl, by decide +kernel, rfl, fun _ => Or.inr trivial⟩
theorem fl_X0_55 : qFl RX0 55 0 14 .int false := ⟨(RX0, TX0, 15), rfl, by decide, qw_1 68 rfl rfl, by decide +kernel, rfl, fun _ => Or.inr trivial⟩
theorem fl_X1_11 : qFl RX1 11 1 0 (.array .int) true := ⟨(RX1, TX1, 3), rfl, by decide, qw_1 109 rfl rfl, by decide +kernel, rfl, fun _ => Or.inr trivial⟩
theorem fl_X1_15 : qFl RX1 15 1 1 (.array .int) true := ⟨(RX1, TX1, 3), rfl, by decide, qw_1 110 rfl rfl, by decide +kernel, rfl, fun _ => Or.inr trivial⟩
theorem fl_X1_18 : qFl RX1 18 1 2 .int false := ⟨(RX1, TX1, 3), rfl, by decide, qw_1 111 rfl rfl, by decide +kernel, rfl, fun _ => Or.inr trivial⟩
theorem fl_X2_15 : qFl RX2 15 2 0 (.array .long) true := ⟨(RX2, TX2, 3), rfl, by decide, qw_2 103 rfl rfl, by decide +kernel, rfl, fun _ => Or.inr trivial⟩
theorem fl_X2_19 : qFl RX2 19 2 1 (.array .long) true := ⟨(RX2, TX2, 3), rfl, by decide, qw_2 104 rfl rfl, by decide +kernel, rfl, fun _ => Or.inr trivial⟩
theorem fl_X2_22 : qFl RX2 22 2 2 (.array .int) true := ⟨(RX2, TX2, 3), rfl, by decide, qw_2 105 rfl rfl, by decide +kernel, rfl, fun _ => Or.inr trivial⟩
theorem fl_X3_15 : qFl RX3 15 3 1 .int false := ⟨(RX3, TX3, 2), rfl, by decide, qw_1 128 rfl rfl, by decide +kernel, rfl, fun _ => Or.inr trivial⟩
theorem fl_X3_11 : qFl RX3 11 3 0 (.array .int) true := ⟨(RX3, TX3, 2), rfl, by decide, qw_1 127 rfl rfl, by decide +kernel, rfl, fun _ => Or.inr trivial⟩
theorem fl_X2_30 : qFl RX2 30 3 1 .int false := ⟨(RX3, TX3, 2), rfl, by decide, qw_1 129 rfl rfl, by decide +kernel, rfl, fun _ => Or.inr trivial⟩
theorem fl_X2_59 : qFl RX2 59 0 12 .int false := ⟨(RX0, TX0, 15), rfl, by decide, qw_1 63 rfl rfl, by decide +kernel, rfl, fun _ => Or.inr trivial⟩
theorem fl_X4_11 : qFl RX4 11 4 0 (.array .int) true := ⟨(RX4, TX4, 7), rfl, by decide, qw_2 74 rfl rfl, by decide +kernel, rfl, fun _ => Or.inr trivial⟩
theorem fl_X4_15 : qFl RX4 15 4 1 (.array .int) true := ⟨(RX4, TX4, 7), rfl, by decide, qw_2 75 rfl rfl, by decide +kernel, rfl, fun _ => Or.inr trivial⟩
theorem fl_X4_18 : qFl RX4 18 4 2 (.array .int) true := ⟨(RX4, TX4, 7), rfl, by decide, qw_2 76 rfl rfl, by decide +kernel, rfl, fun _ => Or.inr trivial⟩
theorem fl_X4_21 : qFl RX4 21 4 3 (.array .int) true := ⟨(RX4, TX4, 7), rfl, by decide, qw_2 77 rfl rfl, by decide +kernel, rfl, fun _ => Or.inr trivial⟩
theorem fl_X4_28 : qFl RX4 28 4 4 .int false := ⟨(RX4, TX4, 7), rfl, by decide, qw_2 78 rfl rfl, by decide +kernel, rfl, fun _ => Or.inr trivial⟩
theorem fl_X4_32 : qFl RX4 32 4 5 .int false := ⟨(RX4, TX4, 7), rfl, by decide, qw_2 79 rfl rfl, by decide +kernel, rfl, fun _ => Or.inr trivial⟩
theorem fl_X4_68 : qFl RX4 68 4 6 .int false := ⟨(RX4, TX4, 7), rfl, by decide, qw_2 80 rfl rfl, by decide +kernel, rfl, fun _ => Or.inr trivial⟩
theorem fl_X5_11 : qFl RX5 11 5 0 (.array .long) true := ⟨(RX5, TX5, 4), rfl, by decide, qw_2 53 rfl rfl, by decide +kernel, rfl, fun _ => Or.inr trivial⟩
theorem fl_X5_17 : qFl RX5 17 5 1 (.array .long) true := ⟨(RX5, TX5, 4), rfl, by decide, qw_2 54 rfl rfl, by decide +kernel, rfl, fun _ => Or.inr trivial⟩
theorem fl_X5_20 : qFl RX5 20 5 3 .long false := ⟨(RX5, TX5, 4), rfl, by decide, qw_2 57 rfl rfl, by decide +kernel, rfl, fun _ => Or.inr trivial⟩
theorem fl_X5_57 : qFl RX5 57 0 12 .int false := ⟨(RX0, TX0, 15), rfl, by decide, qw_1 62 rfl rfl, by decide +kernel, rfl, fun _ => Or.inr trivial⟩
theorem fl_X5_80 : qFl RX5 80 5 2 .long false := ⟨(RX5, TX5, 4), rfl, by decide, qw_2 55 rfl rfl, by decide +kernel, rfl, fun _ => Or.inr trivial⟩
theorem fl_X6_13 : qFl RX6 13 6 0 (.array .int) true := ⟨(RX6, TX6, 7), rfl, by decide, qw_2 24 rfl rfl, by decide +kernel, rfl, fun _ => Or.inr trivial⟩
theorem fl_X6_17 : qFl RX6 17 6 1 (.array .int) true := ⟨(RX6, TX6, 7), rfl, by decide, qw_2 25 rfl rfl, by decide +kernel, rfl, fun _ => Or.inr trivial⟩
theorem fl_X6_20 : qFl RX6 20 6 2 (.array .int) true := ⟨(RX6, TX6, 7), rfl, by decide, qw_2 26 rfl rfl, by decide +kernel, rfl, fun _ => Or.inr trivial⟩
theorem fl_X6_23 : qFl RX6 23 6 3 (.array .long) true := ⟨(RX6, TX6, 7), rfl, by decide, qw_2 27 rfl rfl, by decide +kernel, rfl, fun _ => Or.inr trivial⟩
theorem fl_X6_27 : qFl RX6 27 6 4 (.array .long) true := ⟨(RX6, TX6, 7), rfl, by decide, qw_2 28 rfl rfl, by decide +kernel, rfl, fun _ => Or.inr trivial⟩
theorem fl_X6_30 : qFl RX6 30 6 5 (.array .int) true := ⟨(RX6, TX6, 7), rfl, by decide, qw_2 29 rfl rfl, by decide +kernel, rfl, fun _ => Or.inr trivial⟩
theorem fl_X6_33 : qFl RX6 33 6 6 (.array .int) true := ⟨(RX6, TX6, 7), rfl, by decide, qw_2 30 rfl rfl, by decide +kernel, rfl, fun _ => Or.inr trivial⟩
theorem fl_X6_40 : qFl RX6 40 0 12 .int false := ⟨(RX0, TX0, 15), rfl, by decide, qw_1 61 rfl rfl, by decide +kernel, rfl, fun _ => Or.inr trivial⟩
theorem fl_X7_11 : qFl RX7 11 7 0 (.array .int) true := ⟨(RX7, TX7, 6), rfl, by decide, qw_1 197 rfl rfl, by decide +kernel, rfl, fun _ => Or.inr trivial⟩
theorem fl_X7_17 : qFl RX7 17 7 1 (.array .int) true := ⟨(RX7, TX7, 6), rfl, by decide, qw_1 198 rfl rfl, by decide +kernel, rfl, fun _ => Or.inr trivial⟩
theorem fl_X7_20 : qFl RX7 20 7 2 (.array .int) true := ⟨(RX7, TX7, 6), rfl, by decide, qw_1 199 rfl rfl, by decide +kernel, rfl, fun _ => Or.inr trivial⟩
theorem fl_X9_51 : qFl RX9 51 9 6 .int false := ⟨(RX9, TX9, 9), rfl, by decide, qw_1 165 rfl rfl, by decide +kernel, rfl, fun _ => Or.inr trivial⟩
theorem fl_X9_11 : qFl RX9 11 9 0 (.array .byte) true := ⟨(RX9, TX9, 9), rfl, by decide, qw_1 158 rfl rfl, by decide +kernel, rfl, fun _ => Or.inr trivial⟩
theorem fl_X7_53 : qFl RX7 53 9 6 .int false := ⟨(RX9, TX9, 9), rfl, by decide, qw_1 166 rfl rfl, by decide +kernel, rfl, fun _ => Or.inr trivial⟩
theorem fl_X7_124 : qFl RX7 124 7 3 .int false := ⟨(RX7, TX7, 6), rfl, by decide, qw_1 200 rfl rfl, by decide +kernel, rfl, fun _ => Or.inr trivial⟩
theorem fl_X7_23 : qFl RX7 23 7 4 .int false := ⟨(RX7, TX7, 6), rfl, by decide, qw_1 201 rfl rfl, by decide +kernel, rfl, fun _ => Or.inr trivial⟩
theorem fl_X7_27 : qFl RX7 27 7 5 .int false := ⟨(RX7, TX7, 6), rfl, by decide, qw_1 203 rfl rfl, by decide +kernel, rfl, fun _ => Or.inr trivial⟩
theorem fl_X9_15 : qFl RX9 15 9 1 (.array .int) true := ⟨(RX9, TX9, 9), rfl, by decide, qw_1 159 rfl rfl, by decide +kernel, rfl, fun _ => Or.inr trivial⟩
theorem fl_X9_21 : qFl RX9 21 9 2 (.array (.object "CellarPrompter$Book")) true := ⟨(RX9, TX9, 9), rfl, by decide, qw_1 160 rfl rfl, by decide +kernel, rfl, fun _ => Or.inr trivial⟩
theorem fl_X7_244 : qFl RX7 244 0 13 .int false := ⟨(RX0, TX0, 15), rfl, by decide, qw_1 67 rfl rfl, by decide +kernel, rfl, fun _ => Or.inr trivial⟩
theorem fl_X7_246 : qFl RX7 246 0 14 .int false := ⟨(RX0, TX0, 15), rfl, by decide, qw_1 70 rfl rfl, by decide +kernel, rfl, fun _ => Or.inr trivial⟩
theorem fl_X9_27 : qFl RX9 27 9 3 (.array (.object "CellarPrompter$Evening")) true := ⟨(RX9, TX9, 9), rfl, by decide, qw_1 161 rfl rfl, by decide +kernel, rfl, fun _ => Or.inr trivial⟩
theorem fl_X7_248 : qFl RX7 248 1 2 .int false := ⟨(RX1, TX1, 3), rfl, by decide, qw_1 114 rfl rfl, by decide +kernel, rfl, fun _ => Or.inr trivial⟩
theorem fl_X9_33 : qFl RX9 33 9 4 (.array (.object "CellarPrompter$Log")) true := ⟨(RX9, TX9, 9), rfl, by decide, qw_1 162 rfl rfl, by decide +kernel, rfl, fun _ => Or.inr trivial⟩
theorem fl_X7_254 : qFl RX7 254 3 1 .int false := ⟨(RX3, TX3, 2), rfl, by decide, qw_1 130 rfl rfl, by decide +kernel, rfl, fun _ => Or.inr trivial⟩
theorem fl_X9_39 : qFl RX9 39 9 5 (.array (.object "CellarPrompter$Town")) true := ⟨(RX9, TX9, 9), rfl, by decide, qw_1 163 rfl rfl, by decide +kernel, rfl, fun _ => Or.inr trivial⟩
theorem fl_X10_24 : qFl RX10 24 10 4 .int false := ⟨(RX10, TX10, 5), rfl, by decide, qw_1 145 rfl rfl, by decide +kernel, rfl, fun _ => Or.inr trivial⟩
theorem fl_X10_11 : qFl RX10 11 10 0 (.array .int) true := ⟨(RX10, TX10, 5), rfl, by decide, qw_1 141 rfl rfl, by decide +kernel, rfl, fun _ => Or.inr trivial⟩
theorem fl_X10_15 : qFl RX10 15 10 1 (.array .int) true := ⟨(RX10, TX10, 5), rfl, by decide, qw_1 142 rfl rfl, by decide +kernel, rfl, fun _ => Or.inr trivial⟩
theorem fl_X10_18 : qFl RX10 18 10 2 (.array .int) true := ⟨(RX10, TX10, 5), rfl, by decide, qw_1 143 rfl rfl, by decide +kernel, rfl, fun _ => Or.inr trivial⟩
theorem fl_X7_264 : qFl RX7 264 10 4 .int false := ⟨(RX10, TX10, 5), rfl, by decide, qw_1 146 rfl rfl, by decide +kernel, rfl, fun _ => Or.inr trivial⟩
theorem fl_X8_9 : qFl RX8 9 8 0 (.array .int) true := ⟨(RX8, TX8, 11), rfl, by decide, qw_1 224 rfl rfl, by decide +kernel, rfl, fun _ => Or.inr trivial⟩
theorem fl_X8_15 : qFl RX8 15 8 1 (.array .int) true := ⟨(RX8, TX8, 11), rfl, by decide, qw_1 225 rfl rfl, by decide +kernel, rfl, fun _ => Or.inr trivial⟩
theorem fl_X8_18 : qFl RX8 18 8 2 .int false := ⟨(RX8, TX8, 11), rfl, by decide, qw_1 226 rfl rfl, by decide +kernel, rfl, fun _ => Or.inr trivial⟩
theorem fl_X8_22 : qFl RX8 22 8 3 .int false := ⟨(RX8, TX8, 11), rfl, by decide, qw_1 227 rfl rfl, by decide +kernel, rfl, fun _ => Or.inr trivial⟩
theorem fl_X8_25 : qFl RX8 25 8 4 .int false := ⟨(RX8, TX8, 11), rfl, by decide, qw_1 228 rfl rfl, by decide +kernel, rfl, fun _ => Or.inr trivial⟩
theorem fl_X8_28 : qFl RX8 28 8 5 .int false := ⟨(RX8, TX8, 11), rfl, by decide, qw_1 229 rfl rfl, by decide +kernel, rfl, fun _ => Or.inr trivial⟩
theorem fl_X8_31 : qFl RX8 31 8 6 .int false := ⟨(RX8, TX8, 11), rfl, by decide, qw_1 230 rfl rfl, by decide +kernel, rfl, fun _ => Or.inr trivial⟩
theorem fl_X8_34 : qFl RX8 34 8 7 .int false := ⟨(RX8, TX8, 11), rfl, by decide, qw_1 231 rfl rfl, by decide +kernel, rfl, fun _ => Or.inr trivial⟩
theorem fl_X8_37 : qFl RX8 37 8 8 .int false := ⟨(RX8, TX8, 11), rfl, by decide, qw_1 232 rfl rfl, by decide +kernel, rfl, fun _ => Or.inr trivial⟩
theorem fl_X8_40 : qFl RX8 40 8 9 .int false := ⟨(RX8, TX8, 11), rfl, by decide, qw_1 233 rfl rfl, by decide +kernel, rfl, fun _ => Or.inr trivial⟩
theorem fl_X8_145 : qFl RX8 145 0 14 .int false := ⟨(RX0, TX0, 15), rfl, by decide, qw_1 69 rfl rfl, by decide +kernel, rfl, fun _ => Or.inr trivial⟩
theorem fl_X8_59 : qFl RX8 59 1 2 .int false := ⟨(RX1, TX1, 3), rfl, by decide, qw_1 112 rfl rfl, by decide +kernel, rfl, fun _ => Or.inr trivial⟩
theorem fl_X8_111 : qFl RX8 111 0 13 .int false := ⟨(RX0, TX0, 15), rfl, by decide, qw_1 66 rfl rfl, by decide +kernel, rfl, fun _ => Or.inr trivial⟩
theorem fl_X8_76 : qFl RX8 76 8 10 .int false := ⟨(RX8, TX8, 11), rfl, by decide, qw_1 234 rfl rfl, by decide +kernel, rfl, fun _ => Or.inr trivial⟩
theorem fl_X10_21 : qFl RX10 21 10 3 (.array .int) true := ⟨(RX10, TX10, 5), rfl, by decide, qw_1 144 rfl rfl, by decide +kernel, rfl, fun _ => Or.inr trivial⟩
theorem fl_X9_43 : qFl RX9 43 9 8 .int false := ⟨(RX9, TX9, 9), rfl, by decide, qw_1 169 rfl rfl, by decide +kernel, rfl, fun _ => Or.inr trivial⟩
theorem fl_X9_60 : qFl RX9 60 9 7 .int false := ⟨(RX9, TX9, 9), rfl, by decide, qw_1 168 rfl rfl, by decide +kernel, rfl, fun _ => Or.inr trivial⟩
theorem fl_X11_10 : qFl RX11 10 11 0 (.object "CellarPrompter$Told") true := ⟨(RX11, TX11, 8), rfl, by decide, qw_2 113 rfl rfl, by decide +kernel, rfl, fun _ => Or.inr trivial⟩
theorem fl_X11_16 : qFl RX11 16 11 1 (.array (.object "CellarPrompter$Told")) true := ⟨(RX11, TX11, 8), rfl, by decide, qw_2 114 rfl rfl, by decide +kernel, rfl, fun _ => Or.inr trivial⟩
theorem fl_X11_23 : qFl RX11 23 11 2 (.object "CellarPrompter$Reader") true := ⟨(RX11, TX11, 8), rfl, by decide, qw_2 115 rfl rfl, by decide +kernel, rfl, fun _ => Or.inr trivial⟩
theorem fl_X11_30 : qFl RX11 30 11 3 (.object "CellarPrompter$Stage") true := ⟨(RX11, TX11, 8), rfl, by decide, qw_2 116 rfl rfl, by decide +kernel, rfl, fun _ => Or.inr trivial⟩
theorem fl_X11_37 : qFl RX11 37 11 4 (.object "CellarPrompter$Paths") true := ⟨(RX11, TX11, 8), rfl, by decide, qw_2 117 rfl rfl, by decide +kernel, rfl, fun _ => Or.inr trivial⟩
theorem fl_X11_44 : qFl RX11 44 11 5 (.object "CellarPrompter$Odds") true := ⟨(RX11, TX11, 8), rfl, by decide, qw_2 118 rfl rfl, by decide +kernel, rfl, fun _ => Or.inr trivial⟩
theorem fl_X11_51 : qFl RX11 51 11 6 (.object "CellarPrompter$Merger") true := ⟨(RX11, TX11, 8), rfl, by decide, qw_2 119 rfl rfl, by decide +kernel, rfl, fun _ => Or.inr trivial⟩
theorem fl_X11_58 : qFl RX11 58 11 7 (.object "CellarPrompter$Fitting") true := ⟨(RX11, TX11, 8), rfl, by decide, qw_2 120 rfl rfl, by decide +kernel, rfl, fun _ => Or.inr trivial⟩
theorem fl_X11_62 : qFl RX11 62 9 6 .int false := ⟨(RX9, TX9, 9), rfl, by decide, qw_1 164 rfl rfl, by decide +kernel, rfl, fun _ => Or.inr trivial⟩
theorem fl_X11_84 : qFl RX11 84 7 4 .int false := ⟨(RX7, TX7, 6), rfl, by decide, qw_1 202 rfl rfl, by decide +kernel, rfl, fun _ => Or.inr trivial⟩
theorem fl_X11_74 : qFl RX11 74 9 7 .int false := ⟨(RX9, TX9, 9), rfl, by decide, qw_1 167 rfl rfl, by decide +kernel, rfl, fun _ => Or.inr trivial⟩
theorem fl_X11_85 : qFl RX11 85 7 5 .int false := ⟨(RX7, TX7, 6), rfl, by decide, qw_1 204 rfl rfl, by decide +kernel, rfl, fun _ => Or.inr trivial⟩
theorem fl_X11_77 : qFl RX11 77 9 8 .int false := ⟨(RX9, TX9, 9), rfl, by decide, qw_1 170 rfl rfl, by decide +kernel, rfl, fun _ => Or.inr trivial⟩
theorem fl_X11_114 : qFl RX11 114 1 2 .int false := ⟨(RX1, TX1, 3), rfl, by decide, qw_1 113 rfl rfl, by decide +kernel, rfl, fun _ => Or.inr trivial⟩
theorem fl_X11_154 : qFl RX11 154 5 2 .long false := ⟨(RX5, TX5, 4), rfl, by decide, qw_2 56 rfl rfl, by decide +kernel, rfl, fun _ => Or.inr trivial⟩
theorem fl_X11_150 : qFl RX11 150 5 3 .long false := ⟨(RX5, TX5, 4), rfl, by decide, qw_2 58 rfl rfl, by decide +kernel, rfl, fun _ => Or.inr trivial⟩
theorem fl_X11_171 : qFl RX11 171 4 6 .int false := ⟨(RX4, TX4, 7), rfl, by decide, qw_2 81 rfl rfl, by decide +kernel, rfl, fun _ => Or.inr trivial⟩
theorem fl_X11_196 : qFl RX11 196 0 12 .int false := ⟨(RX0, TX0, 15), rfl, by decide, qw_1 64 rfl rfl, by decide +kernel, rfl, fun _ => Or.inr trivial⟩
theorem fl_X12_7 : qFl RX12 7 12 1 (.array .byte) true := ⟨(RX12, TX12, 49), rfl, by decide, qw_6 100 rfl rfl, by decide +kernel, rfl, fun _ => Or.inr trivial⟩
theorem fl_X12_13 : qFl RX12 13 12 2 (.array .int) true := ⟨(RX12, TX12, 49), rfl, by decide, qw_6 101 rfl rfl, by decide +kernel, rfl, fun _ => Or.inr trivial⟩
theorem fl_X12_17 : qFl RX12 17 12 3 (.array .int) true := ⟨(RX12, TX12, 49), rfl, by decide, qw_6 102 rfl rfl, by decide +kernel, rfl, fun _ => Or.inr trivial⟩
theorem fl_X12_20 : qFl RX12 20 12 4 (.array .int) true := ⟨(RX12, TX12, 49), rfl, by decide, qw_6 103 rfl rfl, by decide +kernel, rfl, fun _ => Or.inr trivial⟩
theorem fl_X12_23 : qFl RX12 23 12 5 (.array .int) true := ⟨(RX12, TX12, 49), rfl, by decide, qw_6 104 rfl rfl, by decide +kernel, rfl, fun _ => Or.inr trivial⟩
theorem fl_X12_26 : qFl RX12 26 12 6 (.array .int) true := ⟨(RX12, TX12, 49), rfl, by decide, qw_6 105 rfl rfl, by decide +kernel, rfl, fun _ => Or.inr trivial⟩
theorem fl_X12_29 : qFl RX12 29 12 7 (.array .int) true := ⟨(RX12, TX12, 49), rfl, by decide, qw_6 106 rfl rfl, by decide +kernel, rfl, fun _ => Or.inr trivial⟩
theorem fl_X12_32 : qFl RX12 32 12 8 (.array .int) true := ⟨(RX12, TX12, 49), rfl, by decide, qw_6 107 rfl rfl, by decide +kernel, rfl, fun _ => Or.inr trivial⟩
theorem fl_X12_35 : qFl RX12 35 12 9 (.array .int) true := ⟨(RX12, TX12, 49), rfl, by decide, qw_6 108 rfl rfl, by decide +kernel, rfl, fun _ => Or.inr trivial⟩
theorem fl_X12_38 : qFl RX12 38 12 19 (.array .int) true := ⟨(RX12, TX12, 49), rfl, by decide, qw_6 118 rfl rfl, by decide +kernel, rfl, fun _ => Or.inr trivial⟩
theorem fl_X12_41 : qFl RX12 41 12 20 (.array .int) true := ⟨(RX12, TX12, 49), rfl, by decide, qw_6 119 rfl rfl, by decide +kernel, rfl, fun _ => Or.inr trivial⟩
theorem fl_X12_44 : qFl RX12 44 12 25 (.array .int) true := ⟨(RX12, TX12, 49), rfl, by decide, qw_6 124 rfl rfl, by decide +kernel, rfl, fun _ => Or.inr trivial⟩
theorem fl_X12_47 : qFl RX12 47 12 26 (.array .int) true := ⟨(RX12, TX12, 49), rfl, by decide, qw_6 125 rfl rfl, by decide +kernel, rfl, fun _ => Or.inr trivial⟩
theorem fl_X12_50 : qFl RX12 50 12 28 (.array .int) true := ⟨(RX12, TX12, 49), rfl, by decide, qw_6 127 rfl rfl, by decide +kernel, rfl, fun _ => Or.inr trivial⟩
theorem fl_X12_53 : qFl RX12 53 12 29 (.array .int) true := ⟨(RX12, TX12, 49), rfl, by decide, qw_6 128 rfl rfl, by decide +kernel, rfl, fun _ => Or.inr trivial⟩
theorem fl_X12_56 : qFl RX12 56 12 30 (.array .int) true := ⟨(RX12, TX12, 49), rfl, by decide, qw_6 129 rfl rfl, by decide +kernel, rfl, fun _ => Or.inr trivial⟩
theorem fl_X12_59 : qFl RX12 59 12 31 (.array .long) true := ⟨(RX12, TX12, 49), rfl, by decide, qw_6 130 rfl rfl, by decide +kernel, rfl, fun _ => Or.inr trivial⟩
theorem fl_X12_63 : qFl RX12 63 12 32 (.array .long) true := ⟨(RX12, TX12, 49), rfl, by decide, qw_6 131 rfl rfl, by decide +kernel, rfl, fun _ => Or.inr trivial⟩
theorem fl_X12_66 : qFl RX12 66 12 34 (.array .int) true := ⟨(RX12, TX12, 49), rfl, by decide, qw_6 133 rfl rfl, by decide +kernel, rfl, fun _ => Or.inr trivial⟩
theorem fl_X12_69 : qFl RX12 69 12 35 (.array .int) true := ⟨(RX12, TX12, 49), rfl, by decide, qw_6 134 rfl rfl, by decide +kernel, rfl, fun _ => Or.inr trivial⟩
theorem fl_X12_72 : qFl RX12 72 12 38 (.array .int) true := ⟨(RX12, TX12, 49), rfl, by decide, qw_6 137 rfl rfl, by decide +kernel, rfl, fun _ => Or.inr trivial⟩
theorem fl_X12_75 : qFl RX12 75 12 40 (.array .long) true := ⟨(RX12, TX12, 49), rfl, by decide, qw_6 139 rfl rfl, by decide +kernel, rfl, fun _ => Or.inr trivial⟩
theorem fl_X12_78 : qFl RX12 78 12 41 (.array .long) true := ⟨(RX12, TX12, 49), rfl, by decide, qw_6 140 rfl rfl, by decide +kernel, rfl, fun _ => Or.inr trivial⟩
theorem fl_X12_81 : qFl RX12 81 12 42 (.array .int) true := ⟨(RX12, TX12, 49), rfl, by decide, qw_6 141 rfl rfl, by decide +kernel, rfl, fun _ => Or.inr trivial⟩
theorem fl_X12_84 : qFl RX12 84 12 47 (.array .int) true := ⟨(RX12, TX12, 49), rfl, by decide, qw_6 146 rfl rfl, by decide +kernel, rfl, fun _ => Or.inr trivial⟩
theorem fl_X12_87 : qFl RX12 87 12 48 (.array .boolean) true := ⟨(RX12, TX12, 49), rfl, by decide, qw_6 147 rfl rfl, by decide +kernel, rfl, fun _ => Or.inr trivial⟩
theorem fl_X12_91 : qFl RX12 91 12 0 .int false := ⟨(RX12, TX12, 49), rfl, by decide, qw_6 99 rfl rfl, by decide +kernel, rfl, fun _ => Or.inr trivial⟩
theorem fl_X12_115 : qFl RX12 115 12 10 .int false := ⟨(RX12, TX12, 49), rfl, by decide, qw_6 109 rfl rfl, by decide +kernel, rfl, fun _ => Or.inr trivial⟩
theorem fl_X12_118 : qFl RX12 118 12 11 .int false := ⟨(RX12, TX12, 49), rfl, by decide, qw_6 110 rfl rfl, by decide +kernel, rfl, fun _ => Or.inr trivial⟩
theorem fl_X12_125 : qFl RX12 125 12 12 .int false := ⟨(RX12, TX12, 49), rfl, by decide, qw_6 111 rfl rfl, by decide +kernel, rfl, fun _ => Or.inr trivial⟩
theorem fl_X12_128 : qFl RX12 128 12 15 .long false := ⟨(RX12, TX12, 49), rfl, by decide, qw_6 114 rfl rfl, by decide +kernel, rfl, fun _ => Or.inr trivial⟩
theorem fl_X12_132 : qFl RX12 132 12 13 .int false := ⟨(RX12, TX12, 49), rfl, by decide, qw_6 112 rfl rfl, by decide +kernel, rfl, fun _ => Or.inr trivial⟩
theorem fl_X12_135 : qFl RX12 135 12 14 .int false := ⟨(RX12, TX12, 49), rfl, by decide, qw_6 113 rfl rfl, by decide +kernel, rfl, fun _ => Or.inr trivial⟩
theorem fl_X12_138 : qFl RX12 138 12 16 .int false := ⟨(RX12, TX12, 49), rfl, by decide, qw_6 115 rfl rfl, by decide +kernel, rfl, fun _ => Or.inr trivial⟩
theorem fl_X12_141 : qFl RX12 141 12 17 .int false := ⟨(RX12, TX12, 49), rfl, by decide, qw_6 116 rfl rfl, by decide +kernel, rfl, fun _ => Or.inr trivial⟩
theorem fl_X12_144 : qFl RX12 144 12 18 .int false := ⟨(RX12, TX12, 49), rfl, by decide, qw_6 117 rfl rfl, by decide +kernel, rfl, fun _ => Or.inr trivial⟩
theorem fl_X12_155 : qFl RX12 155 12 22 .boolean false := ⟨(RX12, TX12, 49), rfl, by decide, qw_6 121 rfl rfl, by decide +kernel, rfl, fun _ => Or.inr trivial⟩
theorem fl_X12_165 : qFl RX12 165 12 21 .int false := ⟨(RX12, TX12, 49), rfl, by decide, qw_6 120 rfl rfl, by decide +kernel, rfl, fun _ => Or.inr trivial⟩
theorem fl_X12_269 : qFl RX12 269 12 23 .int false := ⟨(RX12, TX12, 49), rfl, by decide, qw_6 122 rfl rfl, by decide +kernel, rfl, fun _ => Or.inr trivial⟩
theorem fl_X12_276 : qFl RX12 276 12 24 .int false := ⟨(RX12, TX12, 49), rfl, by decide, qw_6 123 rfl rfl, by decide +kernel, rfl, fun _ => Or.inr trivial⟩
theorem fl_X12_300 : qFl RX12 300 12 27 .int false := ⟨(RX12, TX12, 49), rfl, by decide, qw_6 126 rfl rfl, by decide +kernel, rfl, fun _ => Or.inr trivial⟩
theorem fl_X12_406 : qFl RX12 406 12 33 .int false := ⟨(RX12, TX12, 49), rfl, by decide, qw_6 132 rfl rfl, by decide +kernel, rfl, fun _ => Or.inr trivial⟩
theorem fl_X12_412 : qFl RX12 412 12 36 .int false := ⟨(RX12, TX12, 49), rfl, by decide, qw_6 135 rfl rfl, by decide +kernel, rfl, fun _ => Or.inr trivial⟩
theorem fl_X12_415 : qFl RX12 415 12 37 .int false := ⟨(RX12, TX12, 49), rfl, by decide, qw_6 136 rfl rfl, by decide +kernel, rfl, fun _ => Or.inr trivial⟩
theorem fl_X12_428 : qFl RX12 428 12 39 .int false := ⟨(RX12, TX12, 49), rfl, by decide, qw_6 138 rfl rfl, by decide +kernel, rfl, fun _ => Or.inr trivial⟩
theorem fl_X12_449 : qFl RX12 449 12 43 .long false := ⟨(RX12, TX12, 49), rfl, by decide, qw_6 142 rfl rfl, by decide +kernel, rfl, fun _ => Or.inr trivial⟩
theorem fl_X12_470 : qFl RX12 470 12 44 .int false := ⟨(RX12, TX12, 49), rfl, by decide, qw_6 143 rfl rfl, by decide +kernel, rfl, fun _ => Or.inr trivial⟩
theorem fl_X12_479 : qFl RX12 479 12 45 .int false := ⟨(RX12, TX12, 49), rfl, by decide, qw_6 144 rfl rfl, by decide +kernel, rfl, fun _ => Or.inr trivial⟩
theorem fl_X12_509 : qFl RX12 509 12 46 .int false := ⟨(RX12, TX12, 49), rfl, by decide, qw_6 145 rfl rfl, by decide +kernel, rfl, fun _ => Or.inr trivial⟩
theorem lt_bipush_10 : (Int8.ofInt (10)).toInt32 = (10 : Int32) := by decide +kernel
theorem lt_bipush_100 : (Int8.ofInt (100)).toInt32 = (100 : Int32) := by decide +kernel
theorem lt_bipush_104 : (Int8.ofInt (104)).toInt32 = (104 : Int32) := by decide +kernel
theorem lt_bipush_105 : (Int8.ofInt (105)).toInt32 = (105 : Int32) := by decide +kernel
theorem lt_bipush_106 : (Int8.ofInt (106)).toInt32 = (106 : Int32) := by decide +kernel
theorem lt_bipush_112 : (Int8.ofInt (112)).toInt32 = (112 : Int32) := by decide +kernel
theorem lt_bipush_12 : (Int8.ofInt (12)).toInt32 = (12 : Int32) := by decide +kernel
theorem lt_bipush_122 : (Int8.ofInt (122)).toInt32 = (122 : Int32) := by decide +kernel
theorem lt_bipush_13 : (Int8.ofInt (13)).toInt32 = (13 : Int32) := by decide +kernel
theorem lt_bipush_14 : (Int8.ofInt (14)).toInt32 = (14 : Int32) := by decide +kernel
theorem lt_bipush_15 : (Int8.ofInt (15)).toInt32 = (15 : Int32) := by decide +kernel
theorem lt_bipush_16 : (Int8.ofInt (16)).toInt32 = (16 : Int32) := by decide +kernel
theorem lt_bipush_18 : (Int8.ofInt (18)).toInt32 = (18 : Int32) := by decide +kernel
theorem lt_bipush_19 : (Int8.ofInt (19)).toInt32 = (19 : Int32) := by decide +kernel
theorem lt_bipush_20 : (Int8.ofInt (20)).toInt32 = (20 : Int32) := by decide +kernel
theorem lt_bipush_24 : (Int8.ofInt (24)).toInt32 = (24 : Int32) := by decide +kernel
theorem lt_bipush_26 : (Int8.ofInt (26)).toInt32 = (26 : Int32) := by decide +kernel
theorem lt_bipush_27 : (Int8.ofInt (27)).toInt32 = (27 : Int32) := by decide +kernel
theorem lt_bipush_29 : (Int8.ofInt (29)).toInt32 = (29 : Int32) := by decide +kernel
theorem lt_bipush_30 : (Int8.ofInt (30)).toInt32 = (30 : Int32) := by decide +kernel
theorem lt_bipush_31 : (Int8.ofInt (31)).toInt32 = (31 : Int32) := by decide +kernel
theorem lt_bipush_32 : (Int8.ofInt (32)).toInt32 = (32 : Int32) := by decide +kernel
theorem lt_bipush_40 : (Int8.ofInt (40)).toInt32 = (40 : Int32) := by decide +kernel
theorem lt_bipush_44 : (Int8.ofInt (44)).toInt32 = (44 : Int32) := by decide +kernel
theorem lt_bipush_48 : (Int8.ofInt (48)).toInt32 = (48 : Int32) := by decide +kernel
theorem lt_bipush_49 : (Int8.ofInt (49)).toInt32 = (49 : Int32) := by decide +kernel
theorem lt_bipush_50 : (Int8.ofInt (50)).toInt32 = (50 : Int32) := by decide +kernel
theorem lt_bipush_54 : (Int8.ofInt (54)).toInt32 = (54 : Int32) := by decide +kernel
theorem lt_bipush_57 : (Int8.ofInt (57)).toInt32 = (57 : Int32) := by decide +kernel
theorem lt_bipush_59 : (Int8.ofInt (59)).toInt32 = (59 : Int32) := by decide +kernel
theorem lt_bipush_6 : (Int8.ofInt (6)).toInt32 = (6 : Int32) := by decide +kernel
theorem lt_bipush_60 : (Int8.ofInt (60)).toInt32 = (60 : Int32) := by decide +kernel
theorem lt_bipush_63 : (Int8.ofInt (63)).toInt32 = (63 : Int32) := by decide +kernel
theorem lt_bipush_64 : (Int8.ofInt (64)).toInt32 = (64 : Int32) := by decide +kernel
theorem lt_bipush_7 : (Int8.ofInt (7)).toInt32 = (7 : Int32) := by decide +kernel
theorem lt_bipush_8 : (Int8.ofInt (8)).toInt32 = (8 : Int32) := by decide +kernel
theorem lt_bipush_80 : (Int8.ofInt (80)).toInt32 = (80 : Int32) := by decide +kernel
theorem lt_bipush_81 : (Int8.ofInt (81)).toInt32 = (81 : Int32) := by decide +kernel
theorem lt_bipush_84 : (Int8.ofInt (84)).toInt32 = (84 : Int32) := by decide +kernel
theorem lt_bipush_9 : (Int8.ofInt (9)).toInt32 = (9 : Int32) := by decide +kernel
theorem lt_bipush_92 : (Int8.ofInt (92)).toInt32 = (92 : Int32) := by decide +kernel
theorem lt_bipush_97 : (Int8.ofInt (97)).toInt32 = (97 : Int32) := by decide +kernel
theorem lt_bipush_m2 : (Int8.ofInt (-2)).toInt32 = (-2 : Int32) := by decide +kernel
theorem lt_iconst_0 : Int32.ofInt (0) = (0 : Int32) := by decide +kernel
theorem lt_iconst_1 : Int32.ofInt (1) = (1 : Int32) := by decide +kernel
theorem lt_iconst_2 : Int32.ofInt (2) = (2 : Int32) := by decide +kernel
theorem lt_iconst_3 : Int32.ofInt (3) = (3 : Int32) := by decide +kernel
theorem lt_iconst_4 : Int32.ofInt (4) = (4 : Int32) := by decide +kernel
theorem lt_iconst_5 : Int32.ofInt (5) = (5 : Int32) := by decide +kernel
theorem lt_iconst_6 : Int32.ofInt (6) = (6 : Int32) := by decide +kernel
theorem lt_iconst_m1 : Int32.ofInt (-1) = (-1 : Int32) := by decide +kernel
theorem lt_iconst_m8 : Int32.ofInt (-8) = (-8 : Int32) := by decide +kernel
theorem lt_sipush_12345 : (Int16.ofInt (12345)).toInt32 = (12345 : Int32) := by decide +kernel
theorem lt_sipush_162 : (Int16.ofInt (162)).toInt32 = (162 : Int32) := by decide +kernel
theorem lt_sipush_169 : (Int16.ofInt (169)).toInt32 = (169 : Int32) := by decide +kernel
theorem lt_sipush_200 : (Int16.ofInt (200)).toInt32 = (200 : Int32) := by decide +kernel
theorem lt_sipush_216 : (Int16.ofInt (216)).toInt32 = (216 : Int32) := by decide +kernel
theorem lt_sipush_224 : (Int16.ofInt (224)).toInt32 = (224 : Int32) := by decide +kernel
theorem lt_sipush_240 : (Int16.ofInt (240)).toInt32 = (240 : Int32) := by decide +kernel
theorem lt_sipush_2400 : (Int16.ofInt (2400)).toInt32 = (2400 : Int32) := by decide +kernel
theorem lt_sipush_255 : (Int16.ofInt (255)).toInt32 = (255 : Int32) := by decide +kernel
theorem lt_sipush_400 : (Int16.ofInt (400)).toInt32 = (400 : Int32) := by decide +kernel
theorem lt_sipush_4000 : (Int16.ofInt (4000)).toInt32 = (4000 : Int32) := by decide +kernel
theorem lt_sipush_420 : (Int16.ofInt (420)).toInt32 = (420 : Int32) := by decide +kernel
theorem lt_sipush_600 : (Int16.ofInt (600)).toInt32 = (600 : Int32) := by decide +kernel
theorem lt_sipush_601 : (Int16.ofInt (601)).toInt32 = (601 : Int32) := by decide +kernel
theorem lt_sipush_648 : (Int16.ofInt (648)).toInt32 = (648 : Int32) := by decide +kernel
theorem lt_sipush_699 : (Int16.ofInt (699)).toInt32 = (699 : Int32) := by decide +kernel
theorem lt_sipush_896 : (Int16.ofInt (896)).toInt32 = (896 : Int32) := by decide +kernel
def df_X0 : List Value := [.null, .null, .null, .null, .null, .null, .null, .null, .null, .null, .null, .int 0, .int 0, .int 0, .int 0]
theorem df_X0_ok : ∀ j, j < 15 → defaultValue (tyX0 j) = vp_V df_X0 j := by decide +kernel
def df_X1 : List Value := [.null, .null, .int 0]
theorem df_X1_ok : ∀ j, j < 3 → defaultValue (tyX1 j) = vp_V df_X1 j := by decide +kernel
def df_X10 : List Value := [.null, .null, .null, .null, .int 0]
theorem df_X10_ok : ∀ j, j < 5 → defaultValue (tyX10 j) = vp_V df_X10 j := by decide +kernel
def df_X11 : List Value := [.null, .null, .null, .null, .null, .null, .null, .null]
theorem df_X11_ok : ∀ j, j < 8 → defaultValue (tyX11 j) = vp_V df_X11 j := by decide +kernel
def df_X12 : List Value := [.int 0, .null, .null, .null, .null, .null, .null, .null, .null, .null, .int 0, .int 0, .int 0, .int 0, .int 0, .long 0, .int 0, .int 0, .int 0, .null, .null, .int 0, .int 0, .int 0, .int 0, .null, .null, .int 0, .null, .null, .null, .null, .null, .int 0, .null, .null, .int 0, .int 0, .null, .int 0, .null, .null, .null, .long 0, .int 0, .int 0, .int 0, .null, .null]
theorem df_X12_ok : ∀ j, j < 49 → defaultValue (tyX12 j) = vp_V df_X12 j := by decide +kernel
def df_X2 : List Value := [.null, .null, .null]
theorem df_X2_ok : ∀ j, j < 3 → defaultValue (tyX2 j) = vp_V df_X2 j := by decide +kernel
def df_X3 : List Value := [.null, .int 0]
theorem df_X3_ok : ∀ j, j < 2 → defaultValue (tyX3 j) = vp_V df_X3 j := by decide +kernel
def df_X4 : List Value := [.null, .null, .null, .null, .int 0, .int 0, .int 0]
theorem df_X4_ok : ∀ j, j < 7 → defaultValue (tyX4 j) = vp_V df_X4 j := by decide +kernel
def df_X5 : List Value := [.null, .null, .long 0, .long 0]
theorem df_X5_ok : ∀ j, j < 4 → defaultValue (tyX5 j) = vp_V df_X5 j := by decide +kernel
def df_X6 : List Value := [.null, .null, .null, .null, .null, .null, .null]
theorem df_X6_ok : ∀ j, j < 7 → defaultValue (tyX6 j) = vp_V df_X6 j := by decide +kernel
def df_X7 : List Value := [.null, .null, .null, .int 0, .int 0, .int 0]
theorem df_X7_ok : ∀ j, j < 6 → defaultValue (tyX7 j) = vp_V df_X7 j := by decide +kernel
def df_X8 : List Value := [.null, .null, .int 0, .int 0, .int 0, .int 0, .int 0, .int 0, .int 0, .int 0, .int 0]
theorem df_X8_ok : ∀ j, j < 11 → defaultValue (tyX8 j) = vp_V df_X8 j := by decide +kernel
def df_X9 : List Value := [.null, .null, .null, .null, .null, .null, .int 0, .int 0, .int 0]
theorem df_X9_ok : ∀ j, j < 9 → defaultValue (tyX9 j) = vp_V df_X9 j := by decide +kernel
