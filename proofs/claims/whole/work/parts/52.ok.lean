/-! 52.ok: every method of the table is as the small machine takes it (written by gen2.py) -/
set_option maxRecDepth 100000 in
theorem ok_0 : ma_okM CLS PP mm0 = true := by decide +kernel
set_option maxRecDepth 100000 in
theorem ok_1 : ma_okM CLS PP mm1 = true := by decide +kernel
set_option maxRecDepth 100000 in
theorem ok_2 : ma_okM CLS PP mm2 = true := by decide +kernel
set_option maxRecDepth 100000 in
theorem ok_3 : ma_okM CLS PP mm3 = true := by decide +kernel
set_option maxRecDepth 100000 in
theorem ok_4 : ma_okM CLS PP mm4 = true := by decide +kernel
set_option maxRecDepth 100000 in
theorem ok_5 : ma_okM CLS PP mm5 = true := by decide +kernel
set_option maxRecDepth 100000 in
theorem ok_6 : ma_okM CLS PP mm6 = true := by decide +kernel
set_option maxRecDepth 100000 in
theorem ok_7 : ma_okM CLS PP mm7 = true := by decide +kernel
set_option maxRecDepth 100000 in
theorem ok_8 : ma_okM CLS PP mm8 = true := by decide +kernel
set_option maxRecDepth 100000 in
theorem ok_9 : ma_okM CLS PP mm9 = true := by decide +kernel
set_option maxRecDepth 100000 in
theorem ok_10 : ma_okM CLS PP mm10 = true := by decide +kernel
set_option maxRecDepth 100000 in
theorem ok_11 : ma_okM CLS PP mm11 = true := by decide +kernel
set_option maxRecDepth 100000 in
theorem ok_12 : ma_okM CLS PP mm12 = true := by decide +kernel
set_option maxRecDepth 100000 in
theorem ok_13 : ma_okM CLS PP mm13 = true := by decide +kernel
set_option maxRecDepth 100000 in
theorem ok_14 : ma_okM CLS PP mm14 = true := by decide +kernel
set_option maxRecDepth 100000 in
theorem ok_15 : ma_okM CLS PP mm15 = true := by decide +kernel
set_option maxRecDepth 100000 in
theorem ok_16 : ma_okM CLS PP mm16 = true := by decide +kernel
set_option maxRecDepth 100000 in
theorem ok_17 : ma_okM CLS PP mm17 = true := by decide +kernel
set_option maxRecDepth 100000 in
theorem ok_18 : ma_okM CLS PP mm18 = true := by decide +kernel
set_option maxRecDepth 100000 in
theorem ok_19 : ma_okM CLS PP mm19 = true := by decide +kernel
set_option maxRecDepth 100000 in
theorem ok_20 : ma_okM CLS PP mm20 = true := by decide +kernel
set_option maxRecDepth 100000 in
theorem ok_21 : ma_okM CLS PP mm21 = true := by decide +kernel
set_option maxRecDepth 100000 in
theorem ok_22 : ma_okM CLS PP mm22 = true := by decide +kernel
set_option maxRecDepth 100000 in
theorem ok_23 : ma_okM CLS PP mm23 = true := by decide +kernel
set_option maxRecDepth 100000 in
theorem ok_24 : ma_okM CLS PP mm24 = true := by decide +kernel
set_option maxRecDepth 100000 in
theorem ok_25 : ma_okM CLS PP mm25 = true := by decide +kernel
set_option maxRecDepth 100000 in
theorem ok_26 : ma_okM CLS PP mm26 = true := by decide +kernel
set_option maxRecDepth 100000 in
theorem ok_27 : ma_okM CLS PP mm27 = true := by decide +kernel
set_option maxRecDepth 100000 in
theorem ok_28 : ma_okM CLS PP mm28 = true := by decide +kernel
set_option maxRecDepth 100000 in
theorem ok_29 : ma_okM CLS PP mm29 = true := by decide +kernel
set_option maxRecDepth 100000 in
theorem ok_30 : ma_okM CLS PP mm30 = true := by decide +kernel
set_option maxRecDepth 100000 in
theorem ok_31 : ma_okM CLS PP mm31 = true := by decide +kernel
set_option maxRecDepth 100000 in
theorem ok_32 : ma_okM CLS PP mm32 = true := by decide +kernel
set_option maxRecDepth 100000 in
theorem ok_33 : ma_okM CLS PP mm33 = true := by decide +kernel
set_option maxRecDepth 100000 in
theorem ok_34 : ma_okM CLS PP mm34 = true := by decide +kernel
set_option maxRecDepth 100000 in
theorem ok_35 : ma_okM CLS PP mm35 = true := by decide +kernel
set_option maxRecDepth 100000 in
theorem ok_36 : ma_okM CLS PP mm36 = true := by decide +kernel
set_option maxRecDepth 100000 in
theorem ok_37 : ma_okM CLS PP mm37 = true := by decide +kernel
set_option maxRecDepth 100000 in
theorem ok_38 : ma_okM CLS PP mm38 = true := by decide +kernel
set_option maxRecDepth 100000 in
theorem ok_39 : ma_okM CLS PP mm39 = true := by decide +kernel
set_option maxRecDepth 100000 in
theorem ok_40 : ma_okM CLS PP mm40 = true := by decide +kernel
set_option maxRecDepth 100000 in
theorem ok_41 : ma_okM CLS PP mm41 = true := by decide +kernel
set_option maxRecDepth 100000 in
theorem ok_42 : ma_okM CLS PP mm42 = true := by decide +kernel
set_option maxRecDepth 100000 in
theorem ok_43 : ma_okM CLS PP mm43 = true := by decide +kernel
set_option maxRecDepth 100000 in
theorem ok_44 : ma_okM CLS PP mm44 = true := by decide +kernel
set_option maxRecDepth 100000 in
theorem ok_45 : ma_okM CLS PP mm45 = true := by decide +kernel
set_option maxRecDepth 100000 in
theorem ok_46 : ma_okM CLS PP mm46 = true := by decide +kernel
set_option maxRecDepth 100000 in
theorem ok_47 : ma_okM CLS PP mm47 = true := by decide +kernel
set_option maxRecDepth 100000 in
theorem ok_48 : ma_okM CLS PP mm48 = true := by decide +kernel
set_option maxRecDepth 100000 in
theorem ok_49 : ma_okM CLS PP mm49 = true := by decide +kernel
set_option maxRecDepth 100000 in
theorem ok_50 : ma_okM CLS PP mm50 = true := by decide +kernel
set_option maxRecDepth 100000 in
theorem ok_51 : ma_okM CLS PP mm51 = true := by decide +kernel
set_option maxRecDepth 100000 in
theorem ok_52 : ma_okM CLS PP mm52 = true := by decide +kernel
set_option maxRecDepth 100000 in
theorem ok_53 : ma_okM CLS PP mm53 = true := by decide +kernel
set_option maxRecDepth 100000 in
theorem ok_54 : ma_okM CLS PP mm54 = true := by decide +kernel
set_option maxRecDepth 100000 in
theorem ok_55 : ma_okM CLS PP mm55 = true := by decide +kernel
set_option maxRecDepth 100000 in
theorem ok_56 : ma_okM CLS PP mm56 = true := by decide +kernel
set_option maxRecDepth 100000 in
theorem ok_57 : ma_okM CLS PP mm57 = true := by decide +kernel
set_option maxRecDepth 100000 in
theorem ok_58 : ma_okM CLS PP mm58 = true := by decide +kernel
set_option maxRecDepth 100000 in
theorem ok_59 : ma_okM CLS PP mm59 = true := by decide +kernel
set_option maxRecDepth 100000 in
theorem ok_60 : ma_okM CLS PP mm60 = true := by decide +kernel
set_option maxRecDepth 100000 in
theorem ok_61 : ma_okM CLS PP mm61 = true := by decide +kernel
set_option maxRecDepth 100000 in
theorem ok_62 : ma_okM CLS PP mm62 = true := by decide +kernel
set_option maxRecDepth 100000 in
theorem ok_63 : ma_okM CLS PP mm63 = true := by decide +kernel
set_option maxRecDepth 100000 in
theorem ok_64 : ma_okM CLS PP mm64 = true := by decide +kernel
set_option maxRecDepth 100000 in
theorem ok_65 : ma_okM CLS PP mm65 = true := by decide +kernel
set_option maxRecDepth 100000 in
theorem ok_66 : ma_okM CLS PP mm66 = true := by decide +kernel
set_option maxRecDepth 100000 in
theorem ok_67 : ma_okM CLS PP mm67 = true := by decide +kernel
set_option maxRecDepth 100000 in
theorem ok_68 : ma_okM CLS PP mm68 = true := by decide +kernel
set_option maxRecDepth 100000 in
theorem ok_69 : ma_okM CLS PP mm69 = true := by decide +kernel
set_option maxRecDepth 100000 in
theorem ok_70 : ma_okM CLS PP mm70 = true := by decide +kernel
set_option maxRecDepth 100000 in
theorem ok_71 : ma_okM CLS PP mm71 = true := by decide +kernel
set_option maxRecDepth 100000 in
theorem ok_72 : ma_okM CLS PP mm72 = true := by decide +kernel
set_option maxRecDepth 100000 in
theorem ok_73 : ma_okM CLS PP mm73 = true := by decide +kernel
set_option maxRecDepth 100000 in
theorem ok_74 : ma_okM CLS PP mm74 = true := by decide +kernel
set_option maxRecDepth 100000 in
theorem ok_75 : ma_okM CLS PP mm75 = true := by decide +kernel
set_option maxRecDepth 100000 in
theorem ok_76 : ma_okM CLS PP mm76 = true := by decide +kernel
set_option maxRecDepth 100000 in
theorem ok_77 : ma_okM CLS PP mm77 = true := by decide +kernel
set_option maxRecDepth 100000 in
theorem ok_78 : ma_okM CLS PP mm78 = true := by decide +kernel
set_option maxRecDepth 100000 in
theorem ok_79 : ma_okM CLS PP mm79 = true := by decide +kernel
set_option maxRecDepth 100000 in
theorem ok_80 : ma_okM CLS PP mm80 = true := by decide +kernel
set_option maxRecDepth 100000 in
theorem ok_81 : ma_okM CLS PP mm81 = true := by decide +kernel
set_option maxRecDepth 100000 in
theorem ok_82 : ma_okM CLS PP mm82 = true := by decide +kernel
set_option maxRecDepth 100000 in
theorem ok_83 : ma_okM CLS PP mm83 = true := by decide +kernel
set_option maxRecDepth 100000 in
theorem ok_84 : ma_okM CLS PP mm84 = true := by decide +kernel
set_option maxRecDepth 100000 in
theorem ok_85 : ma_okM CLS PP mm85 = true := by decide +kernel
set_option maxRecDepth 100000 in
theorem ok_86 : ma_okM CLS PP mm86 = true := by decide +kernel
set_option maxRecDepth 100000 in
theorem ok_87 : ma_okM CLS PP mm87 = true := by decide +kernel
set_option maxRecDepth 100000 in
theorem ok_88 : ma_okM CLS PP mm88 = true := by decide +kernel
set_option maxRecDepth 100000 in
theorem ok_89 : ma_okM CLS PP mm89 = true := by decide +kernel
set_option maxRecDepth 100000 in
theorem ok_90 : ma_okM CLS PP mm90 = true := by decide +kernel
set_option maxRecDepth 100000 in
theorem ok_91 : ma_okM CLS PP mm91 = true := by decide +kernel
set_option maxRecDepth 100000 in
theorem ok_92 : ma_okM CLS PP mm92 = true := by decide +kernel
set_option maxRecDepth 100000 in
theorem ok_93 : ma_okM CLS PP mm93 = true := by decide +kernel
set_option maxRecDepth 100000 in
theorem ok_94 : ma_okM CLS PP mm94 = true := by decide +kernel
set_option maxRecDepth 100000 in
theorem ok_95 : ma_okM CLS PP mm95 = true := by decide +kernel
set_option maxRecDepth 100000 in
theorem ok_96 : ma_okM CLS PP mm96 = true := by decide +kernel
set_option maxRecDepth 100000 in
theorem ok_97 : ma_okM CLS PP mm97 = true := by decide +kernel
set_option maxRecDepth 100000 in
theorem ok_98 : ma_okM CLS PP mm98 = true := by decide +kernel
set_option maxRecDepth 100000 in
theorem ok_99 : ma_okM CLS PP mm99 = true := by decide +kernel
set_option maxRecDepth 100000 in
theorem ok_100 : ma_okM CLS PP mm100 = true := by decide +kernel
set_option maxRecDepth 100000 in
theorem ok_101 : ma_okM CLS PP mm101 = true := by decide +kernel
set_option maxRecDepth 100000 in
theorem ok_102 : ma_okM CLS PP mm102 = true := by decide +kernel
set_option maxRecDepth 100000 in
theorem ok_103 : ma_okM CLS PP mm103 = true := by decide +kernel
set_option maxRecDepth 100000 in
theorem ok_104 : ma_okM CLS PP mm104 = true := by decide +kernel
set_option maxRecDepth 100000 in
theorem ok_105 : ma_okM CLS PP mm105 = true := by decide +kernel
set_option maxRecDepth 100000 in
theorem ok_106 : ma_okM CLS PP mm106 = true := by decide +kernel
set_option maxRecDepth 100000 in
theorem ok_107 : ma_okM CLS PP mm107 = true := by decide +kernel
set_option maxRecDepth 100000 in
theorem ok_108 : ma_okM CLS PP mm108 = true := by decide +kernel
set_option maxRecDepth 100000 in
theorem ok_109 : ma_okM CLS PP mm109 = true := by decide +kernel
set_option maxRecDepth 100000 in
theorem ok_110 : ma_okM CLS PP mm110 = true := by decide +kernel
set_option maxRecDepth 100000 in
theorem ok_111 : ma_okM CLS PP mm111 = true := by decide +kernel
set_option maxRecDepth 100000 in
theorem ok_112 : ma_okM CLS PP mm112 = true := by decide +kernel
set_option maxRecDepth 100000 in
theorem ok_113 : ma_okM CLS PP mm113 = true := by decide +kernel
set_option maxRecDepth 100000 in
theorem ok_114 : ma_okM CLS PP mm114 = true := by decide +kernel
set_option maxRecDepth 100000 in
theorem ok_115 : ma_okM CLS PP mm115 = true := by decide +kernel
set_option maxRecDepth 100000 in
theorem ok_116 : ma_okM CLS PP mm116 = true := by decide +kernel
set_option maxRecDepth 100000 in
theorem ok_117 : ma_okM CLS PP mm117 = true := by decide +kernel
set_option maxRecDepth 100000 in
theorem ok_118 : ma_okM CLS PP mm118 = true := by decide +kernel
set_option maxRecDepth 100000 in
theorem ok_119 : ma_okM CLS PP mm119 = true := by decide +kernel
set_option maxRecDepth 100000 in
theorem ok_120 : ma_okM CLS PP mm120 = true := by decide +kernel
set_option maxRecDepth 100000 in
theorem ok_121 : ma_okM CLS PP mm121 = true := by decide +kernel
set_option maxRecDepth 100000 in
theorem ok_122 : ma_okM CLS PP mm122 = true := by decide +kernel
set_option maxRecDepth 100000 in
theorem ok_123 : ma_okM CLS PP mm123 = true := by decide +kernel
set_option maxRecDepth 100000 in
theorem ok_124 : ma_okM CLS PP mm124 = true := by decide +kernel
set_option maxRecDepth 100000 in
theorem ok_125 : ma_okM CLS PP mm125 = true := by decide +kernel
set_option maxRecDepth 100000 in
theorem ok_126 : ma_okM CLS PP mm126 = true := by decide +kernel
set_option maxRecDepth 100000 in
theorem ok_127 : ma_okM CLS PP mm127 = true := by decide +kernel
set_option maxRecDepth 100000 in
theorem ok_128 : ma_okM CLS PP mm128 = true := by decide +kernel
set_option maxRecDepth 100000 in
theorem ok_129 : ma_okM CLS PP mm129 = true := by decide +kernel
set_option maxRecDepth 100000 in
theorem ok_130 : ma_okM CLS PP mm130 = true := by decide +kernel
set_option maxRecDepth 100000 in
theorem ok_131 : ma_okM CLS PP mm131 = true := by decide +kernel
set_option maxRecDepth 100000 in
theorem ok_132 : ma_okM CLS PP mm132 = true := by decide +kernel
set_option maxRecDepth 100000 in
theorem ok_133 : ma_okM CLS PP mm133 = true := by decide +kernel
set_option maxRecDepth 100000 in
theorem ok_134 : ma_okM CLS PP mm134 = true := by decide +kernel
set_option maxRecDepth 100000 in
theorem ok_135 : ma_okM CLS PP mm135 = true := by decide +kernel
set_option maxRecDepth 100000 in
theorem ok_136 : ma_okM CLS PP mm136 = true := by decide +kernel
set_option maxRecDepth 100000 in
theorem ok_137 : ma_okM CLS PP mm137 = true := by decide +kernel
set_option maxRecDepth 100000 in
theorem ok_138 : ma_okM CLS PP mm138 = true := by decide +kernel
set_option maxRecDepth 100000 in
theorem ok_139 : ma_okM CLS PP mm139 = true := by decide +kernel
set_option maxRecDepth 100000 in
theorem ok_140 : ma_okM CLS PP mm140 = true := by decide +kernel
set_option maxRecDepth 100000 in
theorem ok_141 : ma_okM CLS PP mm141 = true := by decide +kernel
set_option maxRecDepth 100000 in
theorem ok_142 : ma_okM CLS PP mm142 = true := by decide +kernel
set_option maxRecDepth 100000 in
theorem ok_143 : ma_okM CLS PP mm143 = true := by decide +kernel
set_option maxRecDepth 100000 in
theorem ok_144 : ma_okM CLS PP mm144 = true := by decide +kernel
set_option maxRecDepth 100000 in
theorem ok_145 : ma_okM CLS PP mm145 = true := by decide +kernel
set_option maxRecDepth 100000 in
theorem ok_146 : ma_okM CLS PP mm146 = true := by decide +kernel
set_option maxRecDepth 100000 in
theorem ok_147 : ma_okM CLS PP mm147 = true := by decide +kernel
set_option maxRecDepth 100000 in
theorem ok_148 : ma_okM CLS PP mm148 = true := by decide +kernel
set_option maxRecDepth 100000 in
theorem ok_149 : ma_okM CLS PP mm149 = true := by decide +kernel
set_option maxRecDepth 100000 in
theorem ok_150 : ma_okM CLS PP mm150 = true := by decide +kernel
theorem nr_fm : (NativeRow.find? Jvm.natives "java/lang/Math" "floorMod" "(II)I").isNone = true := by decide +kernel
theorem ok_151 : ma_okM CLS PP mm151 = true := by
  have h : plainFor mm151.1 = true := by
    unfold plainFor
    rw [show (NativeRow.find? Jvm.natives mm151.1.cls mm151.1.name mm151.1.desc).isNone = true from nr_fm, Bool.or_true]
  unfold ma_okM
  rw [h]
  decide +kernel
theorem okC : ∀ q ∈ CLS, ma_okC q = true := by decide +kernel
theorem ok_all : ∀ mt ∈ PP, ma_okM CLS PP mt = true := by
  intro mt h
  unfold PP at h
  simp only [List.mem_cons, List.not_mem_nil, or_false] at h
  rcases h with rfl | rfl | rfl | rfl | rfl | rfl | rfl | rfl | rfl | rfl | rfl | rfl | rfl | rfl | rfl | rfl | rfl | rfl | rfl | rfl | rfl | rfl | rfl | rfl | rfl | rfl | rfl | rfl | rfl | rfl | rfl | rfl | rfl | rfl | rfl | rfl | rfl | rfl | rfl | rfl | rfl | rfl | rfl | rfl | rfl | rfl | rfl | rfl | rfl | rfl | rfl | rfl | rfl | rfl | rfl | rfl | rfl | rfl | rfl | rfl | rfl | rfl | rfl | rfl | rfl | rfl | rfl | rfl | rfl | rfl | rfl | rfl | rfl | rfl | rfl | rfl | rfl | rfl | rfl | rfl | rfl | rfl | rfl | rfl | rfl | rfl | rfl | rfl | rfl | rfl | rfl | rfl | rfl | rfl | rfl | rfl | rfl | rfl | rfl | rfl | rfl | rfl | rfl | rfl | rfl | rfl | rfl | rfl | rfl | rfl | rfl | rfl | rfl | rfl | rfl | rfl | rfl | rfl | rfl | rfl | rfl | rfl | rfl | rfl | rfl | rfl | rfl | rfl | rfl | rfl | rfl | rfl | rfl | rfl | rfl | rfl | rfl | rfl | rfl | rfl | rfl | rfl | rfl | rfl | rfl | rfl | rfl | rfl | rfl | rfl | rfl | rfl
  · exact ok_0
  · exact ok_1
  · exact ok_2
  · exact ok_3
  · exact ok_4
  · exact ok_5
  · exact ok_6
  · exact ok_7
  · exact ok_8
  · exact ok_9
  · exact ok_10
  · exact ok_11
  · exact ok_12
  · exact ok_13
  · exact ok_14
  · exact ok_15
  · exact ok_16
  · exact ok_17
  · exact ok_18
  · exact ok_19
  · exact ok_20
  · exact ok_21
  · exact ok_22
  · exact ok_23
  · exact ok_24
  · exact ok_25
  · exact ok_26
  · exact ok_27
  · exact ok_28
  · exact ok_29
  · exact ok_30
  · exact ok_31
  · exact ok_32
  · exact ok_33
  · exact ok_34
  · exact ok_35
  · exact ok_36
  · exact ok_37
  · exact ok_38
  · exact ok_39
  · exact ok_40
  · exact ok_41
  · exact ok_42
  · exact ok_43
  · exact ok_44
  · exact ok_45
  · exact ok_46
  · exact ok_47
  · exact ok_48
  · exact ok_49
  · exact ok_50
  · exact ok_51
  · exact ok_52
  · exact ok_53
  · exact ok_54
  · exact ok_55
  · exact ok_56
  · exact ok_57
  · exact ok_58
  · exact ok_59
  · exact ok_60
  · exact ok_61
  · exact ok_62
  · exact ok_63
  · exact ok_64
  · exact ok_65
  · exact ok_66
  · exact ok_67
  · exact ok_68
  · exact ok_69
  · exact ok_70
  · exact ok_71
  · exact ok_72
  · exact ok_73
  · exact ok_74
  · exact ok_75
  · exact ok_76
  · exact ok_77
  · exact ok_78
  · exact ok_79
  · exact ok_80
  · exact ok_81
  · exact ok_82
  · exact ok_83
  · exact ok_84
  · exact ok_85
  · exact ok_86
  · exact ok_87
  · exact ok_88
  · exact ok_89
  · exact ok_90
  · exact ok_91
  · exact ok_92
  · exact ok_93
  · exact ok_94
  · exact ok_95
  · exact ok_96
  · exact ok_97
  · exact ok_98
  · exact ok_99
  · exact ok_100
  · exact ok_101
  · exact ok_102
  · exact ok_103
  · exact ok_104
  · exact ok_105
  · exact ok_106
  · exact ok_107
  · exact ok_108
  · exact ok_109
  · exact ok_110
  · exact ok_111
  · exact ok_112
  · exact ok_113
  · exact ok_114
  · exact ok_115
  · exact ok_116
  · exact ok_117
  · exact ok_118
  · exact ok_119
  · exact ok_120
  · exact ok_121
  · exact ok_122
  · exact ok_123
  · exact ok_124
  · exact ok_125
  · exact ok_126
  · exact ok_127
  · exact ok_128
  · exact ok_129
  · exact ok_130
  · exact ok_131
  · exact ok_132
  · exact ok_133
  · exact ok_134
  · exact ok_135
  · exact ok_136
  · exact ok_137
  · exact ok_138
  · exact ok_139
  · exact ok_140
  · exact ok_141
  · exact ok_142
  · exact ok_143
  · exact ok_144
  · exact ok_145
  · exact ok_146
  · exact ok_147
  · exact ok_148
  · exact ok_149
  · exact ok_150
  · exact ok_151
