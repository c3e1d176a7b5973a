/-- a contract whose runs have been made -/
def y_ck (K : yCon) : Prop := ∃ (HD : List yCut) (fu : Nat), y_ckE yP0 yTY zTF yRC yGR yCTab K HD fu = true ∧ ∀ h ∈ HD, y_ckH yP0 yTY zTF yRC yGR yCTab K HD fu h = true
theorem yq_0 : y_ck yk_0 := ⟨yh_0, 642, yc_0, yd_0⟩
theorem yq_1 : y_ck yk_1 := ⟨yh_1, 1034, yc_1, yd_1⟩
theorem yq_2 : y_ck yk_2 := ⟨yh_2, 622, yc_2, yd_2⟩
theorem yq_3 : y_ck yk_3 := ⟨yh_3, 1038, yc_3, yd_3⟩
theorem yq_4 : y_ck yk_4 := ⟨yh_4, 564, yc_4, yd_4⟩
theorem yq_5 : y_ck yk_5 := ⟨yh_5, 564, yc_5, yd_5⟩
theorem yq_6 : y_ck yk_6 := ⟨yh_6, 564, yc_6, yd_6⟩
theorem yq_7 : y_ck yk_7 := ⟨yh_7, 564, yc_7, yd_7⟩
theorem yq_8 : y_ck yk_8 := ⟨yh_8, 564, yc_8, yd_8⟩
theorem yq_9 : y_ck yk_9 := ⟨yh_9, 516, yc_9, yd_9⟩
theorem yq_10 : y_ck yk_10 := ⟨yh_10, 516, yc_10, yd_10⟩
theorem yq_11 : y_ck yk_11 := ⟨yh_11, 516, yc_11, yd_11⟩
theorem yq_12 : y_ck yk_12 := ⟨yh_12, 510, yc_12, yd_12⟩
theorem yq_13 : y_ck yk_13 := ⟨yh_13, 662, yc_13, yd_13⟩
theorem yq_14 : y_ck yk_14 := ⟨yh_14, 662, yc_14, yd_14⟩
theorem yq_15 : y_ck yk_15 := ⟨yh_15, 786, yc_15, yd_15⟩
theorem yq_16 : y_ck yk_16 := ⟨yh_16, 786, yc_16, yd_16⟩
theorem yq_17 : y_ck yk_17 := ⟨yh_17, 798, yc_17, yd_17⟩
theorem yq_18 : y_ck yk_18 := ⟨yh_18, 3600, yc_18, yd_18⟩
theorem yq_19 : y_ck yk_19 := ⟨yh_19, 600, yc_19, yd_19⟩
theorem yq_20 : y_ck yk_20 := ⟨yh_20, 1948, yc_20, yd_20⟩
theorem yq_21 : y_ck yk_21 := ⟨yh_21, 570, yc_21, yd_21⟩
theorem yq_22 : y_ck yk_22 := ⟨yh_22, 1132, yc_22, yd_22⟩
theorem yq_23 : y_ck yk_23 := ⟨yh_23, 598, yc_23, yd_23⟩
theorem yq_24 : y_ck yk_24 := ⟨yh_24, 574, yc_24, yd_24⟩
theorem yq_25 : y_ck yk_25 := ⟨yh_25, 562, yc_25, yd_25⟩
theorem yq_26 : y_ck yk_26 := ⟨yh_26, 660, yc_26, yd_26⟩
theorem yq_27 : y_ck yk_27 := ⟨yh_27, 630, yc_27, yd_27⟩
theorem yq_28 : y_ck yk_28 := ⟨yh_28, 654, yc_28, yd_28⟩
theorem yq_29 : y_ck yk_29 := ⟨yh_29, 614, yc_29, yd_29⟩
theorem yq_30 : y_ck yk_30 := ⟨yh_30, 654, yc_30, yd_30⟩
theorem yq_31 : y_ck yk_31 := ⟨yh_31, 624, yc_31, yd_31⟩
theorem yq_32 : y_ck yk_32 := ⟨yh_32, 566, yc_32, yd_32⟩
theorem yq_33 : y_ck yk_33 := ⟨yh_33, 544, yc_33, yd_33⟩
theorem yq_34 : y_ck yk_34 := ⟨yh_34, 590, yc_34, yd_34⟩
theorem yq_35 : y_ck yk_35 := ⟨yh_35, 770, yc_35, yd_35⟩
theorem yq_36 : y_ck yk_36 := ⟨yh_36, 770, yc_36, yd_36⟩
theorem yq_37 : y_ck yk_37 := ⟨yh_37, 688, yc_37, yd_37⟩
theorem yq_38 : y_ck yk_38 := ⟨yh_38, 688, yc_38, yd_38⟩
theorem yq_39 : y_ck yk_39 := ⟨yh_39, 688, yc_39, yd_39⟩
theorem yq_40 : y_ck yk_40 := ⟨yh_40, 688, yc_40, yd_40⟩
theorem yq_41 : y_ck yk_41 := ⟨yh_41, 688, yc_41, yd_41⟩
theorem yq_42 : y_ck yk_42 := ⟨yh_42, 536, yc_42, yd_42⟩
theorem yq_43 : y_ck yk_43 := ⟨yh_43, 580, yc_43, yd_43⟩
theorem yq_44 : y_ck yk_44 := ⟨yh_44, 720, yc_44, yd_44⟩
theorem yq_45 : y_ck yk_45 := ⟨yh_45, 758, yc_45, yd_45⟩
theorem yq_46 : y_ck yk_46 := ⟨yh_46, 636, yc_46, yd_46⟩
theorem yq_47 : y_ck yk_47 := ⟨yh_47, 636, yc_47, yd_47⟩
theorem yq_48 : y_ck yk_48 := ⟨yh_48, 732, yc_48, yd_48⟩
theorem yq_49 : y_ck yk_49 := ⟨yh_49, 818, yc_49, yd_49⟩
theorem yq_50 : y_ck yk_50 := ⟨yh_50, 608, yc_50, yd_50⟩
theorem yq_51 : y_ck yk_51 := ⟨yh_51, 608, yc_51, yd_51⟩
theorem yq_52 : y_ck yk_52 := ⟨yh_52, 608, yc_52, yd_52⟩
theorem yq_53 : y_ck yk_53 := ⟨yh_53, 608, yc_53, yd_53⟩
theorem yq_54 : y_ck yk_54 := ⟨yh_54, 558, yc_54, yd_54⟩
theorem yq_55 : y_ck yk_55 := ⟨yh_55, 558, yc_55, yd_55⟩
theorem yq_56 : y_ck yk_56 := ⟨yh_56, 558, yc_56, yd_56⟩
theorem yq_57 : y_ck yk_57 := ⟨yh_57, 558, yc_57, yd_57⟩
theorem yq_58 : y_ck yk_58 := ⟨yh_58, 558, yc_58, yd_58⟩
theorem yq_59 : y_ck yk_59 := ⟨yh_59, 560, yc_59, yd_59⟩
theorem yq_60 : y_ck yk_60 := ⟨yh_60, 560, yc_60, yd_60⟩
theorem yq_61 : y_ck yk_61 := ⟨yh_61, 560, yc_61, yd_61⟩
theorem yq_62 : y_ck yk_62 := ⟨yh_62, 560, yc_62, yd_62⟩
theorem yq_63 : y_ck yk_63 := ⟨yh_63, 560, yc_63, yd_63⟩
theorem yq_64 : y_ck yk_64 := ⟨yh_64, 560, yc_64, yd_64⟩
theorem yq_65 : y_ck yk_65 := ⟨yh_65, 598, yc_65, yd_65⟩
theorem yq_66 : y_ck yk_66 := ⟨yh_66, 598, yc_66, yd_66⟩
theorem yq_67 : y_ck yk_67 := ⟨yh_67, 598, yc_67, yd_67⟩
theorem yq_68 : y_ck yk_68 := ⟨yh_68, 566, yc_68, yd_68⟩
theorem yq_69 : y_ck yk_69 := ⟨yh_69, 566, yc_69, yd_69⟩
theorem yq_70 : y_ck yk_70 := ⟨yh_70, 566, yc_70, yd_70⟩
theorem yq_71 : y_ck yk_71 := ⟨yh_71, 566, yc_71, yd_71⟩
theorem yq_72 : y_ck yk_72 := ⟨yh_72, 566, yc_72, yd_72⟩
theorem yq_73 : y_ck yk_73 := ⟨yh_73, 560, yc_73, yd_73⟩
theorem yq_74 : y_ck yk_74 := ⟨yh_74, 560, yc_74, yd_74⟩
theorem yq_75 : y_ck yk_75 := ⟨yh_75, 560, yc_75, yd_75⟩
theorem yq_76 : y_ck yk_76 := ⟨yh_76, 560, yc_76, yd_76⟩
theorem yq_77 : y_ck yk_77 := ⟨yh_77, 560, yc_77, yd_77⟩
theorem yq_78 : y_ck yk_78 := ⟨yh_78, 560, yc_78, yd_78⟩
theorem yq_79 : y_ck yk_79 := ⟨yh_79, 560, yc_79, yd_79⟩
theorem yq_80 : y_ck yk_80 := ⟨yh_80, 560, yc_80, yd_80⟩
theorem yq_81 : y_ck yk_81 := ⟨yh_81, 560, yc_81, yd_81⟩
theorem yq_82 : y_ck yk_82 := ⟨yh_82, 560, yc_82, yd_82⟩
theorem yq_83 : y_ck yk_83 := ⟨yh_83, 560, yc_83, yd_83⟩
theorem yq_84 : y_ck yk_84 := ⟨yh_84, 560, yc_84, yd_84⟩
theorem yq_85 : y_ck yk_85 := ⟨yh_85, 560, yc_85, yd_85⟩
theorem yq_86 : y_ck yk_86 := ⟨yh_86, 560, yc_86, yd_86⟩
theorem yq_87 : y_ck yk_87 := ⟨yh_87, 560, yc_87, yd_87⟩
theorem yq_88 : y_ck yk_88 := ⟨yh_88, 868, yc_88, yd_88⟩
theorem yq_89 : y_ck yk_89 := ⟨yh_89, 556, yc_89, yd_89⟩
theorem yq_90 : y_ck yk_90 := ⟨yh_90, 1602, yc_90, yd_90⟩
theorem yq_91 : y_ck yk_91 := ⟨yh_91, 616, yc_91, yd_91⟩
theorem yq_92 : y_ck yk_92 := ⟨yh_92, 616, yc_92, yd_92⟩
theorem yq_93 : y_ck yk_93 := ⟨yh_93, 616, yc_93, yd_93⟩
theorem yq_94 : y_ck yk_94 := ⟨yh_94, 616, yc_94, yd_94⟩
theorem yq_95 : y_ck yk_95 := ⟨yh_95, 616, yc_95, yd_95⟩
theorem yq_96 : y_ck yk_96 := ⟨yh_96, 616, yc_96, yd_96⟩
theorem yq_97 : y_ck yk_97 := ⟨yh_97, 616, yc_97, yd_97⟩
theorem yq_98 : y_ck yk_98 := ⟨yh_98, 616, yc_98, yd_98⟩
theorem yq_99 : y_ck yk_99 := ⟨yh_99, 512, yc_99, yd_99⟩
theorem yq_100 : y_ck yk_100 := ⟨yh_100, 616, yc_100, yd_100⟩
theorem yq_101 : y_ck yk_101 := ⟨yh_101, 616, yc_101, yd_101⟩
theorem yq_102 : y_ck yk_102 := ⟨yh_102, 616, yc_102, yd_102⟩
theorem yq_103 : y_ck yk_103 := ⟨yh_103, 616, yc_103, yd_103⟩
theorem yq_104 : y_ck yk_104 := ⟨yh_104, 616, yc_104, yd_104⟩
theorem yq_105 : y_ck yk_105 := ⟨yh_105, 616, yc_105, yd_105⟩
theorem yq_106 : y_ck yk_106 := ⟨yh_106, 616, yc_106, yd_106⟩
theorem yq_107 : y_ck yk_107 := ⟨yh_107, 616, yc_107, yd_107⟩
theorem yq_108 : y_ck yk_108 := ⟨yh_108, 512, yc_108, yd_108⟩
theorem yq_109 : y_ck yk_109 := ⟨yh_109, 912, yc_109, yd_109⟩
theorem yq_110 : y_ck yk_110 := ⟨yh_110, 912, yc_110, yd_110⟩
theorem yq_111 : y_ck yk_111 := ⟨yh_111, 912, yc_111, yd_111⟩
theorem yq_112 : y_ck yk_112 := ⟨yh_112, 912, yc_112, yd_112⟩
theorem yq_113 : y_ck yk_113 := ⟨yh_113, 912, yc_113, yd_113⟩
theorem yq_114 : y_ck yk_114 := ⟨yh_114, 912, yc_114, yd_114⟩
theorem yq_115 : y_ck yk_115 := ⟨yh_115, 912, yc_115, yd_115⟩
theorem yq_116 : y_ck yk_116 := ⟨yh_116, 870, yc_116, yd_116⟩
theorem yq_117 : y_ck yk_117 := ⟨yh_117, 814, yc_117, yd_117⟩
theorem yq_118 : y_ck yk_118 := ⟨yh_118, 1234, yc_118, yd_118⟩
theorem yq_119 : y_ck yk_119 := ⟨yh_119, 624, yc_119, yd_119⟩
theorem yq_120 : y_ck yk_120 := ⟨yh_120, 646, yc_120, yd_120⟩
theorem yq_121 : y_ck yk_121 := ⟨yh_121, 646, yc_121, yd_121⟩
theorem yq_122 : y_ck yk_122 := ⟨yh_122, 646, yc_122, yd_122⟩
theorem yq_123 : y_ck yk_123 := ⟨yh_123, 646, yc_123, yd_123⟩
theorem yq_124 : y_ck yk_124 := ⟨yh_124, 646, yc_124, yd_124⟩
theorem yq_125 : y_ck yk_125 := ⟨yh_125, 646, yc_125, yd_125⟩
theorem yq_126 : y_ck yk_126 := ⟨yh_126, 646, yc_126, yd_126⟩
theorem yq_127 : y_ck yk_127 := ⟨yh_127, 646, yc_127, yd_127⟩
theorem yq_128 : y_ck yk_128 := ⟨yh_128, 646, yc_128, yd_128⟩
theorem yq_129 : y_ck yk_129 := ⟨yh_129, 646, yc_129, yd_129⟩
theorem yq_130 : y_ck yk_130 := ⟨yh_130, 646, yc_130, yd_130⟩
theorem yq_131 : y_ck yk_131 := ⟨yh_131, 646, yc_131, yd_131⟩
theorem yq_132 : y_ck yk_132 := ⟨yh_132, 646, yc_132, yd_132⟩
theorem yq_133 : y_ck yk_133 := ⟨yh_133, 646, yc_133, yd_133⟩
theorem yq_134 : y_ck yk_134 := ⟨yh_134, 646, yc_134, yd_134⟩
theorem yq_135 : y_ck yk_135 := ⟨yh_135, 646, yc_135, yd_135⟩
theorem yq_136 : y_ck yk_136 := ⟨yh_136, 646, yc_136, yd_136⟩
theorem yq_137 : y_ck yk_137 := ⟨yh_137, 646, yc_137, yd_137⟩
theorem yq_138 : y_ck yk_138 := ⟨yh_138, 646, yc_138, yd_138⟩
theorem yq_139 : y_ck yk_139 := ⟨yh_139, 646, yc_139, yd_139⟩
theorem yq_140 : y_ck yk_140 := ⟨yh_140, 646, yc_140, yd_140⟩
theorem yq_141 : y_ck yk_141 := ⟨yh_141, 646, yc_141, yd_141⟩
theorem yq_142 : y_ck yk_142 := ⟨yh_142, 646, yc_142, yd_142⟩
theorem yq_143 : y_ck yk_143 := ⟨yh_143, 542, yc_143, yd_143⟩
theorem yq_144 : y_ck yk_144 := ⟨yh_144, 542, yc_144, yd_144⟩
theorem yq_145 : y_ck yk_145 := ⟨yh_145, 554, yc_145, yd_145⟩
theorem yq_146 : y_ck yk_146 := ⟨yh_146, 554, yc_146, yd_146⟩
theorem yq_147 : y_ck yk_147 := ⟨yh_147, 554, yc_147, yd_147⟩
theorem yq_148 : y_ck yk_148 := ⟨yh_148, 572, yc_148, yd_148⟩
theorem yq_149 : y_ck yk_149 := ⟨yh_149, 574, yc_149, yd_149⟩
theorem yq_150 : y_ck yk_150 := ⟨yh_150, 694, yc_150, yd_150⟩
theorem yq_151 : y_ck yk_151 := ⟨yh_151, 694, yc_151, yd_151⟩
theorem yq_152 : y_ck yk_152 := ⟨yh_152, 596, yc_152, yd_152⟩
theorem yq_153 : y_ck yk_153 := ⟨yh_153, 596, yc_153, yd_153⟩
theorem yq_154 : y_ck yk_154 := ⟨yh_154, 636, yc_154, yd_154⟩
theorem yq_155 : y_ck yk_155 := ⟨yh_155, 636, yc_155, yd_155⟩
theorem yq_156 : y_ck yk_156 := ⟨yh_156, 546, yc_156, yd_156⟩
theorem yq_157 : y_ck yk_157 := ⟨yh_157, 546, yc_157, yd_157⟩
theorem yq_158 : y_ck yk_158 := ⟨yh_158, 610, yc_158, yd_158⟩
theorem yq_159 : y_ck yk_159 := ⟨yh_159, 610, yc_159, yd_159⟩
theorem yq_160 : y_ck yk_160 := ⟨yh_160, 536, yc_160, yd_160⟩
theorem yq_161 : y_ck yk_161 := ⟨yh_161, 536, yc_161, yd_161⟩
theorem yq_162 : y_ck yk_162 := ⟨yh_162, 578, yc_162, yd_162⟩
theorem yq_163 : y_ck yk_163 := ⟨yh_163, 578, yc_163, yd_163⟩
theorem yq_164 : y_ck yk_164 := ⟨yh_164, 554, yc_164, yd_164⟩
theorem yq_165 : y_ck yk_165 := ⟨yh_165, 554, yc_165, yd_165⟩
theorem yq_166 : y_ck yk_166 := ⟨yh_166, 962, yc_166, yd_166⟩
theorem yq_167 : y_ck yk_167 := ⟨yh_167, 962, yc_167, yd_167⟩
theorem yq_168 : y_ck yk_168 := ⟨yh_168, 704, yc_168, yd_168⟩
theorem yq_169 : y_ck yk_169 := ⟨yh_169, 704, yc_169, yd_169⟩
theorem yq_170 : y_ck yk_170 := ⟨yh_170, 838, yc_170, yd_170⟩
theorem yq_171 : y_ck yk_171 := ⟨yh_171, 530, yc_171, yd_171⟩
theorem yq_172 : y_ck yk_172 := ⟨yh_172, 530, yc_172, yd_172⟩
theorem yq_173 : y_ck yk_173 := ⟨yh_173, 530, yc_173, yd_173⟩
theorem yq_174 : y_ck yk_174 := ⟨yh_174, 1044, yc_174, yd_174⟩
theorem yq_175 : y_ck yk_175 := ⟨yh_175, 554, yc_175, yd_175⟩
theorem yq_176 : y_ck yk_176 := ⟨yh_176, 886, yc_176, yd_176⟩
theorem yq_177 : y_ck yk_177 := ⟨yh_177, 554, yc_177, yd_177⟩
theorem yq_178 : y_ck yk_178 := ⟨yh_178, 602, yc_178, yd_178⟩
theorem yq_179 : y_ck yk_179 := ⟨yh_179, 602, yc_179, yd_179⟩
theorem yq_180 : y_ck yk_180 := ⟨yh_180, 628, yc_180, yd_180⟩
theorem yq_181 : y_ck yk_181 := ⟨yh_181, 628, yc_181, yd_181⟩
theorem yq_182 : y_ck yk_182 := ⟨yh_182, 628, yc_182, yd_182⟩
theorem yq_183 : y_ck yk_183 := ⟨yh_183, 628, yc_183, yd_183⟩
theorem yq_184 : y_ck yk_184 := ⟨yh_184, 628, yc_184, yd_184⟩
theorem yq_185 : y_ck yk_185 := ⟨yh_185, 628, yc_185, yd_185⟩
theorem yq_186 : y_ck yk_186 := ⟨yh_186, 628, yc_186, yd_186⟩
theorem yq_187 : y_ck yk_187 := ⟨yh_187, 628, yc_187, yd_187⟩
theorem yq_188 : y_ck yk_188 := ⟨yh_188, 628, yc_188, yd_188⟩
theorem yq_189 : y_ck yk_189 := ⟨yh_189, 602, yc_189, yd_189⟩
theorem yq_190 : y_ck yk_190 := ⟨yh_190, 602, yc_190, yd_190⟩
theorem yq_191 : y_ck yk_191 := ⟨yh_191, 602, yc_191, yd_191⟩
theorem yq_192 : y_ck yk_192 := ⟨yh_192, 602, yc_192, yd_192⟩
theorem yq_193 : y_ck yk_193 := ⟨yh_193, 602, yc_193, yd_193⟩
theorem yq_194 : y_ck yk_194 := ⟨yh_194, 602, yc_194, yd_194⟩
theorem yq_195 : y_ck yk_195 := ⟨yh_195, 584, yc_195, yd_195⟩
theorem yq_196 : y_ck yk_196 := ⟨yh_196, 584, yc_196, yd_196⟩
theorem yq_197 : y_ck yk_197 := ⟨yh_197, 584, yc_197, yd_197⟩
theorem yq_198 : y_ck yk_198 := ⟨yh_198, 562, yc_198, yd_198⟩
theorem yq_199 : y_ck yk_199 := ⟨yh_199, 534, yc_199, yd_199⟩
theorem yq_200 : y_ck yk_200 := ⟨yh_200, 638, yc_200, yd_200⟩
theorem yq_201 : y_ck yk_201 := ⟨yh_201, 506, yc_201, yd_201⟩
theorem yq_202 : y_ck yk_202 := ⟨yh_202, 726, yc_202, yd_202⟩
theorem yq_203 : y_ck yk_203 := ⟨yh_203, 676, yc_203, yd_203⟩
theorem yq_204 : y_ck yk_204 := ⟨yh_204, 1584, yc_204, yd_204⟩
theorem yq_205 : y_ck yk_205 := ⟨yh_205, 1584, yc_205, yd_205⟩
theorem yq_206 : y_ck yk_206 := ⟨yh_206, 1584, yc_206, yd_206⟩
theorem yq_207 : y_ck yk_207 := ⟨yh_207, 1410, yc_207, yd_207⟩
theorem yq_208 : y_ck yk_208 := ⟨yh_208, 1352, yc_208, yd_208⟩
theorem yq_209 : y_ck yk_209 := ⟨yh_209, 760, yc_209, yd_209⟩
theorem yq_210 : y_ck yk_210 := ⟨yh_210, 578, yc_210, yd_210⟩
theorem yq_211 : y_ck yk_211 := ⟨yh_211, 508, yc_211, yd_211⟩
theorem yq_212 : y_ck yk_212 := ⟨yh_212, 708, yc_212, yd_212⟩
theorem yq_213 : y_ck yk_213 := ⟨yh_213, 508, yc_213, yd_213⟩
theorem yq_214 : y_ck yk_214 := ⟨yh_214, 564, yc_214, yd_214⟩
theorem yq_215 : y_ck yk_215 := ⟨yh_215, 536, yc_215, yd_215⟩
theorem yq_216 : y_ck yk_216 := ⟨yh_216, 538, yc_216, yd_216⟩
theorem yq_217 : y_ck yk_217 := ⟨yh_217, 632, yc_217, yd_217⟩
theorem yq_218 : y_ck yk_218 := ⟨yh_218, 632, yc_218, yd_218⟩
theorem yq_219 : y_ck yk_219 := ⟨yh_219, 556, yc_219, yd_219⟩
theorem yq_220 : y_ck yk_220 := ⟨yh_220, 512, yc_220, yd_220⟩
theorem yq_221 : y_ck yk_221 := ⟨yh_221, 564, yc_221, yd_221⟩
theorem yq_222 : y_ck yk_222 := ⟨yh_222, 606, yc_222, yd_222⟩
theorem yq_223 : y_ck yk_223 := ⟨yh_223, 538, yc_223, yd_223⟩
theorem yq_224 : y_ck yk_224 := ⟨yh_224, 508, yc_224, yd_224⟩
theorem yq_225 : y_ck yk_225 := ⟨yh_225, 508, yc_225, yd_225⟩
theorem yq_226 : y_ck yk_226 := ⟨yh_226, 510, yc_226, yd_226⟩
theorem yq_227 : y_ck yk_227 := ⟨yh_227, 508, yc_227, yd_227⟩
theorem yq_228 : y_ck yk_228 := ⟨yh_228, 1382, yc_228, yd_228⟩
theorem yq_229 : y_ck yk_229 := ⟨yh_229, 594, yc_229, yd_229⟩
theorem yq_230 : y_ck yk_230 := ⟨yh_230, 1484, yc_230, yd_230⟩
theorem yq_231 : y_ck yk_231 := ⟨yh_231, 538, yc_231, yd_231⟩
theorem yq_232 : y_ck yk_232 := ⟨yh_232, 764, yc_232, yd_232⟩
theorem yq_233 : y_ck yk_233 := ⟨yh_233, 742, yc_233, yd_233⟩
theorem yq_234 : y_ck yk_234 := ⟨yh_234, 626, yc_234, yd_234⟩
theorem yq_235 : y_ck yk_235 := ⟨yh_235, 674, yc_235, yd_235⟩
theorem yq_236 : y_ck yk_236 := ⟨yh_236, 572, yc_236, yd_236⟩
theorem yq_237 : y_ck yk_237 := ⟨yh_237, 550, yc_237, yd_237⟩
theorem yq_238 : y_ck yk_238 := ⟨yh_238, 1368, yc_238, yd_238⟩
theorem yq_239 : y_ck yk_239 := ⟨yh_239, 536, yc_239, yd_239⟩
theorem yq_240 : y_ck yk_240 := ⟨yh_240, 6636, yc_240, yd_240⟩
theorem yq_241 : y_ck yk_241 := ⟨yh_241, 1782, yc_241, yd_241⟩
theorem yq_242 : y_ck yk_242 := ⟨yh_242, 13674, yc_242, yd_242⟩
theorem yq_243 : y_ck yk_243 := ⟨yh_243, 582, yc_243, yd_243⟩
theorem yq_244 : y_ck yk_244 := ⟨yh_244, 660, yc_244, yd_244⟩
theorem yq_245 : y_ck yk_245 := ⟨yh_245, 660, yc_245, yd_245⟩
theorem yq_246 : y_ck yk_246 := ⟨yh_246, 660, yc_246, yd_246⟩
theorem yq_247 : y_ck yk_247 := ⟨yh_247, 660, yc_247, yd_247⟩
theorem yq_248 : y_ck yk_248 := ⟨yh_248, 660, yc_248, yd_248⟩
theorem yq_249 : y_ck yk_249 := ⟨yh_249, 660, yc_249, yd_249⟩
theorem yq_250 : y_ck yk_250 := ⟨yh_250, 660, yc_250, yd_250⟩
theorem yq_251 : y_ck yk_251 := ⟨yh_251, 604, yc_251, yd_251⟩
theorem yq_252 : y_ck yk_252 := ⟨yh_252, 604, yc_252, yd_252⟩
theorem yq_253 : y_ck yk_253 := ⟨yh_253, 604, yc_253, yd_253⟩
theorem yq_254 : y_ck yk_254 := ⟨yh_254, 604, yc_254, yd_254⟩
theorem yq_255 : y_ck yk_255 := ⟨yh_255, 604, yc_255, yd_255⟩
theorem yq_256 : y_ck yk_256 := ⟨yh_256, 604, yc_256, yd_256⟩
theorem yq_257 : y_ck yk_257 := ⟨yh_257, 604, yc_257, yd_257⟩
theorem yq_258 : y_ck yk_258 := ⟨yh_258, 604, yc_258, yd_258⟩
theorem yq_259 : y_ck yk_259 := ⟨yh_259, 604, yc_259, yd_259⟩
theorem yq_260 : y_ck yk_260 := ⟨yh_260, 542, yc_260, yd_260⟩
theorem yq_261 : y_ck yk_261 := ⟨yh_261, 542, yc_261, yd_261⟩
theorem yq_262 : y_ck yk_262 := ⟨yh_262, 542, yc_262, yd_262⟩
theorem yq_263 : y_ck yk_263 := ⟨yh_263, 542, yc_263, yd_263⟩
theorem yq_264 : y_ck yk_264 := ⟨yh_264, 542, yc_264, yd_264⟩
theorem yq_265 : y_ck yk_265 := ⟨yh_265, 542, yc_265, yd_265⟩
theorem yq_266 : y_ck yk_266 := ⟨yh_266, 700, yc_266, yd_266⟩
theorem yq_267 : y_ck yk_267 := ⟨yh_267, 700, yc_267, yd_267⟩
theorem yq_268 : y_ck yk_268 := ⟨yh_268, 700, yc_268, yd_268⟩
theorem yq_269 : y_ck yk_269 := ⟨yh_269, 594, yc_269, yd_269⟩
theorem yq_270 : y_ck yk_270 := ⟨yh_270, 594, yc_270, yd_270⟩
theorem yq_271 : y_ck yk_271 := ⟨yh_271, 594, yc_271, yd_271⟩
theorem yq_272 : y_ck yk_272 := ⟨yh_272, 594, yc_272, yd_272⟩
theorem yq_273 : y_ck yk_273 := ⟨yh_273, 540, yc_273, yd_273⟩
theorem yq_274 : y_ck yk_274 := ⟨yh_274, 540, yc_274, yd_274⟩
theorem yq_275 : y_ck yk_275 := ⟨yh_275, 540, yc_275, yd_275⟩
theorem yq_276 : y_ck yk_276 := ⟨yh_276, 540, yc_276, yd_276⟩
theorem yq_277 : y_ck yk_277 := ⟨yh_277, 692, yc_277, yd_277⟩
theorem yq_278 : y_ck yk_278 := ⟨yh_278, 692, yc_278, yd_278⟩
theorem yq_279 : y_ck yk_279 := ⟨yh_279, 692, yc_279, yd_279⟩
theorem yq_280 : y_ck yk_280 := ⟨yh_280, 692, yc_280, yd_280⟩
theorem yq_281 : y_ck yk_281 := ⟨yh_281, 16470, yc_281, yd_281⟩
theorem yq_282 : y_ck yk_282 := ⟨yh_282, 1452, yc_282, yd_282⟩
theorem yq_283 : y_ck yk_283 := ⟨yh_283, 10666, yc_283, yd_283⟩
theorem yq_284 : y_ck yk_284 := ⟨yh_284, 512, yc_284, yd_284⟩
theorem yq_285 : y_ck yk_285 := ⟨yh_285, 602, yc_285, yd_285⟩
theorem yq_286 : y_ck yk_286 := ⟨yh_286, 548, yc_286, yd_286⟩
theorem yq_287 : y_ck yk_287 := ⟨yh_287, 568, yc_287, yd_287⟩
theorem yq_288 : y_ck yk_288 := ⟨yh_288, 568, yc_288, yd_288⟩
theorem yq_289 : y_ck yk_289 := ⟨yh_289, 568, yc_289, yd_289⟩
theorem yq_290 : y_ck yk_290 := ⟨yh_290, 592, yc_290, yd_290⟩
theorem yq_291 : y_ck yk_291 := ⟨yh_291, 536, yc_291, yd_291⟩
theorem yq_292 : y_ck yk_292 := ⟨yh_292, 710, yc_292, yd_292⟩
theorem yq_293 : y_ck yk_293 := ⟨yh_293, 890, yc_293, yd_293⟩
theorem yq_294 : y_ck yk_294 := ⟨yh_294, 1214, yc_294, yd_294⟩
theorem yq_295 : y_ck yk_295 := ⟨yh_295, 810, yc_295, yd_295⟩
theorem yq_296 : y_ck yk_296 := ⟨yh_296, 694, yc_296, yd_296⟩
theorem yq_297 : y_ck yk_297 := ⟨yh_297, 562, yc_297, yd_297⟩
theorem yq_298 : y_ck yk_298 := ⟨yh_298, 534, yc_298, yd_298⟩
theorem yq_299 : y_ck yk_299 := ⟨yh_299, 608, yc_299, yd_299⟩
theorem yq_300 : y_ck yk_300 := ⟨yh_300, 554, yc_300, yd_300⟩
theorem yq_301 : y_ck yk_301 := ⟨yh_301, 4090, yc_301, yd_301⟩
theorem yq_302 : y_ck yk_302 := ⟨yh_302, 548, yc_302, yd_302⟩
theorem yq_303 : y_ck yk_303 := ⟨yh_303, 800, yc_303, yd_303⟩
theorem yq_304 : y_ck yk_304 := ⟨yh_304, 1324, yc_304, yd_304⟩
theorem yq_305 : y_ck yk_305 := ⟨yh_305, 1324, yc_305, yd_305⟩
theorem yq_306 : y_ck yk_306 := ⟨yh_306, 538, yc_306, yd_306⟩
theorem yq_307 : y_ck yk_307 := ⟨yh_307, 792, yc_307, yd_307⟩
theorem yq_308 : y_ck yk_308 := ⟨yh_308, 952, yc_308, yd_308⟩
theorem yq_309 : y_ck yk_309 := ⟨yh_309, 750, yc_309, yd_309⟩
theorem yq_310 : y_ck yk_310 := ⟨yh_310, 630, yc_310, yd_310⟩
theorem yq_311 : y_ck yk_311 := ⟨yh_311, 582, yc_311, yd_311⟩
theorem yq_312 : y_ck yk_312 := ⟨yh_312, 30208, yc_312, yd_312⟩
theorem yq_313 : y_ck yk_313 := ⟨yh_313, 18312, yc_313, yd_313⟩
theorem yq_314 : y_ck yk_314 := ⟨yh_314, 2192, yc_314, yd_314⟩
theorem yq_315 : y_ck yk_315 := ⟨yh_315, 2192, yc_315, yd_315⟩
theorem yq_316 : y_ck yk_316 := ⟨yh_316, 686, yc_316, yd_316⟩
theorem yq_317 : y_ck yk_317 := ⟨yh_317, 1064, yc_317, yd_317⟩
theorem yq_318 : y_ck yk_318 := ⟨yh_318, 524, yc_318, yd_318⟩
theorem yq_319 : y_ck yk_319 := ⟨yh_319, 3490, yc_319, yd_319⟩
theorem yq_320 : y_ck yk_320 := ⟨yh_320, 524, yc_320, yd_320⟩
theorem yq_321 : y_ck yk_321 := ⟨yh_321, 544, yc_321, yd_321⟩
theorem yq_322 : y_ck yk_322 := ⟨yh_322, 590, yc_322, yd_322⟩
theorem yq_323 : y_ck yk_323 := ⟨yh_323, 580, yc_323, yd_323⟩
theorem yq_324 : y_ck yk_324 := ⟨yh_324, 638, yc_324, yd_324⟩
theorem yq_325 : y_ck yk_325 := ⟨yh_325, 1178, yc_325, yd_325⟩
theorem yq_326 : y_ck yk_326 := ⟨yh_326, 718, yc_326, yd_326⟩
theorem yq_327 : y_ck yk_327 := ⟨yh_327, 726, yc_327, yd_327⟩
theorem yq_328 : y_ck yk_328 := ⟨yh_328, 738, yc_328, yd_328⟩
theorem yq_329 : y_ck yk_329 := ⟨yh_329, 636, yc_329, yd_329⟩
theorem yq_330 : y_ck yk_330 := ⟨yh_330, 646, yc_330, yd_330⟩
theorem yq_331 : y_ck yk_331 := ⟨yh_331, 514, yc_331, yd_331⟩
theorem yq_332 : y_ck yk_332 := ⟨yh_332, 586, yc_332, yd_332⟩
theorem yq_333 : y_ck yk_333 := ⟨yh_333, 676, yc_333, yd_333⟩
theorem yq_334 : y_ck yk_334 := ⟨yh_334, 1148, yc_334, yd_334⟩
theorem yq_335 : y_ck yk_335 := ⟨yh_335, 524, yc_335, yd_335⟩
theorem yq_336 : y_ck yk_336 := ⟨yh_336, 524, yc_336, yd_336⟩
theorem yq_337 : y_ck yk_337 := ⟨yh_337, 1098, yc_337, yd_337⟩
theorem yq_338 : y_ck yk_338 := ⟨yh_338, 524, yc_338, yd_338⟩
theorem yq_339 : y_ck yk_339 := ⟨yh_339, 1170, yc_339, yd_339⟩
theorem yq_340 : y_ck yk_340 := ⟨yh_340, 604, yc_340, yd_340⟩
theorem yq_341 : y_ck yk_341 := ⟨yh_341, 736, yc_341, yd_341⟩
theorem yq_342 : y_ck yk_342 := ⟨yh_342, 576, yc_342, yd_342⟩
theorem yq_343 : y_ck yk_343 := ⟨yh_343, 2168, yc_343, yd_343⟩
theorem yq_344 : y_ck yk_344 := ⟨yh_344, 1718, yc_344, yd_344⟩
theorem yq_345 : y_ck yk_345 := ⟨yh_345, 580, yc_345, yd_345⟩
theorem yq_346 : y_ck yk_346 := ⟨yh_346, 530, yc_346, yd_346⟩
theorem yq_347 : y_ck yk_347 := ⟨yh_347, 530, yc_347, yd_347⟩
theorem yq_348 : y_ck yk_348 := ⟨yh_348, 530, yc_348, yd_348⟩
theorem yq_349 : y_ck yk_349 := ⟨yh_349, 530, yc_349, yd_349⟩
theorem yq_350 : y_ck yk_350 := ⟨yh_350, 530, yc_350, yd_350⟩
theorem yq_351 : y_ck yk_351 := ⟨yh_351, 530, yc_351, yd_351⟩
theorem yCr_ck0 : ∀ Ks ∈ yCr_0, ∀ K ∈ Ks, y_ck K := List.forall_mem_cons.mpr ⟨List.forall_mem_cons.mpr ⟨yq_0, fun _ h => absurd h List.not_mem_nil⟩, List.forall_mem_cons.mpr ⟨List.forall_mem_cons.mpr ⟨yq_1, fun _ h => absurd h List.not_mem_nil⟩, List.forall_mem_cons.mpr ⟨List.forall_mem_cons.mpr ⟨yq_2, fun _ h => absurd h List.not_mem_nil⟩, List.forall_mem_cons.mpr ⟨List.forall_mem_cons.mpr ⟨yq_3, fun _ h => absurd h List.not_mem_nil⟩, List.forall_mem_cons.mpr ⟨List.forall_mem_cons.mpr ⟨yq_4, List.forall_mem_cons.mpr ⟨yq_5, List.forall_mem_cons.mpr ⟨yq_6, List.forall_mem_cons.mpr ⟨yq_7, List.forall_mem_cons.mpr ⟨yq_8, List.forall_mem_cons.mpr ⟨yq_9, List.forall_mem_cons.mpr ⟨yq_10, List.forall_mem_cons.mpr ⟨yq_11, List.forall_mem_cons.mpr ⟨yq_12, fun _ h => absurd h List.not_mem_nil⟩⟩⟩⟩⟩⟩⟩⟩⟩, List.forall_mem_cons.mpr ⟨List.forall_mem_cons.mpr ⟨yq_13, List.forall_mem_cons.mpr ⟨yq_14, fun _ h => absurd h List.not_mem_nil⟩⟩, List.forall_mem_cons.mpr ⟨List.forall_mem_cons.mpr ⟨yq_15, List.forall_mem_cons.mpr ⟨yq_16, fun _ h => absurd h List.not_mem_nil⟩⟩, List.forall_mem_cons.mpr ⟨fun _ h => absurd h List.not_mem_nil, List.forall_mem_cons.mpr ⟨fun _ h => absurd h List.not_mem_nil, List.forall_mem_cons.mpr ⟨List.forall_mem_cons.mpr ⟨yq_17, fun _ h => absurd h List.not_mem_nil⟩, List.forall_mem_cons.mpr ⟨List.forall_mem_cons.mpr ⟨yq_18, fun _ h => absurd h List.not_mem_nil⟩, List.forall_mem_cons.mpr ⟨List.forall_mem_cons.mpr ⟨yq_19, fun _ h => absurd h List.not_mem_nil⟩, List.forall_mem_cons.mpr ⟨List.forall_mem_cons.mpr ⟨yq_20, fun _ h => absurd h List.not_mem_nil⟩, List.forall_mem_cons.mpr ⟨List.forall_mem_cons.mpr ⟨yq_21, fun _ h => absurd h List.not_mem_nil⟩, List.forall_mem_cons.mpr ⟨List.forall_mem_cons.mpr ⟨yq_22, fun _ h => absurd h List.not_mem_nil⟩, List.forall_mem_cons.mpr ⟨List.forall_mem_cons.mpr ⟨yq_23, fun _ h => absurd h List.not_mem_nil⟩, fun _ h => absurd h List.not_mem_nil⟩⟩⟩⟩⟩⟩⟩⟩⟩⟩⟩⟩⟩⟩⟩⟩
theorem yCr_ck1 : ∀ Ks ∈ yCr_1, ∀ K ∈ Ks, y_ck K := List.forall_mem_cons.mpr ⟨List.forall_mem_cons.mpr ⟨yq_24, List.forall_mem_cons.mpr ⟨yq_25, fun _ h => absurd h List.not_mem_nil⟩⟩, List.forall_mem_cons.mpr ⟨List.forall_mem_cons.mpr ⟨yq_26, fun _ h => absurd h List.not_mem_nil⟩, List.forall_mem_cons.mpr ⟨List.forall_mem_cons.mpr ⟨yq_27, fun _ h => absurd h List.not_mem_nil⟩, List.forall_mem_cons.mpr ⟨List.forall_mem_cons.mpr ⟨yq_28, fun _ h => absurd h List.not_mem_nil⟩, List.forall_mem_cons.mpr ⟨List.forall_mem_cons.mpr ⟨yq_29, fun _ h => absurd h List.not_mem_nil⟩, List.forall_mem_cons.mpr ⟨List.forall_mem_cons.mpr ⟨yq_30, fun _ h => absurd h List.not_mem_nil⟩, List.forall_mem_cons.mpr ⟨List.forall_mem_cons.mpr ⟨yq_31, fun _ h => absurd h List.not_mem_nil⟩, List.forall_mem_cons.mpr ⟨List.forall_mem_cons.mpr ⟨yq_32, fun _ h => absurd h List.not_mem_nil⟩, List.forall_mem_cons.mpr ⟨List.forall_mem_cons.mpr ⟨yq_33, fun _ h => absurd h List.not_mem_nil⟩, List.forall_mem_cons.mpr ⟨List.forall_mem_cons.mpr ⟨yq_34, fun _ h => absurd h List.not_mem_nil⟩, List.forall_mem_cons.mpr ⟨List.forall_mem_cons.mpr ⟨yq_35, List.forall_mem_cons.mpr ⟨yq_36, fun _ h => absurd h List.not_mem_nil⟩⟩, List.forall_mem_cons.mpr ⟨fun _ h => absurd h List.not_mem_nil, List.forall_mem_cons.mpr ⟨fun _ h => absurd h List.not_mem_nil, List.forall_mem_cons.mpr ⟨fun _ h => absurd h List.not_mem_nil, List.forall_mem_cons.mpr ⟨fun _ h => absurd h List.not_mem_nil, List.forall_mem_cons.mpr ⟨fun _ h => absurd h List.not_mem_nil, fun _ h => absurd h List.not_mem_nil⟩⟩⟩⟩⟩⟩⟩⟩⟩⟩⟩⟩⟩⟩⟩⟩
theorem yCr_ck2 : ∀ Ks ∈ yCr_2, ∀ K ∈ Ks, y_ck K := List.forall_mem_cons.mpr ⟨List.forall_mem_cons.mpr ⟨yq_37, List.forall_mem_cons.mpr ⟨yq_38, List.forall_mem_cons.mpr ⟨yq_39, List.forall_mem_cons.mpr ⟨yq_40, List.forall_mem_cons.mpr ⟨yq_41, fun _ h => absurd h List.not_mem_nil⟩⟩⟩⟩⟩, List.forall_mem_cons.mpr ⟨fun _ h => absurd h List.not_mem_nil, List.forall_mem_cons.mpr ⟨fun _ h => absurd h List.not_mem_nil, List.forall_mem_cons.mpr ⟨fun _ h => absurd h List.not_mem_nil, List.forall_mem_cons.mpr ⟨List.forall_mem_cons.mpr ⟨yq_42, fun _ h => absurd h List.not_mem_nil⟩, List.forall_mem_cons.mpr ⟨List.forall_mem_cons.mpr ⟨yq_43, fun _ h => absurd h List.not_mem_nil⟩, List.forall_mem_cons.mpr ⟨fun _ h => absurd h List.not_mem_nil, List.forall_mem_cons.mpr ⟨List.forall_mem_cons.mpr ⟨yq_44, fun _ h => absurd h List.not_mem_nil⟩, List.forall_mem_cons.mpr ⟨List.forall_mem_cons.mpr ⟨yq_45, fun _ h => absurd h List.not_mem_nil⟩, List.forall_mem_cons.mpr ⟨List.forall_mem_cons.mpr ⟨yq_46, fun _ h => absurd h List.not_mem_nil⟩, List.forall_mem_cons.mpr ⟨List.forall_mem_cons.mpr ⟨yq_47, fun _ h => absurd h List.not_mem_nil⟩, List.forall_mem_cons.mpr ⟨List.forall_mem_cons.mpr ⟨yq_48, fun _ h => absurd h List.not_mem_nil⟩, List.forall_mem_cons.mpr ⟨List.forall_mem_cons.mpr ⟨yq_49, fun _ h => absurd h List.not_mem_nil⟩, List.forall_mem_cons.mpr ⟨List.forall_mem_cons.mpr ⟨yq_50, List.forall_mem_cons.mpr ⟨yq_51, List.forall_mem_cons.mpr ⟨yq_52, List.forall_mem_cons.mpr ⟨yq_53, fun _ h => absurd h List.not_mem_nil⟩⟩⟩⟩, List.forall_mem_cons.mpr ⟨fun _ h => absurd h List.not_mem_nil, List.forall_mem_cons.mpr ⟨List.forall_mem_cons.mpr ⟨yq_54, List.forall_mem_cons.mpr ⟨yq_55, List.forall_mem_cons.mpr ⟨yq_56, List.forall_mem_cons.mpr ⟨yq_57, List.forall_mem_cons.mpr ⟨yq_58, fun _ h => absurd h List.not_mem_nil⟩⟩⟩⟩⟩, fun _ h => absurd h List.not_mem_nil⟩⟩⟩⟩⟩⟩⟩⟩⟩⟩⟩⟩⟩⟩⟩⟩
theorem yCr_ck3 : ∀ Ks ∈ yCr_3, ∀ K ∈ Ks, y_ck K := List.forall_mem_cons.mpr ⟨List.forall_mem_cons.mpr ⟨yq_59, List.forall_mem_cons.mpr ⟨yq_60, List.forall_mem_cons.mpr ⟨yq_61, List.forall_mem_cons.mpr ⟨yq_62, List.forall_mem_cons.mpr ⟨yq_63, List.forall_mem_cons.mpr ⟨yq_64, fun _ h => absurd h List.not_mem_nil⟩⟩⟩⟩⟩⟩, List.forall_mem_cons.mpr ⟨List.forall_mem_cons.mpr ⟨yq_65, List.forall_mem_cons.mpr ⟨yq_66, List.forall_mem_cons.mpr ⟨yq_67, fun _ h => absurd h List.not_mem_nil⟩⟩⟩, List.forall_mem_cons.mpr ⟨fun _ h => absurd h List.not_mem_nil, List.forall_mem_cons.mpr ⟨fun _ h => absurd h List.not_mem_nil, List.forall_mem_cons.mpr ⟨fun _ h => absurd h List.not_mem_nil, List.forall_mem_cons.mpr ⟨fun _ h => absurd h List.not_mem_nil, List.forall_mem_cons.mpr ⟨fun _ h => absurd h List.not_mem_nil, List.forall_mem_cons.mpr ⟨List.forall_mem_cons.mpr ⟨yq_68, List.forall_mem_cons.mpr ⟨yq_69, List.forall_mem_cons.mpr ⟨yq_70, List.forall_mem_cons.mpr ⟨yq_71, List.forall_mem_cons.mpr ⟨yq_72, fun _ h => absurd h List.not_mem_nil⟩⟩⟩⟩⟩, List.forall_mem_cons.mpr ⟨List.forall_mem_cons.mpr ⟨yq_73, List.forall_mem_cons.mpr ⟨yq_74, List.forall_mem_cons.mpr ⟨yq_75, List.forall_mem_cons.mpr ⟨yq_76, List.forall_mem_cons.mpr ⟨yq_77, List.forall_mem_cons.mpr ⟨yq_78, List.forall_mem_cons.mpr ⟨yq_79, List.forall_mem_cons.mpr ⟨yq_80, List.forall_mem_cons.mpr ⟨yq_81, List.forall_mem_cons.mpr ⟨yq_82, List.forall_mem_cons.mpr ⟨yq_83, List.forall_mem_cons.mpr ⟨yq_84, List.forall_mem_cons.mpr ⟨yq_85, List.forall_mem_cons.mpr ⟨yq_86, List.forall_mem_cons.mpr ⟨yq_87, fun _ h => absurd h List.not_mem_nil⟩⟩⟩⟩⟩⟩⟩⟩⟩⟩⟩⟩⟩⟩⟩, List.forall_mem_cons.mpr ⟨List.forall_mem_cons.mpr ⟨yq_88, fun _ h => absurd h List.not_mem_nil⟩, List.forall_mem_cons.mpr ⟨List.forall_mem_cons.mpr ⟨yq_89, fun _ h => absurd h List.not_mem_nil⟩, List.forall_mem_cons.mpr ⟨List.forall_mem_cons.mpr ⟨yq_90, fun _ h => absurd h List.not_mem_nil⟩, List.forall_mem_cons.mpr ⟨fun _ h => absurd h List.not_mem_nil, List.forall_mem_cons.mpr ⟨fun _ h => absurd h List.not_mem_nil, List.forall_mem_cons.mpr ⟨fun _ h => absurd h List.not_mem_nil, List.forall_mem_cons.mpr ⟨List.forall_mem_cons.mpr ⟨yq_91, List.forall_mem_cons.mpr ⟨yq_92, List.forall_mem_cons.mpr ⟨yq_93, List.forall_mem_cons.mpr ⟨yq_94, List.forall_mem_cons.mpr ⟨yq_95, List.forall_mem_cons.mpr ⟨yq_96, List.forall_mem_cons.mpr ⟨yq_97, List.forall_mem_cons.mpr ⟨yq_98, List.forall_mem_cons.mpr ⟨yq_99, fun _ h => absurd h List.not_mem_nil⟩⟩⟩⟩⟩⟩⟩⟩⟩, fun _ h => absurd h List.not_mem_nil⟩⟩⟩⟩⟩⟩⟩⟩⟩⟩⟩⟩⟩⟩⟩⟩
theorem yCr_ck4 : ∀ Ks ∈ yCr_4, ∀ K ∈ Ks, y_ck K := List.forall_mem_cons.mpr ⟨List.forall_mem_cons.mpr ⟨yq_100, List.forall_mem_cons.mpr ⟨yq_101, List.forall_mem_cons.mpr ⟨yq_102, List.forall_mem_cons.mpr ⟨yq_103, List.forall_mem_cons.mpr ⟨yq_104, List.forall_mem_cons.mpr ⟨yq_105, List.forall_mem_cons.mpr ⟨yq_106, List.forall_mem_cons.mpr ⟨yq_107, List.forall_mem_cons.mpr ⟨yq_108, fun _ h => absurd h List.not_mem_nil⟩⟩⟩⟩⟩⟩⟩⟩⟩, List.forall_mem_cons.mpr ⟨List.forall_mem_cons.mpr ⟨yq_109, List.forall_mem_cons.mpr ⟨yq_110, List.forall_mem_cons.mpr ⟨yq_111, List.forall_mem_cons.mpr ⟨yq_112, List.forall_mem_cons.mpr ⟨yq_113, List.forall_mem_cons.mpr ⟨yq_114, List.forall_mem_cons.mpr ⟨yq_115, List.forall_mem_cons.mpr ⟨yq_116, List.forall_mem_cons.mpr ⟨yq_117, fun _ h => absurd h List.not_mem_nil⟩⟩⟩⟩⟩⟩⟩⟩⟩, List.forall_mem_cons.mpr ⟨List.forall_mem_cons.mpr ⟨yq_118, fun _ h => absurd h List.not_mem_nil⟩, List.forall_mem_cons.mpr ⟨List.forall_mem_cons.mpr ⟨yq_119, fun _ h => absurd h List.not_mem_nil⟩, List.forall_mem_cons.mpr ⟨List.forall_mem_cons.mpr ⟨yq_120, List.forall_mem_cons.mpr ⟨yq_121, List.forall_mem_cons.mpr ⟨yq_122, List.forall_mem_cons.mpr ⟨yq_123, List.forall_mem_cons.mpr ⟨yq_124, List.forall_mem_cons.mpr ⟨yq_125, List.forall_mem_cons.mpr ⟨yq_126, List.forall_mem_cons.mpr ⟨yq_127, List.forall_mem_cons.mpr ⟨yq_128, List.forall_mem_cons.mpr ⟨yq_129, List.forall_mem_cons.mpr ⟨yq_130, List.forall_mem_cons.mpr ⟨yq_131, List.forall_mem_cons.mpr ⟨yq_132, List.forall_mem_cons.mpr ⟨yq_133, List.forall_mem_cons.mpr ⟨yq_134, List.forall_mem_cons.mpr ⟨yq_135, List.forall_mem_cons.mpr ⟨yq_136, List.forall_mem_cons.mpr ⟨yq_137, List.forall_mem_cons.mpr ⟨yq_138, List.forall_mem_cons.mpr ⟨yq_139, List.forall_mem_cons.mpr ⟨yq_140, List.forall_mem_cons.mpr ⟨yq_141, List.forall_mem_cons.mpr ⟨yq_142, fun _ h => absurd h List.not_mem_nil⟩⟩⟩⟩⟩⟩⟩⟩⟩⟩⟩⟩⟩⟩⟩⟩⟩⟩⟩⟩⟩⟩⟩, List.forall_mem_cons.mpr ⟨fun _ h => absurd h List.not_mem_nil, List.forall_mem_cons.mpr ⟨fun _ h => absurd h List.not_mem_nil, List.forall_mem_cons.mpr ⟨List.forall_mem_cons.mpr ⟨yq_143, List.forall_mem_cons.mpr ⟨yq_144, fun _ h => absurd h List.not_mem_nil⟩⟩, List.forall_mem_cons.mpr ⟨fun _ h => absurd h List.not_mem_nil, List.forall_mem_cons.mpr ⟨fun _ h => absurd h List.not_mem_nil, List.forall_mem_cons.mpr ⟨fun _ h => absurd h List.not_mem_nil, List.forall_mem_cons.mpr ⟨List.forall_mem_cons.mpr ⟨yq_145, List.forall_mem_cons.mpr ⟨yq_146, List.forall_mem_cons.mpr ⟨yq_147, fun _ h => absurd h List.not_mem_nil⟩⟩⟩, List.forall_mem_cons.mpr ⟨fun _ h => absurd h List.not_mem_nil, List.forall_mem_cons.mpr ⟨fun _ h => absurd h List.not_mem_nil, List.forall_mem_cons.mpr ⟨fun _ h => absurd h List.not_mem_nil, List.forall_mem_cons.mpr ⟨List.forall_mem_cons.mpr ⟨yq_148, fun _ h => absurd h List.not_mem_nil⟩, fun _ h => absurd h List.not_mem_nil⟩⟩⟩⟩⟩⟩⟩⟩⟩⟩⟩⟩⟩⟩⟩⟩
theorem yCr_ck5 : ∀ Ks ∈ yCr_5, ∀ K ∈ Ks, y_ck K := List.forall_mem_cons.mpr ⟨fun _ h => absurd h List.not_mem_nil, List.forall_mem_cons.mpr ⟨fun _ h => absurd h List.not_mem_nil, List.forall_mem_cons.mpr ⟨List.forall_mem_cons.mpr ⟨yq_149, fun _ h => absurd h List.not_mem_nil⟩, List.forall_mem_cons.mpr ⟨fun _ h => absurd h List.not_mem_nil, List.forall_mem_cons.mpr ⟨List.forall_mem_cons.mpr ⟨yq_150, List.forall_mem_cons.mpr ⟨yq_151, fun _ h => absurd h List.not_mem_nil⟩⟩, List.forall_mem_cons.mpr ⟨fun _ h => absurd h List.not_mem_nil, List.forall_mem_cons.mpr ⟨List.forall_mem_cons.mpr ⟨yq_152, List.forall_mem_cons.mpr ⟨yq_153, fun _ h => absurd h List.not_mem_nil⟩⟩, List.forall_mem_cons.mpr ⟨List.forall_mem_cons.mpr ⟨yq_154, List.forall_mem_cons.mpr ⟨yq_155, fun _ h => absurd h List.not_mem_nil⟩⟩, List.forall_mem_cons.mpr ⟨List.forall_mem_cons.mpr ⟨yq_156, List.forall_mem_cons.mpr ⟨yq_157, fun _ h => absurd h List.not_mem_nil⟩⟩, List.forall_mem_cons.mpr ⟨List.forall_mem_cons.mpr ⟨yq_158, List.forall_mem_cons.mpr ⟨yq_159, fun _ h => absurd h List.not_mem_nil⟩⟩, List.forall_mem_cons.mpr ⟨List.forall_mem_cons.mpr ⟨yq_160, List.forall_mem_cons.mpr ⟨yq_161, fun _ h => absurd h List.not_mem_nil⟩⟩, List.forall_mem_cons.mpr ⟨fun _ h => absurd h List.not_mem_nil, List.forall_mem_cons.mpr ⟨List.forall_mem_cons.mpr ⟨yq_162, List.forall_mem_cons.mpr ⟨yq_163, fun _ h => absurd h List.not_mem_nil⟩⟩, List.forall_mem_cons.mpr ⟨fun _ h => absurd h List.not_mem_nil, List.forall_mem_cons.mpr ⟨List.forall_mem_cons.mpr ⟨yq_164, List.forall_mem_cons.mpr ⟨yq_165, fun _ h => absurd h List.not_mem_nil⟩⟩, List.forall_mem_cons.mpr ⟨List.forall_mem_cons.mpr ⟨yq_166, List.forall_mem_cons.mpr ⟨yq_167, fun _ h => absurd h List.not_mem_nil⟩⟩, fun _ h => absurd h List.not_mem_nil⟩⟩⟩⟩⟩⟩⟩⟩⟩⟩⟩⟩⟩⟩⟩⟩
theorem yCr_ck6 : ∀ Ks ∈ yCr_6, ∀ K ∈ Ks, y_ck K := List.forall_mem_cons.mpr ⟨List.forall_mem_cons.mpr ⟨yq_168, List.forall_mem_cons.mpr ⟨yq_169, fun _ h => absurd h List.not_mem_nil⟩⟩, List.forall_mem_cons.mpr ⟨fun _ h => absurd h List.not_mem_nil, List.forall_mem_cons.mpr ⟨List.forall_mem_cons.mpr ⟨yq_170, fun _ h => absurd h List.not_mem_nil⟩, List.forall_mem_cons.mpr ⟨List.forall_mem_cons.mpr ⟨yq_171, List.forall_mem_cons.mpr ⟨yq_172, List.forall_mem_cons.mpr ⟨yq_173, fun _ h => absurd h List.not_mem_nil⟩⟩⟩, List.forall_mem_cons.mpr ⟨List.forall_mem_cons.mpr ⟨yq_174, fun _ h => absurd h List.not_mem_nil⟩, List.forall_mem_cons.mpr ⟨List.forall_mem_cons.mpr ⟨yq_175, fun _ h => absurd h List.not_mem_nil⟩, List.forall_mem_cons.mpr ⟨fun _ h => absurd h List.not_mem_nil, List.forall_mem_cons.mpr ⟨List.forall_mem_cons.mpr ⟨yq_176, fun _ h => absurd h List.not_mem_nil⟩, List.forall_mem_cons.mpr ⟨List.forall_mem_cons.mpr ⟨yq_177, fun _ h => absurd h List.not_mem_nil⟩, List.forall_mem_cons.mpr ⟨fun _ h => absurd h List.not_mem_nil, List.forall_mem_cons.mpr ⟨fun _ h => absurd h List.not_mem_nil, List.forall_mem_cons.mpr ⟨fun _ h => absurd h List.not_mem_nil, List.forall_mem_cons.mpr ⟨fun _ h => absurd h List.not_mem_nil, List.forall_mem_cons.mpr ⟨fun _ h => absurd h List.not_mem_nil, List.forall_mem_cons.mpr ⟨List.forall_mem_cons.mpr ⟨yq_178, List.forall_mem_cons.mpr ⟨yq_179, fun _ h => absurd h List.not_mem_nil⟩⟩, List.forall_mem_cons.mpr ⟨List.forall_mem_cons.mpr ⟨yq_180, List.forall_mem_cons.mpr ⟨yq_181, List.forall_mem_cons.mpr ⟨yq_182, List.forall_mem_cons.mpr ⟨yq_183, List.forall_mem_cons.mpr ⟨yq_184, List.forall_mem_cons.mpr ⟨yq_185, List.forall_mem_cons.mpr ⟨yq_186, List.forall_mem_cons.mpr ⟨yq_187, List.forall_mem_cons.mpr ⟨yq_188, fun _ h => absurd h List.not_mem_nil⟩⟩⟩⟩⟩⟩⟩⟩⟩, fun _ h => absurd h List.not_mem_nil⟩⟩⟩⟩⟩⟩⟩⟩⟩⟩⟩⟩⟩⟩⟩⟩
theorem yCr_ck7 : ∀ Ks ∈ yCr_7, ∀ K ∈ Ks, y_ck K := List.forall_mem_cons.mpr ⟨List.forall_mem_cons.mpr ⟨yq_189, List.forall_mem_cons.mpr ⟨yq_190, List.forall_mem_cons.mpr ⟨yq_191, List.forall_mem_cons.mpr ⟨yq_192, List.forall_mem_cons.mpr ⟨yq_193, List.forall_mem_cons.mpr ⟨yq_194, fun _ h => absurd h List.not_mem_nil⟩⟩⟩⟩⟩⟩, List.forall_mem_cons.mpr ⟨List.forall_mem_cons.mpr ⟨yq_195, List.forall_mem_cons.mpr ⟨yq_196, List.forall_mem_cons.mpr ⟨yq_197, fun _ h => absurd h List.not_mem_nil⟩⟩⟩, List.forall_mem_cons.mpr ⟨List.forall_mem_cons.mpr ⟨yq_198, fun _ h => absurd h List.not_mem_nil⟩, List.forall_mem_cons.mpr ⟨List.forall_mem_cons.mpr ⟨yq_199, fun _ h => absurd h List.not_mem_nil⟩, List.forall_mem_cons.mpr ⟨List.forall_mem_cons.mpr ⟨yq_200, fun _ h => absurd h List.not_mem_nil⟩, List.forall_mem_cons.mpr ⟨List.forall_mem_cons.mpr ⟨yq_201, fun _ h => absurd h List.not_mem_nil⟩, List.forall_mem_cons.mpr ⟨List.forall_mem_cons.mpr ⟨yq_202, fun _ h => absurd h List.not_mem_nil⟩, List.forall_mem_cons.mpr ⟨fun _ h => absurd h List.not_mem_nil, List.forall_mem_cons.mpr ⟨fun _ h => absurd h List.not_mem_nil, List.forall_mem_cons.mpr ⟨List.forall_mem_cons.mpr ⟨yq_203, fun _ h => absurd h List.not_mem_nil⟩, List.forall_mem_cons.mpr ⟨List.forall_mem_cons.mpr ⟨yq_204, fun _ h => absurd h List.not_mem_nil⟩, List.forall_mem_cons.mpr ⟨List.forall_mem_cons.mpr ⟨yq_205, fun _ h => absurd h List.not_mem_nil⟩, List.forall_mem_cons.mpr ⟨List.forall_mem_cons.mpr ⟨yq_206, fun _ h => absurd h List.not_mem_nil⟩, List.forall_mem_cons.mpr ⟨List.forall_mem_cons.mpr ⟨yq_207, fun _ h => absurd h List.not_mem_nil⟩, List.forall_mem_cons.mpr ⟨List.forall_mem_cons.mpr ⟨yq_208, fun _ h => absurd h List.not_mem_nil⟩, List.forall_mem_cons.mpr ⟨List.forall_mem_cons.mpr ⟨yq_209, fun _ h => absurd h List.not_mem_nil⟩, fun _ h => absurd h List.not_mem_nil⟩⟩⟩⟩⟩⟩⟩⟩⟩⟩⟩⟩⟩⟩⟩⟩
theorem yCr_ck8 : ∀ Ks ∈ yCr_8, ∀ K ∈ Ks, y_ck K := List.forall_mem_cons.mpr ⟨List.forall_mem_cons.mpr ⟨yq_210, fun _ h => absurd h List.not_mem_nil⟩, List.forall_mem_cons.mpr ⟨List.forall_mem_cons.mpr ⟨yq_211, fun _ h => absurd h List.not_mem_nil⟩, List.forall_mem_cons.mpr ⟨List.forall_mem_cons.mpr ⟨yq_212, fun _ h => absurd h List.not_mem_nil⟩, List.forall_mem_cons.mpr ⟨List.forall_mem_cons.mpr ⟨yq_213, fun _ h => absurd h List.not_mem_nil⟩, List.forall_mem_cons.mpr ⟨List.forall_mem_cons.mpr ⟨yq_214, fun _ h => absurd h List.not_mem_nil⟩, List.forall_mem_cons.mpr ⟨List.forall_mem_cons.mpr ⟨yq_215, fun _ h => absurd h List.not_mem_nil⟩, List.forall_mem_cons.mpr ⟨List.forall_mem_cons.mpr ⟨yq_216, fun _ h => absurd h List.not_mem_nil⟩, List.forall_mem_cons.mpr ⟨List.forall_mem_cons.mpr ⟨yq_217, fun _ h => absurd h List.not_mem_nil⟩, List.forall_mem_cons.mpr ⟨List.forall_mem_cons.mpr ⟨yq_218, fun _ h => absurd h List.not_mem_nil⟩, List.forall_mem_cons.mpr ⟨List.forall_mem_cons.mpr ⟨yq_219, fun _ h => absurd h List.not_mem_nil⟩, List.forall_mem_cons.mpr ⟨List.forall_mem_cons.mpr ⟨yq_220, fun _ h => absurd h List.not_mem_nil⟩, List.forall_mem_cons.mpr ⟨List.forall_mem_cons.mpr ⟨yq_221, fun _ h => absurd h List.not_mem_nil⟩, List.forall_mem_cons.mpr ⟨List.forall_mem_cons.mpr ⟨yq_222, fun _ h => absurd h List.not_mem_nil⟩, List.forall_mem_cons.mpr ⟨List.forall_mem_cons.mpr ⟨yq_223, fun _ h => absurd h List.not_mem_nil⟩, List.forall_mem_cons.mpr ⟨List.forall_mem_cons.mpr ⟨yq_224, fun _ h => absurd h List.not_mem_nil⟩, List.forall_mem_cons.mpr ⟨List.forall_mem_cons.mpr ⟨yq_225, fun _ h => absurd h List.not_mem_nil⟩, fun _ h => absurd h List.not_mem_nil⟩⟩⟩⟩⟩⟩⟩⟩⟩⟩⟩⟩⟩⟩⟩⟩
theorem yCr_ck9 : ∀ Ks ∈ yCr_9, ∀ K ∈ Ks, y_ck K := List.forall_mem_cons.mpr ⟨List.forall_mem_cons.mpr ⟨yq_226, fun _ h => absurd h List.not_mem_nil⟩, List.forall_mem_cons.mpr ⟨List.forall_mem_cons.mpr ⟨yq_227, fun _ h => absurd h List.not_mem_nil⟩, List.forall_mem_cons.mpr ⟨List.forall_mem_cons.mpr ⟨yq_228, fun _ h => absurd h List.not_mem_nil⟩, List.forall_mem_cons.mpr ⟨List.forall_mem_cons.mpr ⟨yq_229, fun _ h => absurd h List.not_mem_nil⟩, List.forall_mem_cons.mpr ⟨List.forall_mem_cons.mpr ⟨yq_230, fun _ h => absurd h List.not_mem_nil⟩, List.forall_mem_cons.mpr ⟨List.forall_mem_cons.mpr ⟨yq_231, fun _ h => absurd h List.not_mem_nil⟩, List.forall_mem_cons.mpr ⟨List.forall_mem_cons.mpr ⟨yq_232, fun _ h => absurd h List.not_mem_nil⟩, List.forall_mem_cons.mpr ⟨List.forall_mem_cons.mpr ⟨yq_233, fun _ h => absurd h List.not_mem_nil⟩, List.forall_mem_cons.mpr ⟨List.forall_mem_cons.mpr ⟨yq_234, fun _ h => absurd h List.not_mem_nil⟩, List.forall_mem_cons.mpr ⟨List.forall_mem_cons.mpr ⟨yq_235, fun _ h => absurd h List.not_mem_nil⟩, List.forall_mem_cons.mpr ⟨List.forall_mem_cons.mpr ⟨yq_236, fun _ h => absurd h List.not_mem_nil⟩, List.forall_mem_cons.mpr ⟨fun _ h => absurd h List.not_mem_nil, List.forall_mem_cons.mpr ⟨fun _ h => absurd h List.not_mem_nil, List.forall_mem_cons.mpr ⟨fun _ h => absurd h List.not_mem_nil, List.forall_mem_cons.mpr ⟨fun _ h => absurd h List.not_mem_nil, List.forall_mem_cons.mpr ⟨List.forall_mem_cons.mpr ⟨yq_237, fun _ h => absurd h List.not_mem_nil⟩, fun _ h => absurd h List.not_mem_nil⟩⟩⟩⟩⟩⟩⟩⟩⟩⟩⟩⟩⟩⟩⟩⟩
theorem yCr_ck10 : ∀ Ks ∈ yCr_10, ∀ K ∈ Ks, y_ck K := List.forall_mem_cons.mpr ⟨fun _ h => absurd h List.not_mem_nil, List.forall_mem_cons.mpr ⟨fun _ h => absurd h List.not_mem_nil, List.forall_mem_cons.mpr ⟨List.forall_mem_cons.mpr ⟨yq_238, fun _ h => absurd h List.not_mem_nil⟩, List.forall_mem_cons.mpr ⟨fun _ h => absurd h List.not_mem_nil, List.forall_mem_cons.mpr ⟨List.forall_mem_cons.mpr ⟨yq_239, fun _ h => absurd h List.not_mem_nil⟩, List.forall_mem_cons.mpr ⟨fun _ h => absurd h List.not_mem_nil, List.forall_mem_cons.mpr ⟨fun _ h => absurd h List.not_mem_nil, List.forall_mem_cons.mpr ⟨fun _ h => absurd h List.not_mem_nil, List.forall_mem_cons.mpr ⟨fun _ h => absurd h List.not_mem_nil, List.forall_mem_cons.mpr ⟨List.forall_mem_cons.mpr ⟨yq_240, fun _ h => absurd h List.not_mem_nil⟩, List.forall_mem_cons.mpr ⟨fun _ h => absurd h List.not_mem_nil, List.forall_mem_cons.mpr ⟨List.forall_mem_cons.mpr ⟨yq_241, fun _ h => absurd h List.not_mem_nil⟩, List.forall_mem_cons.mpr ⟨fun _ h => absurd h List.not_mem_nil, List.forall_mem_cons.mpr ⟨fun _ h => absurd h List.not_mem_nil, List.forall_mem_cons.mpr ⟨fun _ h => absurd h List.not_mem_nil, List.forall_mem_cons.mpr ⟨List.forall_mem_cons.mpr ⟨yq_242, fun _ h => absurd h List.not_mem_nil⟩, fun _ h => absurd h List.not_mem_nil⟩⟩⟩⟩⟩⟩⟩⟩⟩⟩⟩⟩⟩⟩⟩⟩
theorem yCr_ck11 : ∀ Ks ∈ yCr_11, ∀ K ∈ Ks, y_ck K := List.forall_mem_cons.mpr ⟨fun _ h => absurd h List.not_mem_nil, List.forall_mem_cons.mpr ⟨fun _ h => absurd h List.not_mem_nil, List.forall_mem_cons.mpr ⟨fun _ h => absurd h List.not_mem_nil, List.forall_mem_cons.mpr ⟨fun _ h => absurd h List.not_mem_nil, List.forall_mem_cons.mpr ⟨List.forall_mem_cons.mpr ⟨yq_243, fun _ h => absurd h List.not_mem_nil⟩, List.forall_mem_cons.mpr ⟨List.forall_mem_cons.mpr ⟨yq_244, List.forall_mem_cons.mpr ⟨yq_245, List.forall_mem_cons.mpr ⟨yq_246, List.forall_mem_cons.mpr ⟨yq_247, List.forall_mem_cons.mpr ⟨yq_248, List.forall_mem_cons.mpr ⟨yq_249, List.forall_mem_cons.mpr ⟨yq_250, fun _ h => absurd h List.not_mem_nil⟩⟩⟩⟩⟩⟩⟩, List.forall_mem_cons.mpr ⟨List.forall_mem_cons.mpr ⟨yq_251, List.forall_mem_cons.mpr ⟨yq_252, List.forall_mem_cons.mpr ⟨yq_253, List.forall_mem_cons.mpr ⟨yq_254, List.forall_mem_cons.mpr ⟨yq_255, List.forall_mem_cons.mpr ⟨yq_256, List.forall_mem_cons.mpr ⟨yq_257, List.forall_mem_cons.mpr ⟨yq_258, List.forall_mem_cons.mpr ⟨yq_259, fun _ h => absurd h List.not_mem_nil⟩⟩⟩⟩⟩⟩⟩⟩⟩, List.forall_mem_cons.mpr ⟨List.forall_mem_cons.mpr ⟨yq_260, List.forall_mem_cons.mpr ⟨yq_261, List.forall_mem_cons.mpr ⟨yq_262, List.forall_mem_cons.mpr ⟨yq_263, List.forall_mem_cons.mpr ⟨yq_264, List.forall_mem_cons.mpr ⟨yq_265, fun _ h => absurd h List.not_mem_nil⟩⟩⟩⟩⟩⟩, List.forall_mem_cons.mpr ⟨List.forall_mem_cons.mpr ⟨yq_266, List.forall_mem_cons.mpr ⟨yq_267, List.forall_mem_cons.mpr ⟨yq_268, fun _ h => absurd h List.not_mem_nil⟩⟩⟩, List.forall_mem_cons.mpr ⟨List.forall_mem_cons.mpr ⟨yq_269, List.forall_mem_cons.mpr ⟨yq_270, List.forall_mem_cons.mpr ⟨yq_271, List.forall_mem_cons.mpr ⟨yq_272, fun _ h => absurd h List.not_mem_nil⟩⟩⟩⟩, List.forall_mem_cons.mpr ⟨List.forall_mem_cons.mpr ⟨yq_273, List.forall_mem_cons.mpr ⟨yq_274, List.forall_mem_cons.mpr ⟨yq_275, List.forall_mem_cons.mpr ⟨yq_276, fun _ h => absurd h List.not_mem_nil⟩⟩⟩⟩, List.forall_mem_cons.mpr ⟨List.forall_mem_cons.mpr ⟨yq_277, List.forall_mem_cons.mpr ⟨yq_278, List.forall_mem_cons.mpr ⟨yq_279, List.forall_mem_cons.mpr ⟨yq_280, fun _ h => absurd h List.not_mem_nil⟩⟩⟩⟩, List.forall_mem_cons.mpr ⟨List.forall_mem_cons.mpr ⟨yq_281, fun _ h => absurd h List.not_mem_nil⟩, List.forall_mem_cons.mpr ⟨List.forall_mem_cons.mpr ⟨yq_282, fun _ h => absurd h List.not_mem_nil⟩, List.forall_mem_cons.mpr ⟨List.forall_mem_cons.mpr ⟨yq_283, fun _ h => absurd h List.not_mem_nil⟩, List.forall_mem_cons.mpr ⟨List.forall_mem_cons.mpr ⟨yq_284, fun _ h => absurd h List.not_mem_nil⟩, fun _ h => absurd h List.not_mem_nil⟩⟩⟩⟩⟩⟩⟩⟩⟩⟩⟩⟩⟩⟩⟩⟩
theorem yCr_ck12 : ∀ Ks ∈ yCr_12, ∀ K ∈ Ks, y_ck K := List.forall_mem_cons.mpr ⟨fun _ h => absurd h List.not_mem_nil, List.forall_mem_cons.mpr ⟨fun _ h => absurd h List.not_mem_nil, List.forall_mem_cons.mpr ⟨fun _ h => absurd h List.not_mem_nil, List.forall_mem_cons.mpr ⟨fun _ h => absurd h List.not_mem_nil, List.forall_mem_cons.mpr ⟨List.forall_mem_cons.mpr ⟨yq_285, fun _ h => absurd h List.not_mem_nil⟩, List.forall_mem_cons.mpr ⟨fun _ h => absurd h List.not_mem_nil, List.forall_mem_cons.mpr ⟨List.forall_mem_cons.mpr ⟨yq_286, fun _ h => absurd h List.not_mem_nil⟩, List.forall_mem_cons.mpr ⟨fun _ h => absurd h List.not_mem_nil, List.forall_mem_cons.mpr ⟨fun _ h => absurd h List.not_mem_nil, List.forall_mem_cons.mpr ⟨List.forall_mem_cons.mpr ⟨yq_287, List.forall_mem_cons.mpr ⟨yq_288, List.forall_mem_cons.mpr ⟨yq_289, fun _ h => absurd h List.not_mem_nil⟩⟩⟩, List.forall_mem_cons.mpr ⟨List.forall_mem_cons.mpr ⟨yq_290, fun _ h => absurd h List.not_mem_nil⟩, List.forall_mem_cons.mpr ⟨fun _ h => absurd h List.not_mem_nil, List.forall_mem_cons.mpr ⟨fun _ h => absurd h List.not_mem_nil, List.forall_mem_cons.mpr ⟨List.forall_mem_cons.mpr ⟨yq_291, List.forall_mem_cons.mpr ⟨yq_292, fun _ h => absurd h List.not_mem_nil⟩⟩, List.forall_mem_cons.mpr ⟨fun _ h => absurd h List.not_mem_nil, List.forall_mem_cons.mpr ⟨List.forall_mem_cons.mpr ⟨yq_293, fun _ h => absurd h List.not_mem_nil⟩, fun _ h => absurd h List.not_mem_nil⟩⟩⟩⟩⟩⟩⟩⟩⟩⟩⟩⟩⟩⟩⟩⟩
theorem yCr_ck13 : ∀ Ks ∈ yCr_13, ∀ K ∈ Ks, y_ck K := List.forall_mem_cons.mpr ⟨List.forall_mem_cons.mpr ⟨yq_294, fun _ h => absurd h List.not_mem_nil⟩, List.forall_mem_cons.mpr ⟨List.forall_mem_cons.mpr ⟨yq_295, fun _ h => absurd h List.not_mem_nil⟩, List.forall_mem_cons.mpr ⟨List.forall_mem_cons.mpr ⟨yq_296, fun _ h => absurd h List.not_mem_nil⟩, List.forall_mem_cons.mpr ⟨List.forall_mem_cons.mpr ⟨yq_297, fun _ h => absurd h List.not_mem_nil⟩, List.forall_mem_cons.mpr ⟨List.forall_mem_cons.mpr ⟨yq_298, fun _ h => absurd h List.not_mem_nil⟩, List.forall_mem_cons.mpr ⟨List.forall_mem_cons.mpr ⟨yq_299, fun _ h => absurd h List.not_mem_nil⟩, List.forall_mem_cons.mpr ⟨List.forall_mem_cons.mpr ⟨yq_300, fun _ h => absurd h List.not_mem_nil⟩, List.forall_mem_cons.mpr ⟨List.forall_mem_cons.mpr ⟨yq_301, fun _ h => absurd h List.not_mem_nil⟩, List.forall_mem_cons.mpr ⟨List.forall_mem_cons.mpr ⟨yq_302, fun _ h => absurd h List.not_mem_nil⟩, List.forall_mem_cons.mpr ⟨List.forall_mem_cons.mpr ⟨yq_303, fun _ h => absurd h List.not_mem_nil⟩, List.forall_mem_cons.mpr ⟨fun _ h => absurd h List.not_mem_nil, List.forall_mem_cons.mpr ⟨List.forall_mem_cons.mpr ⟨yq_304, List.forall_mem_cons.mpr ⟨yq_305, fun _ h => absurd h List.not_mem_nil⟩⟩, List.forall_mem_cons.mpr ⟨List.forall_mem_cons.mpr ⟨yq_306, fun _ h => absurd h List.not_mem_nil⟩, List.forall_mem_cons.mpr ⟨List.forall_mem_cons.mpr ⟨yq_307, fun _ h => absurd h List.not_mem_nil⟩, List.forall_mem_cons.mpr ⟨List.forall_mem_cons.mpr ⟨yq_308, fun _ h => absurd h List.not_mem_nil⟩, List.forall_mem_cons.mpr ⟨List.forall_mem_cons.mpr ⟨yq_309, fun _ h => absurd h List.not_mem_nil⟩, fun _ h => absurd h List.not_mem_nil⟩⟩⟩⟩⟩⟩⟩⟩⟩⟩⟩⟩⟩⟩⟩⟩
theorem yCr_ck14 : ∀ Ks ∈ yCr_14, ∀ K ∈ Ks, y_ck K := List.forall_mem_cons.mpr ⟨List.forall_mem_cons.mpr ⟨yq_310, fun _ h => absurd h List.not_mem_nil⟩, List.forall_mem_cons.mpr ⟨List.forall_mem_cons.mpr ⟨yq_311, fun _ h => absurd h List.not_mem_nil⟩, List.forall_mem_cons.mpr ⟨List.forall_mem_cons.mpr ⟨yq_312, fun _ h => absurd h List.not_mem_nil⟩, List.forall_mem_cons.mpr ⟨List.forall_mem_cons.mpr ⟨yq_313, fun _ h => absurd h List.not_mem_nil⟩, List.forall_mem_cons.mpr ⟨List.forall_mem_cons.mpr ⟨yq_314, fun _ h => absurd h List.not_mem_nil⟩, List.forall_mem_cons.mpr ⟨List.forall_mem_cons.mpr ⟨yq_315, fun _ h => absurd h List.not_mem_nil⟩, List.forall_mem_cons.mpr ⟨List.forall_mem_cons.mpr ⟨yq_316, fun _ h => absurd h List.not_mem_nil⟩, List.forall_mem_cons.mpr ⟨List.forall_mem_cons.mpr ⟨yq_317, fun _ h => absurd h List.not_mem_nil⟩, List.forall_mem_cons.mpr ⟨List.forall_mem_cons.mpr ⟨yq_318, fun _ h => absurd h List.not_mem_nil⟩, List.forall_mem_cons.mpr ⟨fun _ h => absurd h List.not_mem_nil, List.forall_mem_cons.mpr ⟨List.forall_mem_cons.mpr ⟨yq_319, fun _ h => absurd h List.not_mem_nil⟩, List.forall_mem_cons.mpr ⟨List.forall_mem_cons.mpr ⟨yq_320, fun _ h => absurd h List.not_mem_nil⟩, List.forall_mem_cons.mpr ⟨List.forall_mem_cons.mpr ⟨yq_321, fun _ h => absurd h List.not_mem_nil⟩, List.forall_mem_cons.mpr ⟨List.forall_mem_cons.mpr ⟨yq_322, fun _ h => absurd h List.not_mem_nil⟩, List.forall_mem_cons.mpr ⟨List.forall_mem_cons.mpr ⟨yq_323, fun _ h => absurd h List.not_mem_nil⟩, List.forall_mem_cons.mpr ⟨List.forall_mem_cons.mpr ⟨yq_324, fun _ h => absurd h List.not_mem_nil⟩, fun _ h => absurd h List.not_mem_nil⟩⟩⟩⟩⟩⟩⟩⟩⟩⟩⟩⟩⟩⟩⟩⟩
theorem yCr_ck15 : ∀ Ks ∈ yCr_15, ∀ K ∈ Ks, y_ck K := List.forall_mem_cons.mpr ⟨List.forall_mem_cons.mpr ⟨yq_325, fun _ h => absurd h List.not_mem_nil⟩, List.forall_mem_cons.mpr ⟨fun _ h => absurd h List.not_mem_nil, List.forall_mem_cons.mpr ⟨List.forall_mem_cons.mpr ⟨yq_326, fun _ h => absurd h List.not_mem_nil⟩, List.forall_mem_cons.mpr ⟨List.forall_mem_cons.mpr ⟨yq_327, fun _ h => absurd h List.not_mem_nil⟩, List.forall_mem_cons.mpr ⟨List.forall_mem_cons.mpr ⟨yq_328, fun _ h => absurd h List.not_mem_nil⟩, List.forall_mem_cons.mpr ⟨List.forall_mem_cons.mpr ⟨yq_329, List.forall_mem_cons.mpr ⟨yq_330, fun _ h => absurd h List.not_mem_nil⟩⟩, List.forall_mem_cons.mpr ⟨List.forall_mem_cons.mpr ⟨yq_331, fun _ h => absurd h List.not_mem_nil⟩, List.forall_mem_cons.mpr ⟨List.forall_mem_cons.mpr ⟨yq_332, fun _ h => absurd h List.not_mem_nil⟩, List.forall_mem_cons.mpr ⟨List.forall_mem_cons.mpr ⟨yq_333, fun _ h => absurd h List.not_mem_nil⟩, List.forall_mem_cons.mpr ⟨List.forall_mem_cons.mpr ⟨yq_334, fun _ h => absurd h List.not_mem_nil⟩, List.forall_mem_cons.mpr ⟨List.forall_mem_cons.mpr ⟨yq_335, fun _ h => absurd h List.not_mem_nil⟩, List.forall_mem_cons.mpr ⟨List.forall_mem_cons.mpr ⟨yq_336, fun _ h => absurd h List.not_mem_nil⟩, List.forall_mem_cons.mpr ⟨List.forall_mem_cons.mpr ⟨yq_337, fun _ h => absurd h List.not_mem_nil⟩, List.forall_mem_cons.mpr ⟨List.forall_mem_cons.mpr ⟨yq_338, fun _ h => absurd h List.not_mem_nil⟩, List.forall_mem_cons.mpr ⟨fun _ h => absurd h List.not_mem_nil, List.forall_mem_cons.mpr ⟨fun _ h => absurd h List.not_mem_nil, fun _ h => absurd h List.not_mem_nil⟩⟩⟩⟩⟩⟩⟩⟩⟩⟩⟩⟩⟩⟩⟩⟩
theorem yCr_ck16 : ∀ Ks ∈ yCr_16, ∀ K ∈ Ks, y_ck K := List.forall_mem_cons.mpr ⟨List.forall_mem_cons.mpr ⟨yq_339, fun _ h => absurd h List.not_mem_nil⟩, List.forall_mem_cons.mpr ⟨List.forall_mem_cons.mpr ⟨yq_340, fun _ h => absurd h List.not_mem_nil⟩, List.forall_mem_cons.mpr ⟨List.forall_mem_cons.mpr ⟨yq_341, fun _ h => absurd h List.not_mem_nil⟩, List.forall_mem_cons.mpr ⟨fun _ h => absurd h List.not_mem_nil, List.forall_mem_cons.mpr ⟨fun _ h => absurd h List.not_mem_nil, List.forall_mem_cons.mpr ⟨fun _ h => absurd h List.not_mem_nil, List.forall_mem_cons.mpr ⟨List.forall_mem_cons.mpr ⟨yq_342, fun _ h => absurd h List.not_mem_nil⟩, List.forall_mem_cons.mpr ⟨fun _ h => absurd h List.not_mem_nil, List.forall_mem_cons.mpr ⟨fun _ h => absurd h List.not_mem_nil, List.forall_mem_cons.mpr ⟨fun _ h => absurd h List.not_mem_nil, List.forall_mem_cons.mpr ⟨List.forall_mem_cons.mpr ⟨yq_343, fun _ h => absurd h List.not_mem_nil⟩, List.forall_mem_cons.mpr ⟨fun _ h => absurd h List.not_mem_nil, List.forall_mem_cons.mpr ⟨fun _ h => absurd h List.not_mem_nil, List.forall_mem_cons.mpr ⟨fun _ h => absurd h List.not_mem_nil, List.forall_mem_cons.mpr ⟨List.forall_mem_cons.mpr ⟨yq_344, fun _ h => absurd h List.not_mem_nil⟩, List.forall_mem_cons.mpr ⟨fun _ h => absurd h List.not_mem_nil, fun _ h => absurd h List.not_mem_nil⟩⟩⟩⟩⟩⟩⟩⟩⟩⟩⟩⟩⟩⟩⟩⟩
theorem yCr_ck17 : ∀ Ks ∈ yCr_17, ∀ K ∈ Ks, y_ck K := List.forall_mem_cons.mpr ⟨fun _ h => absurd h List.not_mem_nil, List.forall_mem_cons.mpr ⟨fun _ h => absurd h List.not_mem_nil, List.forall_mem_cons.mpr ⟨fun _ h => absurd h List.not_mem_nil, List.forall_mem_cons.mpr ⟨List.forall_mem_cons.mpr ⟨yq_345, fun _ h => absurd h List.not_mem_nil⟩, List.forall_mem_cons.mpr ⟨fun _ h => absurd h List.not_mem_nil, List.forall_mem_cons.mpr ⟨List.forall_mem_cons.mpr ⟨yq_346, List.forall_mem_cons.mpr ⟨yq_347, List.forall_mem_cons.mpr ⟨yq_348, List.forall_mem_cons.mpr ⟨yq_349, List.forall_mem_cons.mpr ⟨yq_350, List.forall_mem_cons.mpr ⟨yq_351, fun _ h => absurd h List.not_mem_nil⟩⟩⟩⟩⟩⟩, fun _ h => absurd h List.not_mem_nil⟩⟩⟩⟩⟩⟩
theorem yCT_ck : ∀ row ∈ yCTab, ∀ Ks ∈ row, ∀ K ∈ Ks, y_ck K := List.forall_mem_cons.mpr ⟨yCr_ck0, List.forall_mem_cons.mpr ⟨yCr_ck1, List.forall_mem_cons.mpr ⟨yCr_ck2, List.forall_mem_cons.mpr ⟨yCr_ck3, List.forall_mem_cons.mpr ⟨yCr_ck4, List.forall_mem_cons.mpr ⟨yCr_ck5, List.forall_mem_cons.mpr ⟨yCr_ck6, List.forall_mem_cons.mpr ⟨yCr_ck7, List.forall_mem_cons.mpr ⟨yCr_ck8, List.forall_mem_cons.mpr ⟨yCr_ck9, List.forall_mem_cons.mpr ⟨yCr_ck10, List.forall_mem_cons.mpr ⟨yCr_ck11, List.forall_mem_cons.mpr ⟨yCr_ck12, List.forall_mem_cons.mpr ⟨yCr_ck13, List.forall_mem_cons.mpr ⟨yCr_ck14, List.forall_mem_cons.mpr ⟨yCr_ck15, List.forall_mem_cons.mpr ⟨yCr_ck16, List.forall_mem_cons.mpr ⟨yCr_ck17, fun _ h => absurd h List.not_mem_nil⟩⟩⟩⟩⟩⟩⟩⟩⟩⟩⟩⟩⟩⟩⟩⟩⟩⟩

theorem yCT_ix : ((List.range 18).all fun a => (List.range 16).all fun b => (y_cget yCTab (16 * a + b)).all (fun K => K.1 == 16 * a + b)) = true := by decide +kernel
theorem yCT_fl : (yCTab.all fun row => row.all fun Ks => Ks.all (fun K => !K.2.2.2.2.2.2.1 && K.2.2.2.1.all (fun o => !o.2.2))) = true := by decide +kernel
theorem y_cget_in {CT : List (List (List yCon))} {j : Nat} {K : yCon} (h : K ∈ y_cget CT j) : ∃ row ∈ CT, ∃ Ks ∈ row, K ∈ Ks ∧ j / 16 < CT.length := by
  unfold y_cget at h
  split at h
  next row hr =>
    split at h
    next Ks hk => exact ⟨row, List.mem_of_getElem? hr, Ks, List.mem_of_getElem? hk, h, (List.getElem?_eq_some_iff.mp hr).1⟩
    next => cases h
  next => cases h
theorem yCT_j {j : Nat} {K : yCon} (h : K ∈ y_cget yCTab j) : K.1 = j := by
  obtain ⟨row, _, Ks, _, _, hj⟩ := y_cget_in h
  have hl : yCTab.length = 18 := rfl
  have h1 := List.all_eq_true.mp yCT_ix (j / 16) (List.mem_range.mpr (by omega))
  have h2 := List.all_eq_true.mp h1 (j % 16) (List.mem_range.mpr (by omega))
  rw [show 16 * (j / 16) + j % 16 = j by omega] at h2
  simpa using List.all_eq_true.mp h2 K h
section YALL
variable {EX : (Nat → Prop) → State → Heap → Prop} {l : Launch} {kc : Nat → ClassId} {D : va_G} {xb : Nat} {ad : Nat → Option Nat}
theorem y_consT (hE : z_EX EX) : ∀ (n j : Nat) (K : yCon), K ∈ y_cget yCTab j → K.2.2.2.2.2.1 < n → y_ConOk EX l zTB zNT kc D vwCl xb yTY yGR (fun _ => True) ad yP0 K := by
  intro n
  induction n with
  | zero => intro j K _ h; exact absurd h (Nat.not_lt_zero _)
  | succ n ih =>
    intro j K hK hd
    obtain ⟨row, hr, Ks, hk, hin, _⟩ := y_cget_in hK
    obtain ⟨HD, fu, h1, h2⟩ := yCT_ck row hr Ks hk K hin
    exact y_chk_ok (RC := yRC) hE (fun _ _ _ h => h) y_prog (fun j' K' hK' => ⟨yCT_j hK', fun hlt => ih j' K' hK' (by omega)⟩) h1 h2
/-- all contracts, whatever binds cells -/
theorem y_cons (hE : z_EX EX) {RI : va_W → Prop} {j : Nat} {K : yCon} (hK : K ∈ y_cget yCTab j) : y_ConOk EX l zTB zNT kc D vwCl xb yTY yGR RI ad yP0 K := by
  have hT := y_consT (l := l) (kc := kc) (D := D) (xb := xb) (ad := ad) hE (K.2.2.2.2.2.1 + 1) j K hK (Nat.lt_succ_self _)
  obtain ⟨row, hr, Ks, hk, hin, _⟩ := y_cget_in hK
  have hf := List.all_eq_true.mp (List.all_eq_true.mp (List.all_eq_true.mp yCT_fl row hr) Ks hk) K hin
  rw [Bool.and_eq_true] at hf
  intro y cc maxL ret tab na sp hP d hd av ws sz env0 hav hpre hri hGo hwt had hnam
  refine y_Met_conv (hT y cc maxL ret tab na sp hP d hd av ws sz env0 hav hpre (fun _ => trivial) hGo hwt had hnam) (fun rv u ⟨o, ho, g1, g2, g3, g4⟩ => ⟨o, ho, g1, g2, fun q => ?_, g4⟩)
  have h9 := List.all_eq_true.mp hf.2 o ho
  rw [q] at h9
  cases h9
end YALL
