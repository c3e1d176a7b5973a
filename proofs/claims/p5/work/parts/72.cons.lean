/-- a contract whose runs have been made -/
def y_ck (K : yCon) : Prop := ∃ (HD : List yCut) (fu : Nat), y_ckE yP0 yTY zTF yRC yGR yCTab K HD fu = true ∧ ∀ h ∈ HD, y_ckH yP0 yTY zTF yRC yGR yCTab K HD fu h = true
def y_ckV (K : yCon) : Prop := ∃ (HD : List yCut) (fu : Nat), y_ckE yP0 yTYV zTF yRC yGR yCTabV K HD fu = true ∧ ∀ h ∈ HD, y_ckH yP0 yTYV zTF yRC yGR yCTabV K HD fu h = true
theorem yqV_0 : y_ckV yk_0 := ⟨yh_0, 642, ycV_0, ydV_0⟩
theorem yqV_1 : y_ckV yk_1 := ⟨yh_1, 1034, ycV_1, ydV_1⟩
theorem yqV_2 : y_ckV yk_2 := ⟨yh_2, 622, ycV_2, ydV_2⟩
theorem yqV_3 : y_ckV yk_3 := ⟨yh_3, 1038, ycV_3, ydV_3⟩
theorem yqV_4 : y_ckV yk_4 := ⟨yh_4, 564, ycV_4, ydV_4⟩
theorem yqV_5 : y_ckV yk_5 := ⟨yh_5, 564, ycV_5, ydV_5⟩
theorem yqV_6 : y_ckV yk_6 := ⟨yh_6, 564, ycV_6, ydV_6⟩
theorem yqV_7 : y_ckV yk_7 := ⟨yh_7, 564, ycV_7, ydV_7⟩
theorem yqV_8 : y_ckV yk_8 := ⟨yh_8, 564, ycV_8, ydV_8⟩
theorem yqV_9 : y_ckV yk_9 := ⟨yh_9, 516, ycV_9, ydV_9⟩
theorem yqV_10 : y_ckV yk_10 := ⟨yh_10, 516, ycV_10, ydV_10⟩
theorem yqV_11 : y_ckV yk_11 := ⟨yh_11, 516, ycV_11, ydV_11⟩
theorem yqV_12 : y_ckV yk_12 := ⟨yh_12, 510, ycV_12, ydV_12⟩
theorem yqV_13 : y_ckV yk_13 := ⟨yh_13, 662, ycV_13, ydV_13⟩
theorem yqV_14 : y_ckV yk_14 := ⟨yh_14, 662, ycV_14, ydV_14⟩
theorem yqV_15 : y_ckV yk_15 := ⟨yh_15, 786, ycV_15, ydV_15⟩
theorem yqV_16 : y_ckV yk_16 := ⟨yh_16, 786, ycV_16, ydV_16⟩
theorem yqV_17 : y_ckV yk_17 := ⟨yh_17, 798, ycV_17, ydV_17⟩
theorem yqV_18 : y_ckV yk_18 := ⟨yh_18, 3600, ycV_18, ydV_18⟩
theorem yqV_19 : y_ckV yk_19 := ⟨yh_19, 600, ycV_19, ydV_19⟩
theorem yqV_20 : y_ckV yk_20 := ⟨yh_20, 1948, ycV_20, ydV_20⟩
theorem yqV_21 : y_ckV yk_21 := ⟨yh_21, 570, ycV_21, ydV_21⟩
theorem yqV_22 : y_ckV yk_22 := ⟨yh_22, 1132, ycV_22, ydV_22⟩
theorem yqV_23 : y_ckV yk_23 := ⟨yh_23, 598, ycV_23, ydV_23⟩
theorem yqV_24 : y_ckV yk_24 := ⟨yh_24, 574, ycV_24, ydV_24⟩
theorem yqV_25 : y_ckV yk_25 := ⟨yh_25, 562, ycV_25, ydV_25⟩
theorem yqV_26 : y_ckV yk_26 := ⟨yh_26, 660, ycV_26, ydV_26⟩
theorem yqV_27 : y_ckV yk_27 := ⟨yh_27, 630, ycV_27, ydV_27⟩
theorem yqV_28 : y_ckV yk_28 := ⟨yh_28, 654, ycV_28, ydV_28⟩
theorem yqV_29 : y_ckV yk_29 := ⟨yh_29, 614, ycV_29, ydV_29⟩
theorem yqV_30 : y_ckV yk_30 := ⟨yh_30, 654, ycV_30, ydV_30⟩
theorem yqV_31 : y_ckV yk_31 := ⟨yh_31, 624, ycV_31, ydV_31⟩
theorem yqV_32 : y_ckV yk_32 := ⟨yh_32, 566, ycV_32, ydV_32⟩
theorem yqV_33 : y_ckV yk_33 := ⟨yh_33, 544, ycV_33, ydV_33⟩
theorem yqV_34 : y_ckV yk_34 := ⟨yh_34, 590, ycV_34, ydV_34⟩
theorem yqV_35 : y_ckV yk_35 := ⟨yh_35, 770, ycV_35, ydV_35⟩
theorem yqV_36 : y_ckV yk_36 := ⟨yh_36, 770, ycV_36, ydV_36⟩
theorem yq_37 : y_ck yk_37 := ⟨yh_37, 688, yc_37, yd_37⟩
theorem yq_38 : y_ck yk_38 := ⟨yh_38, 688, yc_38, yd_38⟩
theorem yq_39 : y_ck yk_39 := ⟨yh_39, 688, yc_39, yd_39⟩
theorem yq_40 : y_ck yk_40 := ⟨yh_40, 688, yc_40, yd_40⟩
theorem yq_41 : y_ck yk_41 := ⟨yh_41, 688, yc_41, yd_41⟩
theorem yq_42 : y_ck yk_42 := ⟨yh_42, 536, yc_42, yd_42⟩
theorem yqV_42 : y_ckV yk_42 := ⟨yh_42, 536, ycV_42, ydV_42⟩
theorem yqV_43 : y_ckV yk_43 := ⟨yh_43, 580, ycV_43, ydV_43⟩
theorem yq_44 : y_ck yk_44 := ⟨yh_44, 720, yc_44, yd_44⟩
theorem yqV_44 : y_ckV yk_44 := ⟨yh_44, 720, ycV_44, ydV_44⟩
theorem yq_45 : y_ck yk_45 := ⟨yh_45, 758, yc_45, yd_45⟩
theorem yqV_45 : y_ckV yk_45 := ⟨yh_45, 758, ycV_45, ydV_45⟩
theorem yq_46 : y_ck yk_46 := ⟨yh_46, 636, yc_46, yd_46⟩
theorem yqV_46 : y_ckV yk_46 := ⟨yh_46, 636, ycV_46, ydV_46⟩
theorem yq_47 : y_ck yk_47 := ⟨yh_47, 636, yc_47, yd_47⟩
theorem yqV_47 : y_ckV yk_47 := ⟨yh_47, 636, ycV_47, ydV_47⟩
theorem yq_48 : y_ck yk_48 := ⟨yh_48, 732, yc_48, yd_48⟩
theorem yqV_48 : y_ckV yk_48 := ⟨yh_48, 732, ycV_48, ydV_48⟩
theorem yq_49 : y_ck yk_49 := ⟨yh_49, 818, yc_49, yd_49⟩
theorem yqV_49 : y_ckV yk_49 := ⟨yh_49, 818, ycV_49, ydV_49⟩
theorem yq_50 : y_ck yk_50 := ⟨yh_50, 608, yc_50, yd_50⟩
theorem yqV_50 : y_ckV yk_50 := ⟨yh_50, 608, ycV_50, ydV_50⟩
theorem yq_51 : y_ck yk_51 := ⟨yh_51, 608, yc_51, yd_51⟩
theorem yqV_51 : y_ckV yk_51 := ⟨yh_51, 608, ycV_51, ydV_51⟩
theorem yq_52 : y_ck yk_52 := ⟨yh_52, 608, yc_52, yd_52⟩
theorem yqV_52 : y_ckV yk_52 := ⟨yh_52, 608, ycV_52, ydV_52⟩
theorem yq_53 : y_ck yk_53 := ⟨yh_53, 608, yc_53, yd_53⟩
theorem yqV_53 : y_ckV yk_53 := ⟨yh_53, 608, ycV_53, ydV_53⟩
theorem yq_54 : y_ck yk_54 := ⟨yh_54, 558, yc_54, yd_54⟩
theorem yq_55 : y_ck yk_55 := ⟨yh_55, 558, yc_55, yd_55⟩
theorem yq_56 : y_ck yk_56 := ⟨yh_56, 558, yc_56, yd_56⟩
theorem yq_57 : y_ck yk_57 := ⟨yh_57, 558, yc_57, yd_57⟩
theorem yq_58 : y_ck yk_58 := ⟨yh_58, 558, yc_58, yd_58⟩
theorem yq_59 : y_ck yk_59 := ⟨yh_59, 560, yc_59, yd_59⟩
theorem yqV_59 : y_ckV yk_59 := ⟨yh_59, 560, ycV_59, ydV_59⟩
theorem yq_60 : y_ck yk_60 := ⟨yh_60, 560, yc_60, yd_60⟩
theorem yqV_60 : y_ckV yk_60 := ⟨yh_60, 560, ycV_60, ydV_60⟩
theorem yq_61 : y_ck yk_61 := ⟨yh_61, 560, yc_61, yd_61⟩
theorem yqV_61 : y_ckV yk_61 := ⟨yh_61, 560, ycV_61, ydV_61⟩
theorem yq_62 : y_ck yk_62 := ⟨yh_62, 560, yc_62, yd_62⟩
theorem yqV_62 : y_ckV yk_62 := ⟨yh_62, 560, ycV_62, ydV_62⟩
theorem yq_63 : y_ck yk_63 := ⟨yh_63, 560, yc_63, yd_63⟩
theorem yqV_63 : y_ckV yk_63 := ⟨yh_63, 560, ycV_63, ydV_63⟩
theorem yq_64 : y_ck yk_64 := ⟨yh_64, 560, yc_64, yd_64⟩
theorem yqV_64 : y_ckV yk_64 := ⟨yh_64, 560, ycV_64, ydV_64⟩
theorem yq_65 : y_ck yk_65 := ⟨yh_65, 598, yc_65, yd_65⟩
theorem yqV_65 : y_ckV yk_65 := ⟨yh_65, 598, ycV_65, ydV_65⟩
theorem yq_66 : y_ck yk_66 := ⟨yh_66, 598, yc_66, yd_66⟩
theorem yqV_66 : y_ckV yk_66 := ⟨yh_66, 598, ycV_66, ydV_66⟩
theorem yq_67 : y_ck yk_67 := ⟨yh_67, 598, yc_67, yd_67⟩
theorem yqV_67 : y_ckV yk_67 := ⟨yh_67, 598, ycV_67, ydV_67⟩
theorem yq_68 : y_ck yk_68 := ⟨yh_68, 566, yc_68, yd_68⟩
theorem yqV_68 : y_ckV yk_68 := ⟨yh_68, 566, ycV_68, ydV_68⟩
theorem yq_69 : y_ck yk_69 := ⟨yh_69, 566, yc_69, yd_69⟩
theorem yqV_69 : y_ckV yk_69 := ⟨yh_69, 566, ycV_69, ydV_69⟩
theorem yq_70 : y_ck yk_70 := ⟨yh_70, 566, yc_70, yd_70⟩
theorem yqV_70 : y_ckV yk_70 := ⟨yh_70, 566, ycV_70, ydV_70⟩
theorem yq_71 : y_ck yk_71 := ⟨yh_71, 566, yc_71, yd_71⟩
theorem yqV_71 : y_ckV yk_71 := ⟨yh_71, 566, ycV_71, ydV_71⟩
theorem yq_72 : y_ck yk_72 := ⟨yh_72, 566, yc_72, yd_72⟩
theorem yqV_72 : y_ckV yk_72 := ⟨yh_72, 566, ycV_72, ydV_72⟩
theorem yqV_73 : y_ckV yk_73 := ⟨yh_73, 560, ycV_73, ydV_73⟩
theorem yqV_74 : y_ckV yk_74 := ⟨yh_74, 560, ycV_74, ydV_74⟩
theorem yqV_75 : y_ckV yk_75 := ⟨yh_75, 560, ycV_75, ydV_75⟩
theorem yqV_76 : y_ckV yk_76 := ⟨yh_76, 560, ycV_76, ydV_76⟩
theorem yqV_77 : y_ckV yk_77 := ⟨yh_77, 560, ycV_77, ydV_77⟩
theorem yqV_78 : y_ckV yk_78 := ⟨yh_78, 560, ycV_78, ydV_78⟩
theorem yqV_79 : y_ckV yk_79 := ⟨yh_79, 560, ycV_79, ydV_79⟩
theorem yqV_80 : y_ckV yk_80 := ⟨yh_80, 560, ycV_80, ydV_80⟩
theorem yqV_81 : y_ckV yk_81 := ⟨yh_81, 560, ycV_81, ydV_81⟩
theorem yqV_82 : y_ckV yk_82 := ⟨yh_82, 560, ycV_82, ydV_82⟩
theorem yqV_83 : y_ckV yk_83 := ⟨yh_83, 560, ycV_83, ydV_83⟩
theorem yqV_84 : y_ckV yk_84 := ⟨yh_84, 560, ycV_84, ydV_84⟩
theorem yqV_85 : y_ckV yk_85 := ⟨yh_85, 560, ycV_85, ydV_85⟩
theorem yqV_86 : y_ckV yk_86 := ⟨yh_86, 560, ycV_86, ydV_86⟩
theorem yqV_87 : y_ckV yk_87 := ⟨yh_87, 560, ycV_87, ydV_87⟩
theorem yqV_88 : y_ckV yk_88 := ⟨yh_88, 868, ycV_88, ydV_88⟩
theorem yqV_89 : y_ckV yk_89 := ⟨yh_89, 556, ycV_89, ydV_89⟩
theorem yqV_90 : y_ckV yk_90 := ⟨yh_90, 1602, ycV_90, ydV_90⟩
theorem yqV_91 : y_ckV yk_91 := ⟨yh_91, 616, ycV_91, ydV_91⟩
theorem yqV_92 : y_ckV yk_92 := ⟨yh_92, 616, ycV_92, ydV_92⟩
theorem yqV_93 : y_ckV yk_93 := ⟨yh_93, 616, ycV_93, ydV_93⟩
theorem yqV_94 : y_ckV yk_94 := ⟨yh_94, 616, ycV_94, ydV_94⟩
theorem yqV_95 : y_ckV yk_95 := ⟨yh_95, 616, ycV_95, ydV_95⟩
theorem yqV_96 : y_ckV yk_96 := ⟨yh_96, 616, ycV_96, ydV_96⟩
theorem yqV_97 : y_ckV yk_97 := ⟨yh_97, 616, ycV_97, ydV_97⟩
theorem yqV_98 : y_ckV yk_98 := ⟨yh_98, 616, ycV_98, ydV_98⟩
theorem yqV_99 : y_ckV yk_99 := ⟨yh_99, 512, ycV_99, ydV_99⟩
theorem yqV_100 : y_ckV yk_100 := ⟨yh_100, 616, ycV_100, ydV_100⟩
theorem yqV_101 : y_ckV yk_101 := ⟨yh_101, 616, ycV_101, ydV_101⟩
theorem yqV_102 : y_ckV yk_102 := ⟨yh_102, 616, ycV_102, ydV_102⟩
theorem yqV_103 : y_ckV yk_103 := ⟨yh_103, 616, ycV_103, ydV_103⟩
theorem yqV_104 : y_ckV yk_104 := ⟨yh_104, 616, ycV_104, ydV_104⟩
theorem yqV_105 : y_ckV yk_105 := ⟨yh_105, 616, ycV_105, ydV_105⟩
theorem yqV_106 : y_ckV yk_106 := ⟨yh_106, 616, ycV_106, ydV_106⟩
theorem yqV_107 : y_ckV yk_107 := ⟨yh_107, 616, ycV_107, ydV_107⟩
theorem yqV_108 : y_ckV yk_108 := ⟨yh_108, 512, ycV_108, ydV_108⟩
theorem yqV_109 : y_ckV yk_109 := ⟨yh_109, 912, ycV_109, ydV_109⟩
theorem yqV_110 : y_ckV yk_110 := ⟨yh_110, 912, ycV_110, ydV_110⟩
theorem yqV_111 : y_ckV yk_111 := ⟨yh_111, 912, ycV_111, ydV_111⟩
theorem yqV_112 : y_ckV yk_112 := ⟨yh_112, 912, ycV_112, ydV_112⟩
theorem yqV_113 : y_ckV yk_113 := ⟨yh_113, 912, ycV_113, ydV_113⟩
theorem yqV_114 : y_ckV yk_114 := ⟨yh_114, 912, ycV_114, ydV_114⟩
theorem yqV_115 : y_ckV yk_115 := ⟨yh_115, 912, ycV_115, ydV_115⟩
theorem yqV_116 : y_ckV yk_116 := ⟨yh_116, 870, ycV_116, ydV_116⟩
theorem yqV_117 : y_ckV yk_117 := ⟨yh_117, 814, ycV_117, ydV_117⟩
theorem yqV_118 : y_ckV yk_118 := ⟨yh_118, 1234, ycV_118, ydV_118⟩
theorem yq_119 : y_ck yk_119 := ⟨yh_119, 624, yc_119, yd_119⟩
theorem yq_120 : y_ck yk_120 := ⟨yh_120, 646, yc_120, yd_120⟩
theorem yqV_120 : y_ckV yk_120 := ⟨yh_120, 646, ycV_120, ydV_120⟩
theorem yq_121 : y_ck yk_121 := ⟨yh_121, 646, yc_121, yd_121⟩
theorem yqV_121 : y_ckV yk_121 := ⟨yh_121, 646, ycV_121, ydV_121⟩
theorem yq_122 : y_ck yk_122 := ⟨yh_122, 646, yc_122, yd_122⟩
theorem yqV_122 : y_ckV yk_122 := ⟨yh_122, 646, ycV_122, ydV_122⟩
theorem yq_123 : y_ck yk_123 := ⟨yh_123, 646, yc_123, yd_123⟩
theorem yqV_123 : y_ckV yk_123 := ⟨yh_123, 646, ycV_123, ydV_123⟩
theorem yq_124 : y_ck yk_124 := ⟨yh_124, 646, yc_124, yd_124⟩
theorem yqV_124 : y_ckV yk_124 := ⟨yh_124, 646, ycV_124, ydV_124⟩
theorem yq_125 : y_ck yk_125 := ⟨yh_125, 646, yc_125, yd_125⟩
theorem yqV_125 : y_ckV yk_125 := ⟨yh_125, 646, ycV_125, ydV_125⟩
theorem yq_126 : y_ck yk_126 := ⟨yh_126, 646, yc_126, yd_126⟩
theorem yqV_126 : y_ckV yk_126 := ⟨yh_126, 646, ycV_126, ydV_126⟩
theorem yq_127 : y_ck yk_127 := ⟨yh_127, 646, yc_127, yd_127⟩
theorem yqV_127 : y_ckV yk_127 := ⟨yh_127, 646, ycV_127, ydV_127⟩
theorem yq_128 : y_ck yk_128 := ⟨yh_128, 646, yc_128, yd_128⟩
theorem yqV_128 : y_ckV yk_128 := ⟨yh_128, 646, ycV_128, ydV_128⟩
theorem yq_129 : y_ck yk_129 := ⟨yh_129, 646, yc_129, yd_129⟩
theorem yqV_129 : y_ckV yk_129 := ⟨yh_129, 646, ycV_129, ydV_129⟩
theorem yq_130 : y_ck yk_130 := ⟨yh_130, 646, yc_130, yd_130⟩
theorem yqV_130 : y_ckV yk_130 := ⟨yh_130, 646, ycV_130, ydV_130⟩
theorem yq_131 : y_ck yk_131 := ⟨yh_131, 646, yc_131, yd_131⟩
theorem yqV_131 : y_ckV yk_131 := ⟨yh_131, 646, ycV_131, ydV_131⟩
theorem yq_132 : y_ck yk_132 := ⟨yh_132, 646, yc_132, yd_132⟩
theorem yqV_132 : y_ckV yk_132 := ⟨yh_132, 646, ycV_132, ydV_132⟩
theorem yq_133 : y_ck yk_133 := ⟨yh_133, 646, yc_133, yd_133⟩
theorem yqV_133 : y_ckV yk_133 := ⟨yh_133, 646, ycV_133, ydV_133⟩
theorem yq_134 : y_ck yk_134 := ⟨yh_134, 646, yc_134, yd_134⟩
theorem yqV_134 : y_ckV yk_134 := ⟨yh_134, 646, ycV_134, ydV_134⟩
theorem yq_135 : y_ck yk_135 := ⟨yh_135, 646, yc_135, yd_135⟩
theorem yqV_135 : y_ckV yk_135 := ⟨yh_135, 646, ycV_135, ydV_135⟩
theorem yq_136 : y_ck yk_136 := ⟨yh_136, 646, yc_136, yd_136⟩
theorem yqV_136 : y_ckV yk_136 := ⟨yh_136, 646, ycV_136, ydV_136⟩
theorem yq_137 : y_ck yk_137 := ⟨yh_137, 646, yc_137, yd_137⟩
theorem yqV_137 : y_ckV yk_137 := ⟨yh_137, 646, ycV_137, ydV_137⟩
theorem yq_138 : y_ck yk_138 := ⟨yh_138, 646, yc_138, yd_138⟩
theorem yqV_138 : y_ckV yk_138 := ⟨yh_138, 646, ycV_138, ydV_138⟩
theorem yq_139 : y_ck yk_139 := ⟨yh_139, 646, yc_139, yd_139⟩
theorem yqV_139 : y_ckV yk_139 := ⟨yh_139, 646, ycV_139, ydV_139⟩
theorem yq_140 : y_ck yk_140 := ⟨yh_140, 646, yc_140, yd_140⟩
theorem yqV_140 : y_ckV yk_140 := ⟨yh_140, 646, ycV_140, ydV_140⟩
theorem yq_141 : y_ck yk_141 := ⟨yh_141, 646, yc_141, yd_141⟩
theorem yqV_141 : y_ckV yk_141 := ⟨yh_141, 646, ycV_141, ydV_141⟩
theorem yq_142 : y_ck yk_142 := ⟨yh_142, 646, yc_142, yd_142⟩
theorem yqV_142 : y_ckV yk_142 := ⟨yh_142, 646, ycV_142, ydV_142⟩
theorem yqV_143 : y_ckV yk_143 := ⟨yh_143, 542, ycV_143, ydV_143⟩
theorem yqV_144 : y_ckV yk_144 := ⟨yh_144, 542, ycV_144, ydV_144⟩
theorem yqV_145 : y_ckV yk_145 := ⟨yh_145, 554, ycV_145, ydV_145⟩
theorem yqV_146 : y_ckV yk_146 := ⟨yh_146, 554, ycV_146, ydV_146⟩
theorem yqV_147 : y_ckV yk_147 := ⟨yh_147, 554, ycV_147, ydV_147⟩
theorem yqV_148 : y_ckV yk_148 := ⟨yh_148, 572, ycV_148, ydV_148⟩
theorem yqV_149 : y_ckV yk_149 := ⟨yh_149, 574, ycV_149, ydV_149⟩
theorem yqV_150 : y_ckV yk_150 := ⟨yh_150, 694, ycV_150, ydV_150⟩
theorem yqV_151 : y_ckV yk_151 := ⟨yh_151, 694, ycV_151, ydV_151⟩
theorem yqV_152 : y_ckV yk_152 := ⟨yh_152, 596, ycV_152, ydV_152⟩
theorem yqV_153 : y_ckV yk_153 := ⟨yh_153, 596, ycV_153, ydV_153⟩
theorem yqV_154 : y_ckV yk_154 := ⟨yh_154, 636, ycV_154, ydV_154⟩
theorem yqV_155 : y_ckV yk_155 := ⟨yh_155, 636, ycV_155, ydV_155⟩
theorem yqV_156 : y_ckV yk_156 := ⟨yh_156, 546, ycV_156, ydV_156⟩
theorem yqV_157 : y_ckV yk_157 := ⟨yh_157, 546, ycV_157, ydV_157⟩
theorem yqV_158 : y_ckV yk_158 := ⟨yh_158, 610, ycV_158, ydV_158⟩
theorem yqV_159 : y_ckV yk_159 := ⟨yh_159, 610, ycV_159, ydV_159⟩
theorem yqV_160 : y_ckV yk_160 := ⟨yh_160, 536, ycV_160, ydV_160⟩
theorem yqV_161 : y_ckV yk_161 := ⟨yh_161, 536, ycV_161, ydV_161⟩
theorem yqV_162 : y_ckV yk_162 := ⟨yh_162, 578, ycV_162, ydV_162⟩
theorem yqV_163 : y_ckV yk_163 := ⟨yh_163, 578, ycV_163, ydV_163⟩
theorem yqV_164 : y_ckV yk_164 := ⟨yh_164, 554, ycV_164, ydV_164⟩
theorem yqV_165 : y_ckV yk_165 := ⟨yh_165, 554, ycV_165, ydV_165⟩
theorem yqV_166 : y_ckV yk_166 := ⟨yh_166, 962, ycV_166, ydV_166⟩
theorem yqV_167 : y_ckV yk_167 := ⟨yh_167, 962, ycV_167, ydV_167⟩
theorem yqV_168 : y_ckV yk_168 := ⟨yh_168, 704, ycV_168, ydV_168⟩
theorem yqV_169 : y_ckV yk_169 := ⟨yh_169, 704, ycV_169, ydV_169⟩
theorem yqV_170 : y_ckV yk_170 := ⟨yh_170, 838, ycV_170, ydV_170⟩
theorem yq_171 : y_ck yk_171 := ⟨yh_171, 530, yc_171, yd_171⟩
theorem yqV_171 : y_ckV yk_171 := ⟨yh_171, 530, ycV_171, ydV_171⟩
theorem yq_172 : y_ck yk_172 := ⟨yh_172, 530, yc_172, yd_172⟩
theorem yqV_172 : y_ckV yk_172 := ⟨yh_172, 530, ycV_172, ydV_172⟩
theorem yq_173 : y_ck yk_173 := ⟨yh_173, 530, yc_173, yd_173⟩
theorem yqV_173 : y_ckV yk_173 := ⟨yh_173, 530, ycV_173, ydV_173⟩
theorem yq_174 : y_ck yk_174 := ⟨yh_174, 1044, yc_174, yd_174⟩
theorem yqV_174 : y_ckV yk_174 := ⟨yh_174, 1044, ycV_174, ydV_174⟩
theorem yq_175 : y_ck yk_175 := ⟨yh_175, 554, yc_175, yd_175⟩
theorem yqV_175 : y_ckV yk_175 := ⟨yh_175, 554, ycV_175, ydV_175⟩
theorem yq_176 : y_ck yk_176 := ⟨yh_176, 886, yc_176, yd_176⟩
theorem yqV_176 : y_ckV yk_176 := ⟨yh_176, 886, ycV_176, ydV_176⟩
theorem yq_177 : y_ck yk_177 := ⟨yh_177, 554, yc_177, yd_177⟩
theorem yqV_177 : y_ckV yk_177 := ⟨yh_177, 554, ycV_177, ydV_177⟩
theorem yq_178 : y_ck yk_178 := ⟨yh_178, 602, yc_178, yd_178⟩
theorem yqV_178 : y_ckV yk_178 := ⟨yh_178, 602, ycV_178, ydV_178⟩
theorem yq_179 : y_ck yk_179 := ⟨yh_179, 602, yc_179, yd_179⟩
theorem yqV_179 : y_ckV yk_179 := ⟨yh_179, 602, ycV_179, ydV_179⟩
theorem yq_180 : y_ck yk_180 := ⟨yh_180, 628, yc_180, yd_180⟩
theorem yqV_180 : y_ckV yk_180 := ⟨yh_180, 628, ycV_180, ydV_180⟩
theorem yq_181 : y_ck yk_181 := ⟨yh_181, 628, yc_181, yd_181⟩
theorem yqV_181 : y_ckV yk_181 := ⟨yh_181, 628, ycV_181, ydV_181⟩
theorem yq_182 : y_ck yk_182 := ⟨yh_182, 628, yc_182, yd_182⟩
theorem yqV_182 : y_ckV yk_182 := ⟨yh_182, 628, ycV_182, ydV_182⟩
theorem yq_183 : y_ck yk_183 := ⟨yh_183, 628, yc_183, yd_183⟩
theorem yqV_183 : y_ckV yk_183 := ⟨yh_183, 628, ycV_183, ydV_183⟩
theorem yq_184 : y_ck yk_184 := ⟨yh_184, 628, yc_184, yd_184⟩
theorem yqV_184 : y_ckV yk_184 := ⟨yh_184, 628, ycV_184, ydV_184⟩
theorem yq_185 : y_ck yk_185 := ⟨yh_185, 628, yc_185, yd_185⟩
theorem yqV_185 : y_ckV yk_185 := ⟨yh_185, 628, ycV_185, ydV_185⟩
theorem yq_186 : y_ck yk_186 := ⟨yh_186, 628, yc_186, yd_186⟩
theorem yqV_186 : y_ckV yk_186 := ⟨yh_186, 628, ycV_186, ydV_186⟩
theorem yq_187 : y_ck yk_187 := ⟨yh_187, 628, yc_187, yd_187⟩
theorem yqV_187 : y_ckV yk_187 := ⟨yh_187, 628, ycV_187, ydV_187⟩
theorem yq_188 : y_ck yk_188 := ⟨yh_188, 628, yc_188, yd_188⟩
theorem yqV_188 : y_ckV yk_188 := ⟨yh_188, 628, ycV_188, ydV_188⟩
theorem yq_189 : y_ck yk_189 := ⟨yh_189, 602, yc_189, yd_189⟩
theorem yqV_189 : y_ckV yk_189 := ⟨yh_189, 602, ycV_189, ydV_189⟩
theorem yq_190 : y_ck yk_190 := ⟨yh_190, 602, yc_190, yd_190⟩
theorem yqV_190 : y_ckV yk_190 := ⟨yh_190, 602, ycV_190, ydV_190⟩
theorem yq_191 : y_ck yk_191 := ⟨yh_191, 602, yc_191, yd_191⟩
theorem yqV_191 : y_ckV yk_191 := ⟨yh_191, 602, ycV_191, ydV_191⟩
theorem yq_192 : y_ck yk_192 := ⟨yh_192, 602, yc_192, yd_192⟩
theorem yqV_192 : y_ckV yk_192 := ⟨yh_192, 602, ycV_192, ydV_192⟩
theorem yq_193 : y_ck yk_193 := ⟨yh_193, 602, yc_193, yd_193⟩
theorem yqV_193 : y_ckV yk_193 := ⟨yh_193, 602, ycV_193, ydV_193⟩
theorem yq_194 : y_ck yk_194 := ⟨yh_194, 602, yc_194, yd_194⟩
theorem yqV_194 : y_ckV yk_194 := ⟨yh_194, 602, ycV_194, ydV_194⟩
theorem yq_195 : y_ck yk_195 := ⟨yh_195, 584, yc_195, yd_195⟩
theorem yqV_195 : y_ckV yk_195 := ⟨yh_195, 584, ycV_195, ydV_195⟩
theorem yq_196 : y_ck yk_196 := ⟨yh_196, 584, yc_196, yd_196⟩
theorem yqV_196 : y_ckV yk_196 := ⟨yh_196, 584, ycV_196, ydV_196⟩
theorem yq_197 : y_ck yk_197 := ⟨yh_197, 584, yc_197, yd_197⟩
theorem yqV_197 : y_ckV yk_197 := ⟨yh_197, 584, ycV_197, ydV_197⟩
theorem yqV_198 : y_ckV yk_198 := ⟨yh_198, 562, ycV_198, ydV_198⟩
theorem yqV_199 : y_ckV yk_199 := ⟨yh_199, 534, ycV_199, ydV_199⟩
theorem yq_200 : y_ck yk_200 := ⟨yh_200, 638, yc_200, yd_200⟩
theorem yqV_201 : y_ckV yk_201 := ⟨yh_201, 506, ycV_201, ydV_201⟩
theorem yqV_202 : y_ckV yk_202 := ⟨yh_202, 726, ycV_202, ydV_202⟩
theorem yqV_203 : y_ckV yk_203 := ⟨yh_203, 676, ycV_203, ydV_203⟩
theorem yqV_204 : y_ckV yk_204 := ⟨yh_204, 1584, ycV_204, ydV_204⟩
theorem yqV_205 : y_ckV yk_205 := ⟨yh_205, 1584, ycV_205, ydV_205⟩
theorem yqV_206 : y_ckV yk_206 := ⟨yh_206, 1584, ycV_206, ydV_206⟩
theorem yqV_207 : y_ckV yk_207 := ⟨yh_207, 1410, ycV_207, ydV_207⟩
theorem yqV_208 : y_ckV yk_208 := ⟨yh_208, 1352, ycV_208, ydV_208⟩
theorem yqV_209 : y_ckV yk_209 := ⟨yh_209, 760, ycV_209, ydV_209⟩
theorem yqV_210 : y_ckV yk_210 := ⟨yh_210, 578, ycV_210, ydV_210⟩
theorem yqV_211 : y_ckV yk_211 := ⟨yh_211, 508, ycV_211, ydV_211⟩
theorem yqV_212 : y_ckV yk_212 := ⟨yh_212, 708, ycV_212, ydV_212⟩
theorem yqV_213 : y_ckV yk_213 := ⟨yh_213, 508, ycV_213, ydV_213⟩
theorem yqV_214 : y_ckV yk_214 := ⟨yh_214, 564, ycV_214, ydV_214⟩
theorem yqV_215 : y_ckV yk_215 := ⟨yh_215, 536, ycV_215, ydV_215⟩
theorem yqV_216 : y_ckV yk_216 := ⟨yh_216, 538, ycV_216, ydV_216⟩
theorem yqV_217 : y_ckV yk_217 := ⟨yh_217, 632, ycV_217, ydV_217⟩
theorem yqV_218 : y_ckV yk_218 := ⟨yh_218, 632, ycV_218, ydV_218⟩
theorem yqV_219 : y_ckV yk_219 := ⟨yh_219, 556, ycV_219, ydV_219⟩
theorem yqV_220 : y_ckV yk_220 := ⟨yh_220, 512, ycV_220, ydV_220⟩
theorem yqV_221 : y_ckV yk_221 := ⟨yh_221, 564, ycV_221, ydV_221⟩
theorem yqV_222 : y_ckV yk_222 := ⟨yh_222, 606, ycV_222, ydV_222⟩
theorem yqV_223 : y_ckV yk_223 := ⟨yh_223, 538, ycV_223, ydV_223⟩
theorem yqV_224 : y_ckV yk_224 := ⟨yh_224, 508, ycV_224, ydV_224⟩
theorem yqV_225 : y_ckV yk_225 := ⟨yh_225, 508, ycV_225, ydV_225⟩
theorem yqV_226 : y_ckV yk_226 := ⟨yh_226, 510, ycV_226, ydV_226⟩
theorem yqV_227 : y_ckV yk_227 := ⟨yh_227, 508, ycV_227, ydV_227⟩
theorem yqV_228 : y_ckV yk_228 := ⟨yh_228, 1382, ycV_228, ydV_228⟩
theorem yqV_229 : y_ckV yk_229 := ⟨yh_229, 594, ycV_229, ydV_229⟩
theorem yqV_230 : y_ckV yk_230 := ⟨yh_230, 1484, ycV_230, ydV_230⟩
theorem yqV_231 : y_ckV yk_231 := ⟨yh_231, 538, ycV_231, ydV_231⟩
theorem yqV_232 : y_ckV yk_232 := ⟨yh_232, 764, ycV_232, ydV_232⟩
theorem yqV_233 : y_ckV yk_233 := ⟨yh_233, 742, ycV_233, ydV_233⟩
theorem yq_234 : y_ck yk_234 := ⟨yh_234, 626, yc_234, yd_234⟩
theorem yq_235 : y_ck yk_235 := ⟨yh_235, 674, yc_235, yd_235⟩
theorem yqV_236 : y_ckV yk_236 := ⟨yh_236, 572, ycV_236, ydV_236⟩
theorem yqV_237 : y_ckV yk_237 := ⟨yh_237, 550, ycV_237, ydV_237⟩
theorem yqV_238 : y_ckV yk_238 := ⟨yh_238, 1368, ycV_238, ydV_238⟩
theorem yqV_239 : y_ckV yk_239 := ⟨yh_239, 536, ycV_239, ydV_239⟩
theorem yqV_240 : y_ckV yk_240 := ⟨yh_240, 6636, ycV_240, ydV_240⟩
theorem yq_241 : y_ck yk_241 := ⟨yh_241, 1782, yc_241, yd_241⟩
theorem yq_242 : y_ck yk_242 := ⟨yh_242, 13674, yc_242, yd_242⟩
theorem yqV_242 : y_ckV yk_242 := ⟨yh_242, 13674, ycV_242, ydV_242⟩
theorem yq_243 : y_ck yk_243 := ⟨yh_243, 582, yc_243, yd_243⟩
theorem yqV_243 : y_ckV yk_243 := ⟨yh_243, 582, ycV_243, ydV_243⟩
theorem yq_244 : y_ck yk_244 := ⟨yh_244, 660, yc_244, yd_244⟩
theorem yqV_244 : y_ckV yk_244 := ⟨yh_244, 660, ycV_244, ydV_244⟩
theorem yq_245 : y_ck yk_245 := ⟨yh_245, 660, yc_245, yd_245⟩
theorem yqV_245 : y_ckV yk_245 := ⟨yh_245, 660, ycV_245, ydV_245⟩
theorem yq_246 : y_ck yk_246 := ⟨yh_246, 660, yc_246, yd_246⟩
theorem yqV_246 : y_ckV yk_246 := ⟨yh_246, 660, ycV_246, ydV_246⟩
theorem yq_247 : y_ck yk_247 := ⟨yh_247, 660, yc_247, yd_247⟩
theorem yqV_247 : y_ckV yk_247 := ⟨yh_247, 660, ycV_247, ydV_247⟩
theorem yq_248 : y_ck yk_248 := ⟨yh_248, 660, yc_248, yd_248⟩
theorem yqV_248 : y_ckV yk_248 := ⟨yh_248, 660, ycV_248, ydV_248⟩
theorem yq_249 : y_ck yk_249 := ⟨yh_249, 660, yc_249, yd_249⟩
theorem yqV_249 : y_ckV yk_249 := ⟨yh_249, 660, ycV_249, ydV_249⟩
theorem yq_250 : y_ck yk_250 := ⟨yh_250, 660, yc_250, yd_250⟩
theorem yqV_250 : y_ckV yk_250 := ⟨yh_250, 660, ycV_250, ydV_250⟩
theorem yq_251 : y_ck yk_251 := ⟨yh_251, 604, yc_251, yd_251⟩
theorem yqV_251 : y_ckV yk_251 := ⟨yh_251, 604, ycV_251, ydV_251⟩
theorem yq_252 : y_ck yk_252 := ⟨yh_252, 604, yc_252, yd_252⟩
theorem yqV_252 : y_ckV yk_252 := ⟨yh_252, 604, ycV_252, ydV_252⟩
theorem yq_253 : y_ck yk_253 := ⟨yh_253, 604, yc_253, yd_253⟩
theorem yqV_253 : y_ckV yk_253 := ⟨yh_253, 604, ycV_253, ydV_253⟩
theorem yq_254 : y_ck yk_254 := ⟨yh_254, 604, yc_254, yd_254⟩
theorem yqV_254 : y_ckV yk_254 := ⟨yh_254, 604, ycV_254, ydV_254⟩
theorem yq_255 : y_ck yk_255 := ⟨yh_255, 604, yc_255, yd_255⟩
theorem yqV_255 : y_ckV yk_255 := ⟨yh_255, 604, ycV_255, ydV_255⟩
theorem yq_256 : y_ck yk_256 := ⟨yh_256, 604, yc_256, yd_256⟩
theorem yqV_256 : y_ckV yk_256 := ⟨yh_256, 604, ycV_256, ydV_256⟩
theorem yq_257 : y_ck yk_257 := ⟨yh_257, 604, yc_257, yd_257⟩
theorem yqV_257 : y_ckV yk_257 := ⟨yh_257, 604, ycV_257, ydV_257⟩
theorem yq_258 : y_ck yk_258 := ⟨yh_258, 604, yc_258, yd_258⟩
theorem yqV_258 : y_ckV yk_258 := ⟨yh_258, 604, ycV_258, ydV_258⟩
theorem yq_259 : y_ck yk_259 := ⟨yh_259, 604, yc_259, yd_259⟩
theorem yqV_259 : y_ckV yk_259 := ⟨yh_259, 604, ycV_259, ydV_259⟩
theorem yq_260 : y_ck yk_260 := ⟨yh_260, 542, yc_260, yd_260⟩
theorem yqV_260 : y_ckV yk_260 := ⟨yh_260, 542, ycV_260, ydV_260⟩
theorem yq_261 : y_ck yk_261 := ⟨yh_261, 542, yc_261, yd_261⟩
theorem yqV_261 : y_ckV yk_261 := ⟨yh_261, 542, ycV_261, ydV_261⟩
theorem yq_262 : y_ck yk_262 := ⟨yh_262, 542, yc_262, yd_262⟩
theorem yqV_262 : y_ckV yk_262 := ⟨yh_262, 542, ycV_262, ydV_262⟩
theorem yq_263 : y_ck yk_263 := ⟨yh_263, 542, yc_263, yd_263⟩
theorem yqV_263 : y_ckV yk_263 := ⟨yh_263, 542, ycV_263, ydV_263⟩
theorem yq_264 : y_ck yk_264 := ⟨yh_264, 542, yc_264, yd_264⟩
theorem yqV_264 : y_ckV yk_264 := ⟨yh_264, 542, ycV_264, ydV_264⟩
theorem yq_265 : y_ck yk_265 := ⟨yh_265, 542, yc_265, yd_265⟩
theorem yqV_265 : y_ckV yk_265 := ⟨yh_265, 542, ycV_265, ydV_265⟩
theorem yq_266 : y_ck yk_266 := ⟨yh_266, 700, yc_266, yd_266⟩
theorem yqV_266 : y_ckV yk_266 := ⟨yh_266, 700, ycV_266, ydV_266⟩
theorem yq_267 : y_ck yk_267 := ⟨yh_267, 700, yc_267, yd_267⟩
theorem yqV_267 : y_ckV yk_267 := ⟨yh_267, 700, ycV_267, ydV_267⟩
theorem yq_268 : y_ck yk_268 := ⟨yh_268, 700, yc_268, yd_268⟩
theorem yqV_268 : y_ckV yk_268 := ⟨yh_268, 700, ycV_268, ydV_268⟩
theorem yq_269 : y_ck yk_269 := ⟨yh_269, 594, yc_269, yd_269⟩
theorem yqV_269 : y_ckV yk_269 := ⟨yh_269, 594, ycV_269, ydV_269⟩
theorem yq_270 : y_ck yk_270 := ⟨yh_270, 594, yc_270, yd_270⟩
theorem yqV_270 : y_ckV yk_270 := ⟨yh_270, 594, ycV_270, ydV_270⟩
theorem yq_271 : y_ck yk_271 := ⟨yh_271, 594, yc_271, yd_271⟩
theorem yqV_271 : y_ckV yk_271 := ⟨yh_271, 594, ycV_271, ydV_271⟩
theorem yq_272 : y_ck yk_272 := ⟨yh_272, 594, yc_272, yd_272⟩
theorem yqV_272 : y_ckV yk_272 := ⟨yh_272, 594, ycV_272, ydV_272⟩
theorem yq_273 : y_ck yk_273 := ⟨yh_273, 540, yc_273, yd_273⟩
theorem yqV_273 : y_ckV yk_273 := ⟨yh_273, 540, ycV_273, ydV_273⟩
theorem yq_274 : y_ck yk_274 := ⟨yh_274, 540, yc_274, yd_274⟩
theorem yqV_274 : y_ckV yk_274 := ⟨yh_274, 540, ycV_274, ydV_274⟩
theorem yq_275 : y_ck yk_275 := ⟨yh_275, 540, yc_275, yd_275⟩
theorem yqV_275 : y_ckV yk_275 := ⟨yh_275, 540, ycV_275, ydV_275⟩
theorem yq_276 : y_ck yk_276 := ⟨yh_276, 540, yc_276, yd_276⟩
theorem yqV_276 : y_ckV yk_276 := ⟨yh_276, 540, ycV_276, ydV_276⟩
theorem yq_277 : y_ck yk_277 := ⟨yh_277, 692, yc_277, yd_277⟩
theorem yqV_277 : y_ckV yk_277 := ⟨yh_277, 692, ycV_277, ydV_277⟩
theorem yq_278 : y_ck yk_278 := ⟨yh_278, 692, yc_278, yd_278⟩
theorem yqV_278 : y_ckV yk_278 := ⟨yh_278, 692, ycV_278, ydV_278⟩
theorem yq_279 : y_ck yk_279 := ⟨yh_279, 692, yc_279, yd_279⟩
theorem yqV_279 : y_ckV yk_279 := ⟨yh_279, 692, ycV_279, ydV_279⟩
theorem yq_280 : y_ck yk_280 := ⟨yh_280, 692, yc_280, yd_280⟩
theorem yqV_280 : y_ckV yk_280 := ⟨yh_280, 692, ycV_280, ydV_280⟩
theorem yq_281 : y_ck yk_281 := ⟨yh_281, 16470, yc_281, yd_281⟩
theorem yqV_281 : y_ckV yk_281 := ⟨yh_281, 16470, ycV_281, ydV_281⟩
theorem yq_282 : y_ck yk_282 := ⟨yh_282, 1452, yc_282, yd_282⟩
theorem yqV_282 : y_ckV yk_282 := ⟨yh_282, 1452, ycV_282, ydV_282⟩
theorem yq_283 : y_ck yk_283 := ⟨yh_283, 10666, yc_283, yd_283⟩
theorem yqV_284 : y_ckV yk_284 := ⟨yh_284, 512, ycV_284, ydV_284⟩
theorem yqV_285 : y_ckV yk_285 := ⟨yh_285, 602, ycV_285, ydV_285⟩
theorem yqV_286 : y_ckV yk_286 := ⟨yh_286, 548, ycV_286, ydV_286⟩
theorem yqV_287 : y_ckV yk_287 := ⟨yh_287, 568, ycV_287, ydV_287⟩
theorem yqV_288 : y_ckV yk_288 := ⟨yh_288, 568, ycV_288, ydV_288⟩
theorem yqV_289 : y_ckV yk_289 := ⟨yh_289, 568, ycV_289, ydV_289⟩
theorem yqV_290 : y_ckV yk_290 := ⟨yh_290, 592, ycV_290, ydV_290⟩
theorem yqV_291 : y_ckV yk_291 := ⟨yh_291, 536, ycV_291, ydV_291⟩
theorem yqV_292 : y_ckV yk_292 := ⟨yh_292, 710, ycV_292, ydV_292⟩
theorem yqV_293 : y_ckV yk_293 := ⟨yh_293, 890, ycV_293, ydV_293⟩
theorem yqV_294 : y_ckV yk_294 := ⟨yh_294, 1214, ycV_294, ydV_294⟩
theorem yqV_295 : y_ckV yk_295 := ⟨yh_295, 810, ycV_295, ydV_295⟩
theorem yqV_296 : y_ckV yk_296 := ⟨yh_296, 694, ycV_296, ydV_296⟩
theorem yqV_297 : y_ckV yk_297 := ⟨yh_297, 562, ycV_297, ydV_297⟩
theorem yqV_298 : y_ckV yk_298 := ⟨yh_298, 534, ycV_298, ydV_298⟩
theorem yqV_299 : y_ckV yk_299 := ⟨yh_299, 608, ycV_299, ydV_299⟩
theorem yqV_300 : y_ckV yk_300 := ⟨yh_300, 554, ycV_300, ydV_300⟩
theorem yqV_301 : y_ckV yk_301 := ⟨yh_301, 4090, ycV_301, ydV_301⟩
theorem yqV_302 : y_ckV yk_302 := ⟨yh_302, 548, ycV_302, ydV_302⟩
theorem yqV_303 : y_ckV yk_303 := ⟨yh_303, 800, ycV_303, ydV_303⟩
theorem yqV_304 : y_ckV yk_304 := ⟨yh_304, 1324, ycV_304, ydV_304⟩
theorem yqV_305 : y_ckV yk_305 := ⟨yh_305, 1324, ycV_305, ydV_305⟩
theorem yqV_306 : y_ckV yk_306 := ⟨yh_306, 538, ycV_306, ydV_306⟩
theorem yqV_307 : y_ckV yk_307 := ⟨yh_307, 792, ycV_307, ydV_307⟩
theorem yqV_308 : y_ckV yk_308 := ⟨yh_308, 952, ycV_308, ydV_308⟩
theorem yqV_309 : y_ckV yk_309 := ⟨yh_309, 750, ycV_309, ydV_309⟩
theorem yqV_310 : y_ckV yk_310 := ⟨yh_310, 630, ycV_310, ydV_310⟩
theorem yqV_311 : y_ckV yk_311 := ⟨yh_311, 582, ycV_311, ydV_311⟩
theorem yqV_312 : y_ckV yk_312 := ⟨yh_312, 30208, ycV_312, ydV_312⟩
theorem yqV_313 : y_ckV yk_313 := ⟨yh_313, 18312, ycV_313, ydV_313⟩
theorem yqV_314 : y_ckV yk_314 := ⟨yh_314, 2192, ycV_314, ydV_314⟩
theorem yqV_315 : y_ckV yk_315 := ⟨yh_315, 2192, ycV_315, ydV_315⟩
theorem yqV_316 : y_ckV yk_316 := ⟨yh_316, 686, ycV_316, ydV_316⟩
theorem yqV_317 : y_ckV yk_317 := ⟨yh_317, 1064, ycV_317, ydV_317⟩
theorem yqV_318 : y_ckV yk_318 := ⟨yh_318, 524, ycV_318, ydV_318⟩
theorem yqV_319 : y_ckV yk_319 := ⟨yh_319, 3490, ycV_319, ydV_319⟩
theorem yqV_320 : y_ckV yk_320 := ⟨yh_320, 524, ycV_320, ydV_320⟩
theorem yqV_321 : y_ckV yk_321 := ⟨yh_321, 544, ycV_321, ydV_321⟩
theorem yqV_322 : y_ckV yk_322 := ⟨yh_322, 590, ycV_322, ydV_322⟩
theorem yqV_323 : y_ckV yk_323 := ⟨yh_323, 580, ycV_323, ydV_323⟩
theorem yqV_324 : y_ckV yk_324 := ⟨yh_324, 638, ycV_324, ydV_324⟩
theorem yqV_325 : y_ckV yk_325 := ⟨yh_325, 1178, ycV_325, ydV_325⟩
theorem yqV_326 : y_ckV yk_326 := ⟨yh_326, 718, ycV_326, ydV_326⟩
theorem yqV_327 : y_ckV yk_327 := ⟨yh_327, 726, ycV_327, ydV_327⟩
theorem yqV_328 : y_ckV yk_328 := ⟨yh_328, 738, ycV_328, ydV_328⟩
theorem yqV_329 : y_ckV yk_329 := ⟨yh_329, 636, ycV_329, ydV_329⟩
theorem yqV_330 : y_ckV yk_330 := ⟨yh_330, 646, ycV_330, ydV_330⟩
theorem yqV_331 : y_ckV yk_331 := ⟨yh_331, 514, ycV_331, ydV_331⟩
theorem yqV_332 : y_ckV yk_332 := ⟨yh_332, 586, ycV_332, ydV_332⟩
theorem yqV_333 : y_ckV yk_333 := ⟨yh_333, 676, ycV_333, ydV_333⟩
theorem yqV_334 : y_ckV yk_334 := ⟨yh_334, 1148, ycV_334, ydV_334⟩
theorem yqV_335 : y_ckV yk_335 := ⟨yh_335, 524, ycV_335, ydV_335⟩
theorem yqV_336 : y_ckV yk_336 := ⟨yh_336, 524, ycV_336, ydV_336⟩
theorem yqV_337 : y_ckV yk_337 := ⟨yh_337, 1098, ycV_337, ydV_337⟩
theorem yqV_338 : y_ckV yk_338 := ⟨yh_338, 524, ycV_338, ydV_338⟩
theorem yqV_339 : y_ckV yk_339 := ⟨yh_339, 1170, ycV_339, ydV_339⟩
theorem yqV_340 : y_ckV yk_340 := ⟨yh_340, 604, ycV_340, ydV_340⟩
theorem yqV_341 : y_ckV yk_341 := ⟨yh_341, 736, ycV_341, ydV_341⟩
theorem yqV_342 : y_ckV yk_342 := ⟨yh_342, 576, ycV_342, ydV_342⟩
theorem yqV_343 : y_ckV yk_343 := ⟨yh_343, 2168, ycV_343, ydV_343⟩
theorem yqV_344 : y_ckV yk_344 := ⟨yh_344, 1718, ycV_344, ydV_344⟩
theorem yqV_345 : y_ckV yk_345 := ⟨yh_345, 580, ycV_345, ydV_345⟩
theorem yq_346 : y_ck yk_346 := ⟨yh_346, 530, yc_346, yd_346⟩
theorem yqV_346 : y_ckV yk_346 := ⟨yh_346, 530, ycV_346, ydV_346⟩
theorem yq_347 : y_ck yk_347 := ⟨yh_347, 530, yc_347, yd_347⟩
theorem yqV_347 : y_ckV yk_347 := ⟨yh_347, 530, ycV_347, ydV_347⟩
theorem yq_348 : y_ck yk_348 := ⟨yh_348, 530, yc_348, yd_348⟩
theorem yqV_348 : y_ckV yk_348 := ⟨yh_348, 530, ycV_348, ydV_348⟩
theorem yq_349 : y_ck yk_349 := ⟨yh_349, 530, yc_349, yd_349⟩
theorem yqV_349 : y_ckV yk_349 := ⟨yh_349, 530, ycV_349, ydV_349⟩
theorem yq_350 : y_ck yk_350 := ⟨yh_350, 530, yc_350, yd_350⟩
theorem yqV_350 : y_ckV yk_350 := ⟨yh_350, 530, ycV_350, ydV_350⟩
theorem yq_351 : y_ck yk_351 := ⟨yh_351, 530, yc_351, yd_351⟩
theorem yqV_351 : y_ckV yk_351 := ⟨yh_351, 530, ycV_351, ydV_351⟩
theorem yCr_ck0 : ∀ Ks ∈ yCr_0, ∀ K ∈ Ks, y_ck K := List.forall_mem_cons.mpr ⟨(fun _ h => absurd h List.not_mem_nil), List.forall_mem_cons.mpr ⟨(fun _ h => absurd h List.not_mem_nil), List.forall_mem_cons.mpr ⟨(fun _ h => absurd h List.not_mem_nil), List.forall_mem_cons.mpr ⟨(fun _ h => absurd h List.not_mem_nil), List.forall_mem_cons.mpr ⟨(fun _ h => absurd h List.not_mem_nil), List.forall_mem_cons.mpr ⟨(fun _ h => absurd h List.not_mem_nil), List.forall_mem_cons.mpr ⟨(fun _ h => absurd h List.not_mem_nil), List.forall_mem_cons.mpr ⟨(fun _ h => absurd h List.not_mem_nil), List.forall_mem_cons.mpr ⟨(fun _ h => absurd h List.not_mem_nil), List.forall_mem_cons.mpr ⟨(fun _ h => absurd h List.not_mem_nil), List.forall_mem_cons.mpr ⟨(fun _ h => absurd h List.not_mem_nil), List.forall_mem_cons.mpr ⟨(fun _ h => absurd h List.not_mem_nil), List.forall_mem_cons.mpr ⟨(fun _ h => absurd h List.not_mem_nil), List.forall_mem_cons.mpr ⟨(fun _ h => absurd h List.not_mem_nil), List.forall_mem_cons.mpr ⟨(fun _ h => absurd h List.not_mem_nil), List.forall_mem_cons.mpr ⟨(fun _ h => absurd h List.not_mem_nil), fun _ h => absurd h List.not_mem_nil⟩⟩⟩⟩⟩⟩⟩⟩⟩⟩⟩⟩⟩⟩⟩⟩
theorem yCr_ck1 : ∀ Ks ∈ yCr_1, ∀ K ∈ Ks, y_ck K := List.forall_mem_cons.mpr ⟨(fun _ h => absurd h List.not_mem_nil), List.forall_mem_cons.mpr ⟨(fun _ h => absurd h List.not_mem_nil), List.forall_mem_cons.mpr ⟨(fun _ h => absurd h List.not_mem_nil), List.forall_mem_cons.mpr ⟨(fun _ h => absurd h List.not_mem_nil), List.forall_mem_cons.mpr ⟨(fun _ h => absurd h List.not_mem_nil), List.forall_mem_cons.mpr ⟨(fun _ h => absurd h List.not_mem_nil), List.forall_mem_cons.mpr ⟨(fun _ h => absurd h List.not_mem_nil), List.forall_mem_cons.mpr ⟨(fun _ h => absurd h List.not_mem_nil), List.forall_mem_cons.mpr ⟨(fun _ h => absurd h List.not_mem_nil), List.forall_mem_cons.mpr ⟨(fun _ h => absurd h List.not_mem_nil), List.forall_mem_cons.mpr ⟨(fun _ h => absurd h List.not_mem_nil), List.forall_mem_cons.mpr ⟨(fun _ h => absurd h List.not_mem_nil), List.forall_mem_cons.mpr ⟨(fun _ h => absurd h List.not_mem_nil), List.forall_mem_cons.mpr ⟨(fun _ h => absurd h List.not_mem_nil), List.forall_mem_cons.mpr ⟨(fun _ h => absurd h List.not_mem_nil), List.forall_mem_cons.mpr ⟨(fun _ h => absurd h List.not_mem_nil), fun _ h => absurd h List.not_mem_nil⟩⟩⟩⟩⟩⟩⟩⟩⟩⟩⟩⟩⟩⟩⟩⟩
theorem yCr_ck2 : ∀ Ks ∈ yCr_2, ∀ K ∈ Ks, y_ck K := List.forall_mem_cons.mpr ⟨(List.forall_mem_cons.mpr ⟨yq_37, List.forall_mem_cons.mpr ⟨yq_38, List.forall_mem_cons.mpr ⟨yq_39, List.forall_mem_cons.mpr ⟨yq_40, List.forall_mem_cons.mpr ⟨yq_41, fun _ h => absurd h List.not_mem_nil⟩⟩⟩⟩⟩), List.forall_mem_cons.mpr ⟨(fun _ h => absurd h List.not_mem_nil), List.forall_mem_cons.mpr ⟨(fun _ h => absurd h List.not_mem_nil), List.forall_mem_cons.mpr ⟨(fun _ h => absurd h List.not_mem_nil), List.forall_mem_cons.mpr ⟨(List.forall_mem_cons.mpr ⟨yq_42, fun _ h => absurd h List.not_mem_nil⟩), List.forall_mem_cons.mpr ⟨(fun _ h => absurd h List.not_mem_nil), List.forall_mem_cons.mpr ⟨(fun _ h => absurd h List.not_mem_nil), List.forall_mem_cons.mpr ⟨(List.forall_mem_cons.mpr ⟨yq_44, fun _ h => absurd h List.not_mem_nil⟩), List.forall_mem_cons.mpr ⟨(List.forall_mem_cons.mpr ⟨yq_45, fun _ h => absurd h List.not_mem_nil⟩), List.forall_mem_cons.mpr ⟨(List.forall_mem_cons.mpr ⟨yq_46, fun _ h => absurd h List.not_mem_nil⟩), List.forall_mem_cons.mpr ⟨(List.forall_mem_cons.mpr ⟨yq_47, fun _ h => absurd h List.not_mem_nil⟩), List.forall_mem_cons.mpr ⟨(List.forall_mem_cons.mpr ⟨yq_48, fun _ h => absurd h List.not_mem_nil⟩), List.forall_mem_cons.mpr ⟨(List.forall_mem_cons.mpr ⟨yq_49, fun _ h => absurd h List.not_mem_nil⟩), List.forall_mem_cons.mpr ⟨(List.forall_mem_cons.mpr ⟨yq_50, List.forall_mem_cons.mpr ⟨yq_51, List.forall_mem_cons.mpr ⟨yq_52, List.forall_mem_cons.mpr ⟨yq_53, fun _ h => absurd h List.not_mem_nil⟩⟩⟩⟩), List.forall_mem_cons.mpr ⟨(fun _ h => absurd h List.not_mem_nil), List.forall_mem_cons.mpr ⟨(List.forall_mem_cons.mpr ⟨yq_54, List.forall_mem_cons.mpr ⟨yq_55, List.forall_mem_cons.mpr ⟨yq_56, List.forall_mem_cons.mpr ⟨yq_57, List.forall_mem_cons.mpr ⟨yq_58, fun _ h => absurd h List.not_mem_nil⟩⟩⟩⟩⟩), fun _ h => absurd h List.not_mem_nil⟩⟩⟩⟩⟩⟩⟩⟩⟩⟩⟩⟩⟩⟩⟩⟩
theorem yCr_ck3 : ∀ Ks ∈ yCr_3, ∀ K ∈ Ks, y_ck K := List.forall_mem_cons.mpr ⟨(List.forall_mem_cons.mpr ⟨yq_59, List.forall_mem_cons.mpr ⟨yq_60, List.forall_mem_cons.mpr ⟨yq_61, List.forall_mem_cons.mpr ⟨yq_62, List.forall_mem_cons.mpr ⟨yq_63, List.forall_mem_cons.mpr ⟨yq_64, fun _ h => absurd h List.not_mem_nil⟩⟩⟩⟩⟩⟩), List.forall_mem_cons.mpr ⟨(List.forall_mem_cons.mpr ⟨yq_65, List.forall_mem_cons.mpr ⟨yq_66, List.forall_mem_cons.mpr ⟨yq_67, fun _ h => absurd h List.not_mem_nil⟩⟩⟩), List.forall_mem_cons.mpr ⟨(fun _ h => absurd h List.not_mem_nil), List.forall_mem_cons.mpr ⟨(fun _ h => absurd h List.not_mem_nil), List.forall_mem_cons.mpr ⟨(fun _ h => absurd h List.not_mem_nil), List.forall_mem_cons.mpr ⟨(fun _ h => absurd h List.not_mem_nil), List.forall_mem_cons.mpr ⟨(fun _ h => absurd h List.not_mem_nil), List.forall_mem_cons.mpr ⟨(List.forall_mem_cons.mpr ⟨yq_68, List.forall_mem_cons.mpr ⟨yq_69, List.forall_mem_cons.mpr ⟨yq_70, List.forall_mem_cons.mpr ⟨yq_71, List.forall_mem_cons.mpr ⟨yq_72, fun _ h => absurd h List.not_mem_nil⟩⟩⟩⟩⟩), List.forall_mem_cons.mpr ⟨(fun _ h => absurd h List.not_mem_nil), List.forall_mem_cons.mpr ⟨(fun _ h => absurd h List.not_mem_nil), List.forall_mem_cons.mpr ⟨(fun _ h => absurd h List.not_mem_nil), List.forall_mem_cons.mpr ⟨(fun _ h => absurd h List.not_mem_nil), List.forall_mem_cons.mpr ⟨(fun _ h => absurd h List.not_mem_nil), List.forall_mem_cons.mpr ⟨(fun _ h => absurd h List.not_mem_nil), List.forall_mem_cons.mpr ⟨(fun _ h => absurd h List.not_mem_nil), List.forall_mem_cons.mpr ⟨(fun _ h => absurd h List.not_mem_nil), fun _ h => absurd h List.not_mem_nil⟩⟩⟩⟩⟩⟩⟩⟩⟩⟩⟩⟩⟩⟩⟩⟩
theorem yCr_ck4 : ∀ Ks ∈ yCr_4, ∀ K ∈ Ks, y_ck K := List.forall_mem_cons.mpr ⟨(fun _ h => absurd h List.not_mem_nil), List.forall_mem_cons.mpr ⟨(fun _ h => absurd h List.not_mem_nil), List.forall_mem_cons.mpr ⟨(fun _ h => absurd h List.not_mem_nil), List.forall_mem_cons.mpr ⟨(List.forall_mem_cons.mpr ⟨yq_119, fun _ h => absurd h List.not_mem_nil⟩), List.forall_mem_cons.mpr ⟨(List.forall_mem_cons.mpr ⟨yq_120, List.forall_mem_cons.mpr ⟨yq_121, List.forall_mem_cons.mpr ⟨yq_122, List.forall_mem_cons.mpr ⟨yq_123, List.forall_mem_cons.mpr ⟨yq_124, List.forall_mem_cons.mpr ⟨yq_125, List.forall_mem_cons.mpr ⟨yq_126, List.forall_mem_cons.mpr ⟨yq_127, List.forall_mem_cons.mpr ⟨yq_128, List.forall_mem_cons.mpr ⟨yq_129, List.forall_mem_cons.mpr ⟨yq_130, List.forall_mem_cons.mpr ⟨yq_131, List.forall_mem_cons.mpr ⟨yq_132, List.forall_mem_cons.mpr ⟨yq_133, List.forall_mem_cons.mpr ⟨yq_134, List.forall_mem_cons.mpr ⟨yq_135, List.forall_mem_cons.mpr ⟨yq_136, List.forall_mem_cons.mpr ⟨yq_137, List.forall_mem_cons.mpr ⟨yq_138, List.forall_mem_cons.mpr ⟨yq_139, List.forall_mem_cons.mpr ⟨yq_140, List.forall_mem_cons.mpr ⟨yq_141, List.forall_mem_cons.mpr ⟨yq_142, fun _ h => absurd h List.not_mem_nil⟩⟩⟩⟩⟩⟩⟩⟩⟩⟩⟩⟩⟩⟩⟩⟩⟩⟩⟩⟩⟩⟩⟩), List.forall_mem_cons.mpr ⟨(fun _ h => absurd h List.not_mem_nil), List.forall_mem_cons.mpr ⟨(fun _ h => absurd h List.not_mem_nil), List.forall_mem_cons.mpr ⟨(fun _ h => absurd h List.not_mem_nil), List.forall_mem_cons.mpr ⟨(fun _ h => absurd h List.not_mem_nil), List.forall_mem_cons.mpr ⟨(fun _ h => absurd h List.not_mem_nil), List.forall_mem_cons.mpr ⟨(fun _ h => absurd h List.not_mem_nil), List.forall_mem_cons.mpr ⟨(fun _ h => absurd h List.not_mem_nil), List.forall_mem_cons.mpr ⟨(fun _ h => absurd h List.not_mem_nil), List.forall_mem_cons.mpr ⟨(fun _ h => absurd h List.not_mem_nil), List.forall_mem_cons.mpr ⟨(fun _ h => absurd h List.not_mem_nil), List.forall_mem_cons.mpr ⟨(fun _ h => absurd h List.not_mem_nil), fun _ h => absurd h List.not_mem_nil⟩⟩⟩⟩⟩⟩⟩⟩⟩⟩⟩⟩⟩⟩⟩⟩
theorem yCr_ck5 : ∀ Ks ∈ yCr_5, ∀ K ∈ Ks, y_ck K := List.forall_mem_cons.mpr ⟨(fun _ h => absurd h List.not_mem_nil), List.forall_mem_cons.mpr ⟨(fun _ h => absurd h List.not_mem_nil), List.forall_mem_cons.mpr ⟨(fun _ h => absurd h List.not_mem_nil), List.forall_mem_cons.mpr ⟨(fun _ h => absurd h List.not_mem_nil), List.forall_mem_cons.mpr ⟨(fun _ h => absurd h List.not_mem_nil), List.forall_mem_cons.mpr ⟨(fun _ h => absurd h List.not_mem_nil), List.forall_mem_cons.mpr ⟨(fun _ h => absurd h List.not_mem_nil), List.forall_mem_cons.mpr ⟨(fun _ h => absurd h List.not_mem_nil), List.forall_mem_cons.mpr ⟨(fun _ h => absurd h List.not_mem_nil), List.forall_mem_cons.mpr ⟨(fun _ h => absurd h List.not_mem_nil), List.forall_mem_cons.mpr ⟨(fun _ h => absurd h List.not_mem_nil), List.forall_mem_cons.mpr ⟨(fun _ h => absurd h List.not_mem_nil), List.forall_mem_cons.mpr ⟨(fun _ h => absurd h List.not_mem_nil), List.forall_mem_cons.mpr ⟨(fun _ h => absurd h List.not_mem_nil), List.forall_mem_cons.mpr ⟨(fun _ h => absurd h List.not_mem_nil), List.forall_mem_cons.mpr ⟨(fun _ h => absurd h List.not_mem_nil), fun _ h => absurd h List.not_mem_nil⟩⟩⟩⟩⟩⟩⟩⟩⟩⟩⟩⟩⟩⟩⟩⟩
theorem yCr_ck6 : ∀ Ks ∈ yCr_6, ∀ K ∈ Ks, y_ck K := List.forall_mem_cons.mpr ⟨(fun _ h => absurd h List.not_mem_nil), List.forall_mem_cons.mpr ⟨(fun _ h => absurd h List.not_mem_nil), List.forall_mem_cons.mpr ⟨(fun _ h => absurd h List.not_mem_nil), List.forall_mem_cons.mpr ⟨(List.forall_mem_cons.mpr ⟨yq_171, List.forall_mem_cons.mpr ⟨yq_172, List.forall_mem_cons.mpr ⟨yq_173, fun _ h => absurd h List.not_mem_nil⟩⟩⟩), List.forall_mem_cons.mpr ⟨(List.forall_mem_cons.mpr ⟨yq_174, fun _ h => absurd h List.not_mem_nil⟩), List.forall_mem_cons.mpr ⟨(List.forall_mem_cons.mpr ⟨yq_175, fun _ h => absurd h List.not_mem_nil⟩), List.forall_mem_cons.mpr ⟨(fun _ h => absurd h List.not_mem_nil), List.forall_mem_cons.mpr ⟨(List.forall_mem_cons.mpr ⟨yq_176, fun _ h => absurd h List.not_mem_nil⟩), List.forall_mem_cons.mpr ⟨(List.forall_mem_cons.mpr ⟨yq_177, fun _ h => absurd h List.not_mem_nil⟩), List.forall_mem_cons.mpr ⟨(fun _ h => absurd h List.not_mem_nil), List.forall_mem_cons.mpr ⟨(fun _ h => absurd h List.not_mem_nil), List.forall_mem_cons.mpr ⟨(fun _ h => absurd h List.not_mem_nil), List.forall_mem_cons.mpr ⟨(fun _ h => absurd h List.not_mem_nil), List.forall_mem_cons.mpr ⟨(fun _ h => absurd h List.not_mem_nil), List.forall_mem_cons.mpr ⟨(List.forall_mem_cons.mpr ⟨yq_178, List.forall_mem_cons.mpr ⟨yq_179, fun _ h => absurd h List.not_mem_nil⟩⟩), List.forall_mem_cons.mpr ⟨(List.forall_mem_cons.mpr ⟨yq_180, List.forall_mem_cons.mpr ⟨yq_181, List.forall_mem_cons.mpr ⟨yq_182, List.forall_mem_cons.mpr ⟨yq_183, List.forall_mem_cons.mpr ⟨yq_184, List.forall_mem_cons.mpr ⟨yq_185, List.forall_mem_cons.mpr ⟨yq_186, List.forall_mem_cons.mpr ⟨yq_187, List.forall_mem_cons.mpr ⟨yq_188, fun _ h => absurd h List.not_mem_nil⟩⟩⟩⟩⟩⟩⟩⟩⟩), fun _ h => absurd h List.not_mem_nil⟩⟩⟩⟩⟩⟩⟩⟩⟩⟩⟩⟩⟩⟩⟩⟩
theorem yCr_ck7 : ∀ Ks ∈ yCr_7, ∀ K ∈ Ks, y_ck K := List.forall_mem_cons.mpr ⟨(List.forall_mem_cons.mpr ⟨yq_189, List.forall_mem_cons.mpr ⟨yq_190, List.forall_mem_cons.mpr ⟨yq_191, List.forall_mem_cons.mpr ⟨yq_192, List.forall_mem_cons.mpr ⟨yq_193, List.forall_mem_cons.mpr ⟨yq_194, fun _ h => absurd h List.not_mem_nil⟩⟩⟩⟩⟩⟩), List.forall_mem_cons.mpr ⟨(List.forall_mem_cons.mpr ⟨yq_195, List.forall_mem_cons.mpr ⟨yq_196, List.forall_mem_cons.mpr ⟨yq_197, fun _ h => absurd h List.not_mem_nil⟩⟩⟩), List.forall_mem_cons.mpr ⟨(fun _ h => absurd h List.not_mem_nil), List.forall_mem_cons.mpr ⟨(fun _ h => absurd h List.not_mem_nil), List.forall_mem_cons.mpr ⟨(List.forall_mem_cons.mpr ⟨yq_200, fun _ h => absurd h List.not_mem_nil⟩), List.forall_mem_cons.mpr ⟨(fun _ h => absurd h List.not_mem_nil), List.forall_mem_cons.mpr ⟨(fun _ h => absurd h List.not_mem_nil), List.forall_mem_cons.mpr ⟨(fun _ h => absurd h List.not_mem_nil), List.forall_mem_cons.mpr ⟨(fun _ h => absurd h List.not_mem_nil), List.forall_mem_cons.mpr ⟨(fun _ h => absurd h List.not_mem_nil), List.forall_mem_cons.mpr ⟨(fun _ h => absurd h List.not_mem_nil), List.forall_mem_cons.mpr ⟨(fun _ h => absurd h List.not_mem_nil), List.forall_mem_cons.mpr ⟨(fun _ h => absurd h List.not_mem_nil), List.forall_mem_cons.mpr ⟨(fun _ h => absurd h List.not_mem_nil), List.forall_mem_cons.mpr ⟨(fun _ h => absurd h List.not_mem_nil), List.forall_mem_cons.mpr ⟨(fun _ h => absurd h List.not_mem_nil), fun _ h => absurd h List.not_mem_nil⟩⟩⟩⟩⟩⟩⟩⟩⟩⟩⟩⟩⟩⟩⟩⟩
theorem yCr_ck8 : ∀ Ks ∈ yCr_8, ∀ K ∈ Ks, y_ck K := List.forall_mem_cons.mpr ⟨(fun _ h => absurd h List.not_mem_nil), List.forall_mem_cons.mpr ⟨(fun _ h => absurd h List.not_mem_nil), List.forall_mem_cons.mpr ⟨(fun _ h => absurd h List.not_mem_nil), List.forall_mem_cons.mpr ⟨(fun _ h => absurd h List.not_mem_nil), List.forall_mem_cons.mpr ⟨(fun _ h => absurd h List.not_mem_nil), List.forall_mem_cons.mpr ⟨(fun _ h => absurd h List.not_mem_nil), List.forall_mem_cons.mpr ⟨(fun _ h => absurd h List.not_mem_nil), List.forall_mem_cons.mpr ⟨(fun _ h => absurd h List.not_mem_nil), List.forall_mem_cons.mpr ⟨(fun _ h => absurd h List.not_mem_nil), List.forall_mem_cons.mpr ⟨(fun _ h => absurd h List.not_mem_nil), List.forall_mem_cons.mpr ⟨(fun _ h => absurd h List.not_mem_nil), List.forall_mem_cons.mpr ⟨(fun _ h => absurd h List.not_mem_nil), List.forall_mem_cons.mpr ⟨(fun _ h => absurd h List.not_mem_nil), List.forall_mem_cons.mpr ⟨(fun _ h => absurd h List.not_mem_nil), List.forall_mem_cons.mpr ⟨(fun _ h => absurd h List.not_mem_nil), List.forall_mem_cons.mpr ⟨(fun _ h => absurd h List.not_mem_nil), fun _ h => absurd h List.not_mem_nil⟩⟩⟩⟩⟩⟩⟩⟩⟩⟩⟩⟩⟩⟩⟩⟩
theorem yCr_ck9 : ∀ Ks ∈ yCr_9, ∀ K ∈ Ks, y_ck K := List.forall_mem_cons.mpr ⟨(fun _ h => absurd h List.not_mem_nil), List.forall_mem_cons.mpr ⟨(fun _ h => absurd h List.not_mem_nil), List.forall_mem_cons.mpr ⟨(fun _ h => absurd h List.not_mem_nil), List.forall_mem_cons.mpr ⟨(fun _ h => absurd h List.not_mem_nil), List.forall_mem_cons.mpr ⟨(fun _ h => absurd h List.not_mem_nil), List.forall_mem_cons.mpr ⟨(fun _ h => absurd h List.not_mem_nil), List.forall_mem_cons.mpr ⟨(fun _ h => absurd h List.not_mem_nil), List.forall_mem_cons.mpr ⟨(fun _ h => absurd h List.not_mem_nil), List.forall_mem_cons.mpr ⟨(List.forall_mem_cons.mpr ⟨yq_234, fun _ h => absurd h List.not_mem_nil⟩), List.forall_mem_cons.mpr ⟨(List.forall_mem_cons.mpr ⟨yq_235, fun _ h => absurd h List.not_mem_nil⟩), List.forall_mem_cons.mpr ⟨(fun _ h => absurd h List.not_mem_nil), List.forall_mem_cons.mpr ⟨(fun _ h => absurd h List.not_mem_nil), List.forall_mem_cons.mpr ⟨(fun _ h => absurd h List.not_mem_nil), List.forall_mem_cons.mpr ⟨(fun _ h => absurd h List.not_mem_nil), List.forall_mem_cons.mpr ⟨(fun _ h => absurd h List.not_mem_nil), List.forall_mem_cons.mpr ⟨(fun _ h => absurd h List.not_mem_nil), fun _ h => absurd h List.not_mem_nil⟩⟩⟩⟩⟩⟩⟩⟩⟩⟩⟩⟩⟩⟩⟩⟩
theorem yCr_ck10 : ∀ Ks ∈ yCr_10, ∀ K ∈ Ks, y_ck K := List.forall_mem_cons.mpr ⟨(fun _ h => absurd h List.not_mem_nil), List.forall_mem_cons.mpr ⟨(fun _ h => absurd h List.not_mem_nil), List.forall_mem_cons.mpr ⟨(fun _ h => absurd h List.not_mem_nil), List.forall_mem_cons.mpr ⟨(fun _ h => absurd h List.not_mem_nil), List.forall_mem_cons.mpr ⟨(fun _ h => absurd h List.not_mem_nil), List.forall_mem_cons.mpr ⟨(fun _ h => absurd h List.not_mem_nil), List.forall_mem_cons.mpr ⟨(fun _ h => absurd h List.not_mem_nil), List.forall_mem_cons.mpr ⟨(fun _ h => absurd h List.not_mem_nil), List.forall_mem_cons.mpr ⟨(fun _ h => absurd h List.not_mem_nil), List.forall_mem_cons.mpr ⟨(fun _ h => absurd h List.not_mem_nil), List.forall_mem_cons.mpr ⟨(fun _ h => absurd h List.not_mem_nil), List.forall_mem_cons.mpr ⟨(List.forall_mem_cons.mpr ⟨yq_241, fun _ h => absurd h List.not_mem_nil⟩), List.forall_mem_cons.mpr ⟨(fun _ h => absurd h List.not_mem_nil), List.forall_mem_cons.mpr ⟨(fun _ h => absurd h List.not_mem_nil), List.forall_mem_cons.mpr ⟨(fun _ h => absurd h List.not_mem_nil), List.forall_mem_cons.mpr ⟨(List.forall_mem_cons.mpr ⟨yq_242, fun _ h => absurd h List.not_mem_nil⟩), fun _ h => absurd h List.not_mem_nil⟩⟩⟩⟩⟩⟩⟩⟩⟩⟩⟩⟩⟩⟩⟩⟩
theorem yCr_ck11 : ∀ Ks ∈ yCr_11, ∀ K ∈ Ks, y_ck K := List.forall_mem_cons.mpr ⟨(fun _ h => absurd h List.not_mem_nil), List.forall_mem_cons.mpr ⟨(fun _ h => absurd h List.not_mem_nil), List.forall_mem_cons.mpr ⟨(fun _ h => absurd h List.not_mem_nil), List.forall_mem_cons.mpr ⟨(fun _ h => absurd h List.not_mem_nil), List.forall_mem_cons.mpr ⟨(List.forall_mem_cons.mpr ⟨yq_243, fun _ h => absurd h List.not_mem_nil⟩), List.forall_mem_cons.mpr ⟨(List.forall_mem_cons.mpr ⟨yq_244, List.forall_mem_cons.mpr ⟨yq_245, List.forall_mem_cons.mpr ⟨yq_246, List.forall_mem_cons.mpr ⟨yq_247, List.forall_mem_cons.mpr ⟨yq_248, List.forall_mem_cons.mpr ⟨yq_249, List.forall_mem_cons.mpr ⟨yq_250, fun _ h => absurd h List.not_mem_nil⟩⟩⟩⟩⟩⟩⟩), List.forall_mem_cons.mpr ⟨(List.forall_mem_cons.mpr ⟨yq_251, List.forall_mem_cons.mpr ⟨yq_252, List.forall_mem_cons.mpr ⟨yq_253, List.forall_mem_cons.mpr ⟨yq_254, List.forall_mem_cons.mpr ⟨yq_255, List.forall_mem_cons.mpr ⟨yq_256, List.forall_mem_cons.mpr ⟨yq_257, List.forall_mem_cons.mpr ⟨yq_258, List.forall_mem_cons.mpr ⟨yq_259, fun _ h => absurd h List.not_mem_nil⟩⟩⟩⟩⟩⟩⟩⟩⟩), List.forall_mem_cons.mpr ⟨(List.forall_mem_cons.mpr ⟨yq_260, List.forall_mem_cons.mpr ⟨yq_261, List.forall_mem_cons.mpr ⟨yq_262, List.forall_mem_cons.mpr ⟨yq_263, List.forall_mem_cons.mpr ⟨yq_264, List.forall_mem_cons.mpr ⟨yq_265, fun _ h => absurd h List.not_mem_nil⟩⟩⟩⟩⟩⟩), List.forall_mem_cons.mpr ⟨(List.forall_mem_cons.mpr ⟨yq_266, List.forall_mem_cons.mpr ⟨yq_267, List.forall_mem_cons.mpr ⟨yq_268, fun _ h => absurd h List.not_mem_nil⟩⟩⟩), List.forall_mem_cons.mpr ⟨(List.forall_mem_cons.mpr ⟨yq_269, List.forall_mem_cons.mpr ⟨yq_270, List.forall_mem_cons.mpr ⟨yq_271, List.forall_mem_cons.mpr ⟨yq_272, fun _ h => absurd h List.not_mem_nil⟩⟩⟩⟩), List.forall_mem_cons.mpr ⟨(List.forall_mem_cons.mpr ⟨yq_273, List.forall_mem_cons.mpr ⟨yq_274, List.forall_mem_cons.mpr ⟨yq_275, List.forall_mem_cons.mpr ⟨yq_276, fun _ h => absurd h List.not_mem_nil⟩⟩⟩⟩), List.forall_mem_cons.mpr ⟨(List.forall_mem_cons.mpr ⟨yq_277, List.forall_mem_cons.mpr ⟨yq_278, List.forall_mem_cons.mpr ⟨yq_279, List.forall_mem_cons.mpr ⟨yq_280, fun _ h => absurd h List.not_mem_nil⟩⟩⟩⟩), List.forall_mem_cons.mpr ⟨(List.forall_mem_cons.mpr ⟨yq_281, fun _ h => absurd h List.not_mem_nil⟩), List.forall_mem_cons.mpr ⟨(List.forall_mem_cons.mpr ⟨yq_282, fun _ h => absurd h List.not_mem_nil⟩), List.forall_mem_cons.mpr ⟨(List.forall_mem_cons.mpr ⟨yq_283, fun _ h => absurd h List.not_mem_nil⟩), List.forall_mem_cons.mpr ⟨(fun _ h => absurd h List.not_mem_nil), fun _ h => absurd h List.not_mem_nil⟩⟩⟩⟩⟩⟩⟩⟩⟩⟩⟩⟩⟩⟩⟩⟩
theorem yCr_ck12 : ∀ Ks ∈ yCr_12, ∀ K ∈ Ks, y_ck K := List.forall_mem_cons.mpr ⟨(fun _ h => absurd h List.not_mem_nil), List.forall_mem_cons.mpr ⟨(fun _ h => absurd h List.not_mem_nil), List.forall_mem_cons.mpr ⟨(fun _ h => absurd h List.not_mem_nil), List.forall_mem_cons.mpr ⟨(fun _ h => absurd h List.not_mem_nil), List.forall_mem_cons.mpr ⟨(fun _ h => absurd h List.not_mem_nil), List.forall_mem_cons.mpr ⟨(fun _ h => absurd h List.not_mem_nil), List.forall_mem_cons.mpr ⟨(fun _ h => absurd h List.not_mem_nil), List.forall_mem_cons.mpr ⟨(fun _ h => absurd h List.not_mem_nil), List.forall_mem_cons.mpr ⟨(fun _ h => absurd h List.not_mem_nil), List.forall_mem_cons.mpr ⟨(fun _ h => absurd h List.not_mem_nil), List.forall_mem_cons.mpr ⟨(fun _ h => absurd h List.not_mem_nil), List.forall_mem_cons.mpr ⟨(fun _ h => absurd h List.not_mem_nil), List.forall_mem_cons.mpr ⟨(fun _ h => absurd h List.not_mem_nil), List.forall_mem_cons.mpr ⟨(fun _ h => absurd h List.not_mem_nil), List.forall_mem_cons.mpr ⟨(fun _ h => absurd h List.not_mem_nil), List.forall_mem_cons.mpr ⟨(fun _ h => absurd h List.not_mem_nil), fun _ h => absurd h List.not_mem_nil⟩⟩⟩⟩⟩⟩⟩⟩⟩⟩⟩⟩⟩⟩⟩⟩
theorem yCr_ck13 : ∀ Ks ∈ yCr_13, ∀ K ∈ Ks, y_ck K := List.forall_mem_cons.mpr ⟨(fun _ h => absurd h List.not_mem_nil), List.forall_mem_cons.mpr ⟨(fun _ h => absurd h List.not_mem_nil), List.forall_mem_cons.mpr ⟨(fun _ h => absurd h List.not_mem_nil), List.forall_mem_cons.mpr ⟨(fun _ h => absurd h List.not_mem_nil), List.forall_mem_cons.mpr ⟨(fun _ h => absurd h List.not_mem_nil), List.forall_mem_cons.mpr ⟨(fun _ h => absurd h List.not_mem_nil), List.forall_mem_cons.mpr ⟨(fun _ h => absurd h List.not_mem_nil), List.forall_mem_cons.mpr ⟨(fun _ h => absurd h List.not_mem_nil), List.forall_mem_cons.mpr ⟨(fun _ h => absurd h List.not_mem_nil), List.forall_mem_cons.mpr ⟨(fun _ h => absurd h List.not_mem_nil), List.forall_mem_cons.mpr ⟨(fun _ h => absurd h List.not_mem_nil), List.forall_mem_cons.mpr ⟨(fun _ h => absurd h List.not_mem_nil), List.forall_mem_cons.mpr ⟨(fun _ h => absurd h List.not_mem_nil), List.forall_mem_cons.mpr ⟨(fun _ h => absurd h List.not_mem_nil), List.forall_mem_cons.mpr ⟨(fun _ h => absurd h List.not_mem_nil), List.forall_mem_cons.mpr ⟨(fun _ h => absurd h List.not_mem_nil), fun _ h => absurd h List.not_mem_nil⟩⟩⟩⟩⟩⟩⟩⟩⟩⟩⟩⟩⟩⟩⟩⟩
theorem yCr_ck14 : ∀ Ks ∈ yCr_14, ∀ K ∈ Ks, y_ck K := List.forall_mem_cons.mpr ⟨(fun _ h => absurd h List.not_mem_nil), List.forall_mem_cons.mpr ⟨(fun _ h => absurd h List.not_mem_nil), List.forall_mem_cons.mpr ⟨(fun _ h => absurd h List.not_mem_nil), List.forall_mem_cons.mpr ⟨(fun _ h => absurd h List.not_mem_nil), List.forall_mem_cons.mpr ⟨(fun _ h => absurd h List.not_mem_nil), List.forall_mem_cons.mpr ⟨(fun _ h => absurd h List.not_mem_nil), List.forall_mem_cons.mpr ⟨(fun _ h => absurd h List.not_mem_nil), List.forall_mem_cons.mpr ⟨(fun _ h => absurd h List.not_mem_nil), List.forall_mem_cons.mpr ⟨(fun _ h => absurd h List.not_mem_nil), List.forall_mem_cons.mpr ⟨(fun _ h => absurd h List.not_mem_nil), List.forall_mem_cons.mpr ⟨(fun _ h => absurd h List.not_mem_nil), List.forall_mem_cons.mpr ⟨(fun _ h => absurd h List.not_mem_nil), List.forall_mem_cons.mpr ⟨(fun _ h => absurd h List.not_mem_nil), List.forall_mem_cons.mpr ⟨(fun _ h => absurd h List.not_mem_nil), List.forall_mem_cons.mpr ⟨(fun _ h => absurd h List.not_mem_nil), List.forall_mem_cons.mpr ⟨(fun _ h => absurd h List.not_mem_nil), fun _ h => absurd h List.not_mem_nil⟩⟩⟩⟩⟩⟩⟩⟩⟩⟩⟩⟩⟩⟩⟩⟩
theorem yCr_ck15 : ∀ Ks ∈ yCr_15, ∀ K ∈ Ks, y_ck K := List.forall_mem_cons.mpr ⟨(fun _ h => absurd h List.not_mem_nil), List.forall_mem_cons.mpr ⟨(fun _ h => absurd h List.not_mem_nil), List.forall_mem_cons.mpr ⟨(fun _ h => absurd h List.not_mem_nil), List.forall_mem_cons.mpr ⟨(fun _ h => absurd h List.not_mem_nil), List.forall_mem_cons.mpr ⟨(fun _ h => absurd h List.not_mem_nil), List.forall_mem_cons.mpr ⟨(fun _ h => absurd h List.not_mem_nil), List.forall_mem_cons.mpr ⟨(fun _ h => absurd h List.not_mem_nil), List.forall_mem_cons.mpr ⟨(fun _ h => absurd h List.not_mem_nil), List.forall_mem_cons.mpr ⟨(fun _ h => absurd h List.not_mem_nil), List.forall_mem_cons.mpr ⟨(fun _ h => absurd h List.not_mem_nil), List.forall_mem_cons.mpr ⟨(fun _ h => absurd h List.not_mem_nil), List.forall_mem_cons.mpr ⟨(fun _ h => absurd h List.not_mem_nil), List.forall_mem_cons.mpr ⟨(fun _ h => absurd h List.not_mem_nil), List.forall_mem_cons.mpr ⟨(fun _ h => absurd h List.not_mem_nil), List.forall_mem_cons.mpr ⟨(fun _ h => absurd h List.not_mem_nil), List.forall_mem_cons.mpr ⟨(fun _ h => absurd h List.not_mem_nil), fun _ h => absurd h List.not_mem_nil⟩⟩⟩⟩⟩⟩⟩⟩⟩⟩⟩⟩⟩⟩⟩⟩
theorem yCr_ck16 : ∀ Ks ∈ yCr_16, ∀ K ∈ Ks, y_ck K := List.forall_mem_cons.mpr ⟨(fun _ h => absurd h List.not_mem_nil), List.forall_mem_cons.mpr ⟨(fun _ h => absurd h List.not_mem_nil), List.forall_mem_cons.mpr ⟨(fun _ h => absurd h List.not_mem_nil), List.forall_mem_cons.mpr ⟨(fun _ h => absurd h List.not_mem_nil), List.forall_mem_cons.mpr ⟨(fun _ h => absurd h List.not_mem_nil), List.forall_mem_cons.mpr ⟨(fun _ h => absurd h List.not_mem_nil), List.forall_mem_cons.mpr ⟨(fun _ h => absurd h List.not_mem_nil), List.forall_mem_cons.mpr ⟨(fun _ h => absurd h List.not_mem_nil), List.forall_mem_cons.mpr ⟨(fun _ h => absurd h List.not_mem_nil), List.forall_mem_cons.mpr ⟨(fun _ h => absurd h List.not_mem_nil), List.forall_mem_cons.mpr ⟨(fun _ h => absurd h List.not_mem_nil), List.forall_mem_cons.mpr ⟨(fun _ h => absurd h List.not_mem_nil), List.forall_mem_cons.mpr ⟨(fun _ h => absurd h List.not_mem_nil), List.forall_mem_cons.mpr ⟨(fun _ h => absurd h List.not_mem_nil), List.forall_mem_cons.mpr ⟨(fun _ h => absurd h List.not_mem_nil), List.forall_mem_cons.mpr ⟨(fun _ h => absurd h List.not_mem_nil), fun _ h => absurd h List.not_mem_nil⟩⟩⟩⟩⟩⟩⟩⟩⟩⟩⟩⟩⟩⟩⟩⟩
theorem yCr_ck17 : ∀ Ks ∈ yCr_17, ∀ K ∈ Ks, y_ck K := List.forall_mem_cons.mpr ⟨(fun _ h => absurd h List.not_mem_nil), List.forall_mem_cons.mpr ⟨(fun _ h => absurd h List.not_mem_nil), List.forall_mem_cons.mpr ⟨(fun _ h => absurd h List.not_mem_nil), List.forall_mem_cons.mpr ⟨(fun _ h => absurd h List.not_mem_nil), List.forall_mem_cons.mpr ⟨(fun _ h => absurd h List.not_mem_nil), List.forall_mem_cons.mpr ⟨(List.forall_mem_cons.mpr ⟨yq_346, List.forall_mem_cons.mpr ⟨yq_347, List.forall_mem_cons.mpr ⟨yq_348, List.forall_mem_cons.mpr ⟨yq_349, List.forall_mem_cons.mpr ⟨yq_350, List.forall_mem_cons.mpr ⟨yq_351, fun _ h => absurd h List.not_mem_nil⟩⟩⟩⟩⟩⟩), fun _ h => absurd h List.not_mem_nil⟩⟩⟩⟩⟩⟩
theorem yCT_ck : ∀ row ∈ yCTab, ∀ Ks ∈ row, ∀ K ∈ Ks, y_ck K := List.forall_mem_cons.mpr ⟨yCr_ck0, List.forall_mem_cons.mpr ⟨yCr_ck1, List.forall_mem_cons.mpr ⟨yCr_ck2, List.forall_mem_cons.mpr ⟨yCr_ck3, List.forall_mem_cons.mpr ⟨yCr_ck4, List.forall_mem_cons.mpr ⟨yCr_ck5, List.forall_mem_cons.mpr ⟨yCr_ck6, List.forall_mem_cons.mpr ⟨yCr_ck7, List.forall_mem_cons.mpr ⟨yCr_ck8, List.forall_mem_cons.mpr ⟨yCr_ck9, List.forall_mem_cons.mpr ⟨yCr_ck10, List.forall_mem_cons.mpr ⟨yCr_ck11, List.forall_mem_cons.mpr ⟨yCr_ck12, List.forall_mem_cons.mpr ⟨yCr_ck13, List.forall_mem_cons.mpr ⟨yCr_ck14, List.forall_mem_cons.mpr ⟨yCr_ck15, List.forall_mem_cons.mpr ⟨yCr_ck16, List.forall_mem_cons.mpr ⟨yCr_ck17, fun _ h => absurd h List.not_mem_nil⟩⟩⟩⟩⟩⟩⟩⟩⟩⟩⟩⟩⟩⟩⟩⟩⟩⟩
theorem yCrV_ck0 : ∀ Ks ∈ yCrV_0, ∀ K ∈ Ks, y_ckV K := List.forall_mem_cons.mpr ⟨(List.forall_mem_cons.mpr ⟨yqV_0, fun _ h => absurd h List.not_mem_nil⟩), List.forall_mem_cons.mpr ⟨(List.forall_mem_cons.mpr ⟨yqV_1, fun _ h => absurd h List.not_mem_nil⟩), List.forall_mem_cons.mpr ⟨(List.forall_mem_cons.mpr ⟨yqV_2, fun _ h => absurd h List.not_mem_nil⟩), List.forall_mem_cons.mpr ⟨(List.forall_mem_cons.mpr ⟨yqV_3, fun _ h => absurd h List.not_mem_nil⟩), List.forall_mem_cons.mpr ⟨(List.forall_mem_cons.mpr ⟨yqV_4, List.forall_mem_cons.mpr ⟨yqV_5, List.forall_mem_cons.mpr ⟨yqV_6, List.forall_mem_cons.mpr ⟨yqV_7, List.forall_mem_cons.mpr ⟨yqV_8, List.forall_mem_cons.mpr ⟨yqV_9, List.forall_mem_cons.mpr ⟨yqV_10, List.forall_mem_cons.mpr ⟨yqV_11, List.forall_mem_cons.mpr ⟨yqV_12, fun _ h => absurd h List.not_mem_nil⟩⟩⟩⟩⟩⟩⟩⟩⟩), List.forall_mem_cons.mpr ⟨(List.forall_mem_cons.mpr ⟨yqV_13, List.forall_mem_cons.mpr ⟨yqV_14, fun _ h => absurd h List.not_mem_nil⟩⟩), List.forall_mem_cons.mpr ⟨(List.forall_mem_cons.mpr ⟨yqV_15, List.forall_mem_cons.mpr ⟨yqV_16, fun _ h => absurd h List.not_mem_nil⟩⟩), List.forall_mem_cons.mpr ⟨(fun _ h => absurd h List.not_mem_nil), List.forall_mem_cons.mpr ⟨(fun _ h => absurd h List.not_mem_nil), List.forall_mem_cons.mpr ⟨(List.forall_mem_cons.mpr ⟨yqV_17, fun _ h => absurd h List.not_mem_nil⟩), List.forall_mem_cons.mpr ⟨(List.forall_mem_cons.mpr ⟨yqV_18, fun _ h => absurd h List.not_mem_nil⟩), List.forall_mem_cons.mpr ⟨(List.forall_mem_cons.mpr ⟨yqV_19, fun _ h => absurd h List.not_mem_nil⟩), List.forall_mem_cons.mpr ⟨(List.forall_mem_cons.mpr ⟨yqV_20, fun _ h => absurd h List.not_mem_nil⟩), List.forall_mem_cons.mpr ⟨(List.forall_mem_cons.mpr ⟨yqV_21, fun _ h => absurd h List.not_mem_nil⟩), List.forall_mem_cons.mpr ⟨(List.forall_mem_cons.mpr ⟨yqV_22, fun _ h => absurd h List.not_mem_nil⟩), List.forall_mem_cons.mpr ⟨(List.forall_mem_cons.mpr ⟨yqV_23, fun _ h => absurd h List.not_mem_nil⟩), fun _ h => absurd h List.not_mem_nil⟩⟩⟩⟩⟩⟩⟩⟩⟩⟩⟩⟩⟩⟩⟩⟩
theorem yCrV_ck1 : ∀ Ks ∈ yCrV_1, ∀ K ∈ Ks, y_ckV K := List.forall_mem_cons.mpr ⟨(List.forall_mem_cons.mpr ⟨yqV_24, List.forall_mem_cons.mpr ⟨yqV_25, fun _ h => absurd h List.not_mem_nil⟩⟩), List.forall_mem_cons.mpr ⟨(List.forall_mem_cons.mpr ⟨yqV_26, fun _ h => absurd h List.not_mem_nil⟩), List.forall_mem_cons.mpr ⟨(List.forall_mem_cons.mpr ⟨yqV_27, fun _ h => absurd h List.not_mem_nil⟩), List.forall_mem_cons.mpr ⟨(List.forall_mem_cons.mpr ⟨yqV_28, fun _ h => absurd h List.not_mem_nil⟩), List.forall_mem_cons.mpr ⟨(List.forall_mem_cons.mpr ⟨yqV_29, fun _ h => absurd h List.not_mem_nil⟩), List.forall_mem_cons.mpr ⟨(List.forall_mem_cons.mpr ⟨yqV_30, fun _ h => absurd h List.not_mem_nil⟩), List.forall_mem_cons.mpr ⟨(List.forall_mem_cons.mpr ⟨yqV_31, fun _ h => absurd h List.not_mem_nil⟩), List.forall_mem_cons.mpr ⟨(List.forall_mem_cons.mpr ⟨yqV_32, fun _ h => absurd h List.not_mem_nil⟩), List.forall_mem_cons.mpr ⟨(List.forall_mem_cons.mpr ⟨yqV_33, fun _ h => absurd h List.not_mem_nil⟩), List.forall_mem_cons.mpr ⟨(List.forall_mem_cons.mpr ⟨yqV_34, fun _ h => absurd h List.not_mem_nil⟩), List.forall_mem_cons.mpr ⟨(List.forall_mem_cons.mpr ⟨yqV_35, List.forall_mem_cons.mpr ⟨yqV_36, fun _ h => absurd h List.not_mem_nil⟩⟩), List.forall_mem_cons.mpr ⟨(fun _ h => absurd h List.not_mem_nil), List.forall_mem_cons.mpr ⟨(fun _ h => absurd h List.not_mem_nil), List.forall_mem_cons.mpr ⟨(fun _ h => absurd h List.not_mem_nil), List.forall_mem_cons.mpr ⟨(fun _ h => absurd h List.not_mem_nil), List.forall_mem_cons.mpr ⟨(fun _ h => absurd h List.not_mem_nil), fun _ h => absurd h List.not_mem_nil⟩⟩⟩⟩⟩⟩⟩⟩⟩⟩⟩⟩⟩⟩⟩⟩
theorem yCrV_ck2 : ∀ Ks ∈ yCrV_2, ∀ K ∈ Ks, y_ckV K := List.forall_mem_cons.mpr ⟨(fun _ h => absurd h List.not_mem_nil), List.forall_mem_cons.mpr ⟨(fun _ h => absurd h List.not_mem_nil), List.forall_mem_cons.mpr ⟨(fun _ h => absurd h List.not_mem_nil), List.forall_mem_cons.mpr ⟨(fun _ h => absurd h List.not_mem_nil), List.forall_mem_cons.mpr ⟨(List.forall_mem_cons.mpr ⟨yqV_42, fun _ h => absurd h List.not_mem_nil⟩), List.forall_mem_cons.mpr ⟨(List.forall_mem_cons.mpr ⟨yqV_43, fun _ h => absurd h List.not_mem_nil⟩), List.forall_mem_cons.mpr ⟨(fun _ h => absurd h List.not_mem_nil), List.forall_mem_cons.mpr ⟨(List.forall_mem_cons.mpr ⟨yqV_44, fun _ h => absurd h List.not_mem_nil⟩), List.forall_mem_cons.mpr ⟨(List.forall_mem_cons.mpr ⟨yqV_45, fun _ h => absurd h List.not_mem_nil⟩), List.forall_mem_cons.mpr ⟨(List.forall_mem_cons.mpr ⟨yqV_46, fun _ h => absurd h List.not_mem_nil⟩), List.forall_mem_cons.mpr ⟨(List.forall_mem_cons.mpr ⟨yqV_47, fun _ h => absurd h List.not_mem_nil⟩), List.forall_mem_cons.mpr ⟨(List.forall_mem_cons.mpr ⟨yqV_48, fun _ h => absurd h List.not_mem_nil⟩), List.forall_mem_cons.mpr ⟨(List.forall_mem_cons.mpr ⟨yqV_49, fun _ h => absurd h List.not_mem_nil⟩), List.forall_mem_cons.mpr ⟨(List.forall_mem_cons.mpr ⟨yqV_50, List.forall_mem_cons.mpr ⟨yqV_51, List.forall_mem_cons.mpr ⟨yqV_52, List.forall_mem_cons.mpr ⟨yqV_53, fun _ h => absurd h List.not_mem_nil⟩⟩⟩⟩), List.forall_mem_cons.mpr ⟨(fun _ h => absurd h List.not_mem_nil), List.forall_mem_cons.mpr ⟨(fun _ h => absurd h List.not_mem_nil), fun _ h => absurd h List.not_mem_nil⟩⟩⟩⟩⟩⟩⟩⟩⟩⟩⟩⟩⟩⟩⟩⟩
theorem yCrV_ck3 : ∀ Ks ∈ yCrV_3, ∀ K ∈ Ks, y_ckV K := List.forall_mem_cons.mpr ⟨(List.forall_mem_cons.mpr ⟨yqV_59, List.forall_mem_cons.mpr ⟨yqV_60, List.forall_mem_cons.mpr ⟨yqV_61, List.forall_mem_cons.mpr ⟨yqV_62, List.forall_mem_cons.mpr ⟨yqV_63, List.forall_mem_cons.mpr ⟨yqV_64, fun _ h => absurd h List.not_mem_nil⟩⟩⟩⟩⟩⟩), List.forall_mem_cons.mpr ⟨(List.forall_mem_cons.mpr ⟨yqV_65, List.forall_mem_cons.mpr ⟨yqV_66, List.forall_mem_cons.mpr ⟨yqV_67, fun _ h => absurd h List.not_mem_nil⟩⟩⟩), List.forall_mem_cons.mpr ⟨(fun _ h => absurd h List.not_mem_nil), List.forall_mem_cons.mpr ⟨(fun _ h => absurd h List.not_mem_nil), List.forall_mem_cons.mpr ⟨(fun _ h => absurd h List.not_mem_nil), List.forall_mem_cons.mpr ⟨(fun _ h => absurd h List.not_mem_nil), List.forall_mem_cons.mpr ⟨(fun _ h => absurd h List.not_mem_nil), List.forall_mem_cons.mpr ⟨(List.forall_mem_cons.mpr ⟨yqV_68, List.forall_mem_cons.mpr ⟨yqV_69, List.forall_mem_cons.mpr ⟨yqV_70, List.forall_mem_cons.mpr ⟨yqV_71, List.forall_mem_cons.mpr ⟨yqV_72, fun _ h => absurd h List.not_mem_nil⟩⟩⟩⟩⟩), List.forall_mem_cons.mpr ⟨(List.forall_mem_cons.mpr ⟨yqV_73, List.forall_mem_cons.mpr ⟨yqV_74, List.forall_mem_cons.mpr ⟨yqV_75, List.forall_mem_cons.mpr ⟨yqV_76, List.forall_mem_cons.mpr ⟨yqV_77, List.forall_mem_cons.mpr ⟨yqV_78, List.forall_mem_cons.mpr ⟨yqV_79, List.forall_mem_cons.mpr ⟨yqV_80, List.forall_mem_cons.mpr ⟨yqV_81, List.forall_mem_cons.mpr ⟨yqV_82, List.forall_mem_cons.mpr ⟨yqV_83, List.forall_mem_cons.mpr ⟨yqV_84, List.forall_mem_cons.mpr ⟨yqV_85, List.forall_mem_cons.mpr ⟨yqV_86, List.forall_mem_cons.mpr ⟨yqV_87, fun _ h => absurd h List.not_mem_nil⟩⟩⟩⟩⟩⟩⟩⟩⟩⟩⟩⟩⟩⟩⟩), List.forall_mem_cons.mpr ⟨(List.forall_mem_cons.mpr ⟨yqV_88, fun _ h => absurd h List.not_mem_nil⟩), List.forall_mem_cons.mpr ⟨(List.forall_mem_cons.mpr ⟨yqV_89, fun _ h => absurd h List.not_mem_nil⟩), List.forall_mem_cons.mpr ⟨(List.forall_mem_cons.mpr ⟨yqV_90, fun _ h => absurd h List.not_mem_nil⟩), List.forall_mem_cons.mpr ⟨(fun _ h => absurd h List.not_mem_nil), List.forall_mem_cons.mpr ⟨(fun _ h => absurd h List.not_mem_nil), List.forall_mem_cons.mpr ⟨(fun _ h => absurd h List.not_mem_nil), List.forall_mem_cons.mpr ⟨(List.forall_mem_cons.mpr ⟨yqV_91, List.forall_mem_cons.mpr ⟨yqV_92, List.forall_mem_cons.mpr ⟨yqV_93, List.forall_mem_cons.mpr ⟨yqV_94, List.forall_mem_cons.mpr ⟨yqV_95, List.forall_mem_cons.mpr ⟨yqV_96, List.forall_mem_cons.mpr ⟨yqV_97, List.forall_mem_cons.mpr ⟨yqV_98, List.forall_mem_cons.mpr ⟨yqV_99, fun _ h => absurd h List.not_mem_nil⟩⟩⟩⟩⟩⟩⟩⟩⟩), fun _ h => absurd h List.not_mem_nil⟩⟩⟩⟩⟩⟩⟩⟩⟩⟩⟩⟩⟩⟩⟩⟩
theorem yCrV_ck4 : ∀ Ks ∈ yCrV_4, ∀ K ∈ Ks, y_ckV K := List.forall_mem_cons.mpr ⟨(List.forall_mem_cons.mpr ⟨yqV_100, List.forall_mem_cons.mpr ⟨yqV_101, List.forall_mem_cons.mpr ⟨yqV_102, List.forall_mem_cons.mpr ⟨yqV_103, List.forall_mem_cons.mpr ⟨yqV_104, List.forall_mem_cons.mpr ⟨yqV_105, List.forall_mem_cons.mpr ⟨yqV_106, List.forall_mem_cons.mpr ⟨yqV_107, List.forall_mem_cons.mpr ⟨yqV_108, fun _ h => absurd h List.not_mem_nil⟩⟩⟩⟩⟩⟩⟩⟩⟩), List.forall_mem_cons.mpr ⟨(List.forall_mem_cons.mpr ⟨yqV_109, List.forall_mem_cons.mpr ⟨yqV_110, List.forall_mem_cons.mpr ⟨yqV_111, List.forall_mem_cons.mpr ⟨yqV_112, List.forall_mem_cons.mpr ⟨yqV_113, List.forall_mem_cons.mpr ⟨yqV_114, List.forall_mem_cons.mpr ⟨yqV_115, List.forall_mem_cons.mpr ⟨yqV_116, List.forall_mem_cons.mpr ⟨yqV_117, fun _ h => absurd h List.not_mem_nil⟩⟩⟩⟩⟩⟩⟩⟩⟩), List.forall_mem_cons.mpr ⟨(List.forall_mem_cons.mpr ⟨yqV_118, fun _ h => absurd h List.not_mem_nil⟩), List.forall_mem_cons.mpr ⟨(fun _ h => absurd h List.not_mem_nil), List.forall_mem_cons.mpr ⟨(List.forall_mem_cons.mpr ⟨yqV_120, List.forall_mem_cons.mpr ⟨yqV_121, List.forall_mem_cons.mpr ⟨yqV_122, List.forall_mem_cons.mpr ⟨yqV_123, List.forall_mem_cons.mpr ⟨yqV_124, List.forall_mem_cons.mpr ⟨yqV_125, List.forall_mem_cons.mpr ⟨yqV_126, List.forall_mem_cons.mpr ⟨yqV_127, List.forall_mem_cons.mpr ⟨yqV_128, List.forall_mem_cons.mpr ⟨yqV_129, List.forall_mem_cons.mpr ⟨yqV_130, List.forall_mem_cons.mpr ⟨yqV_131, List.forall_mem_cons.mpr ⟨yqV_132, List.forall_mem_cons.mpr ⟨yqV_133, List.forall_mem_cons.mpr ⟨yqV_134, List.forall_mem_cons.mpr ⟨yqV_135, List.forall_mem_cons.mpr ⟨yqV_136, List.forall_mem_cons.mpr ⟨yqV_137, List.forall_mem_cons.mpr ⟨yqV_138, List.forall_mem_cons.mpr ⟨yqV_139, List.forall_mem_cons.mpr ⟨yqV_140, List.forall_mem_cons.mpr ⟨yqV_141, List.forall_mem_cons.mpr ⟨yqV_142, fun _ h => absurd h List.not_mem_nil⟩⟩⟩⟩⟩⟩⟩⟩⟩⟩⟩⟩⟩⟩⟩⟩⟩⟩⟩⟩⟩⟩⟩), List.forall_mem_cons.mpr ⟨(fun _ h => absurd h List.not_mem_nil), List.forall_mem_cons.mpr ⟨(fun _ h => absurd h List.not_mem_nil), List.forall_mem_cons.mpr ⟨(List.forall_mem_cons.mpr ⟨yqV_143, List.forall_mem_cons.mpr ⟨yqV_144, fun _ h => absurd h List.not_mem_nil⟩⟩), List.forall_mem_cons.mpr ⟨(fun _ h => absurd h List.not_mem_nil), List.forall_mem_cons.mpr ⟨(fun _ h => absurd h List.not_mem_nil), List.forall_mem_cons.mpr ⟨(fun _ h => absurd h List.not_mem_nil), List.forall_mem_cons.mpr ⟨(List.forall_mem_cons.mpr ⟨yqV_145, List.forall_mem_cons.mpr ⟨yqV_146, List.forall_mem_cons.mpr ⟨yqV_147, fun _ h => absurd h List.not_mem_nil⟩⟩⟩), List.forall_mem_cons.mpr ⟨(fun _ h => absurd h List.not_mem_nil), List.forall_mem_cons.mpr ⟨(fun _ h => absurd h List.not_mem_nil), List.forall_mem_cons.mpr ⟨(fun _ h => absurd h List.not_mem_nil), List.forall_mem_cons.mpr ⟨(List.forall_mem_cons.mpr ⟨yqV_148, fun _ h => absurd h List.not_mem_nil⟩), fun _ h => absurd h List.not_mem_nil⟩⟩⟩⟩⟩⟩⟩⟩⟩⟩⟩⟩⟩⟩⟩⟩
theorem yCrV_ck5 : ∀ Ks ∈ yCrV_5, ∀ K ∈ Ks, y_ckV K := List.forall_mem_cons.mpr ⟨(fun _ h => absurd h List.not_mem_nil), List.forall_mem_cons.mpr ⟨(fun _ h => absurd h List.not_mem_nil), List.forall_mem_cons.mpr ⟨(List.forall_mem_cons.mpr ⟨yqV_149, fun _ h => absurd h List.not_mem_nil⟩), List.forall_mem_cons.mpr ⟨(fun _ h => absurd h List.not_mem_nil), List.forall_mem_cons.mpr ⟨(List.forall_mem_cons.mpr ⟨yqV_150, List.forall_mem_cons.mpr ⟨yqV_151, fun _ h => absurd h List.not_mem_nil⟩⟩), List.forall_mem_cons.mpr ⟨(fun _ h => absurd h List.not_mem_nil), List.forall_mem_cons.mpr ⟨(List.forall_mem_cons.mpr ⟨yqV_152, List.forall_mem_cons.mpr ⟨yqV_153, fun _ h => absurd h List.not_mem_nil⟩⟩), List.forall_mem_cons.mpr ⟨(List.forall_mem_cons.mpr ⟨yqV_154, List.forall_mem_cons.mpr ⟨yqV_155, fun _ h => absurd h List.not_mem_nil⟩⟩), List.forall_mem_cons.mpr ⟨(List.forall_mem_cons.mpr ⟨yqV_156, List.forall_mem_cons.mpr ⟨yqV_157, fun _ h => absurd h List.not_mem_nil⟩⟩), List.forall_mem_cons.mpr ⟨(List.forall_mem_cons.mpr ⟨yqV_158, List.forall_mem_cons.mpr ⟨yqV_159, fun _ h => absurd h List.not_mem_nil⟩⟩), List.forall_mem_cons.mpr ⟨(List.forall_mem_cons.mpr ⟨yqV_160, List.forall_mem_cons.mpr ⟨yqV_161, fun _ h => absurd h List.not_mem_nil⟩⟩), List.forall_mem_cons.mpr ⟨(fun _ h => absurd h List.not_mem_nil), List.forall_mem_cons.mpr ⟨(List.forall_mem_cons.mpr ⟨yqV_162, List.forall_mem_cons.mpr ⟨yqV_163, fun _ h => absurd h List.not_mem_nil⟩⟩), List.forall_mem_cons.mpr ⟨(fun _ h => absurd h List.not_mem_nil), List.forall_mem_cons.mpr ⟨(List.forall_mem_cons.mpr ⟨yqV_164, List.forall_mem_cons.mpr ⟨yqV_165, fun _ h => absurd h List.not_mem_nil⟩⟩), List.forall_mem_cons.mpr ⟨(List.forall_mem_cons.mpr ⟨yqV_166, List.forall_mem_cons.mpr ⟨yqV_167, fun _ h => absurd h List.not_mem_nil⟩⟩), fun _ h => absurd h List.not_mem_nil⟩⟩⟩⟩⟩⟩⟩⟩⟩⟩⟩⟩⟩⟩⟩⟩
theorem yCrV_ck6 : ∀ Ks ∈ yCrV_6, ∀ K ∈ Ks, y_ckV K := List.forall_mem_cons.mpr ⟨(List.forall_mem_cons.mpr ⟨yqV_168, List.forall_mem_cons.mpr ⟨yqV_169, fun _ h => absurd h List.not_mem_nil⟩⟩), List.forall_mem_cons.mpr ⟨(fun _ h => absurd h List.not_mem_nil), List.forall_mem_cons.mpr ⟨(List.forall_mem_cons.mpr ⟨yqV_170, fun _ h => absurd h List.not_mem_nil⟩), List.forall_mem_cons.mpr ⟨(List.forall_mem_cons.mpr ⟨yqV_171, List.forall_mem_cons.mpr ⟨yqV_172, List.forall_mem_cons.mpr ⟨yqV_173, fun _ h => absurd h List.not_mem_nil⟩⟩⟩), List.forall_mem_cons.mpr ⟨(List.forall_mem_cons.mpr ⟨yqV_174, fun _ h => absurd h List.not_mem_nil⟩), List.forall_mem_cons.mpr ⟨(List.forall_mem_cons.mpr ⟨yqV_175, fun _ h => absurd h List.not_mem_nil⟩), List.forall_mem_cons.mpr ⟨(fun _ h => absurd h List.not_mem_nil), List.forall_mem_cons.mpr ⟨(List.forall_mem_cons.mpr ⟨yqV_176, fun _ h => absurd h List.not_mem_nil⟩), List.forall_mem_cons.mpr ⟨(List.forall_mem_cons.mpr ⟨yqV_177, fun _ h => absurd h List.not_mem_nil⟩), List.forall_mem_cons.mpr ⟨(fun _ h => absurd h List.not_mem_nil), List.forall_mem_cons.mpr ⟨(fun _ h => absurd h List.not_mem_nil), List.forall_mem_cons.mpr ⟨(fun _ h => absurd h List.not_mem_nil), List.forall_mem_cons.mpr ⟨(fun _ h => absurd h List.not_mem_nil), List.forall_mem_cons.mpr ⟨(fun _ h => absurd h List.not_mem_nil), List.forall_mem_cons.mpr ⟨(List.forall_mem_cons.mpr ⟨yqV_178, List.forall_mem_cons.mpr ⟨yqV_179, fun _ h => absurd h List.not_mem_nil⟩⟩), List.forall_mem_cons.mpr ⟨(List.forall_mem_cons.mpr ⟨yqV_180, List.forall_mem_cons.mpr ⟨yqV_181, List.forall_mem_cons.mpr ⟨yqV_182, List.forall_mem_cons.mpr ⟨yqV_183, List.forall_mem_cons.mpr ⟨yqV_184, List.forall_mem_cons.mpr ⟨yqV_185, List.forall_mem_cons.mpr ⟨yqV_186, List.forall_mem_cons.mpr ⟨yqV_187, List.forall_mem_cons.mpr ⟨yqV_188, fun _ h => absurd h List.not_mem_nil⟩⟩⟩⟩⟩⟩⟩⟩⟩), fun _ h => absurd h List.not_mem_nil⟩⟩⟩⟩⟩⟩⟩⟩⟩⟩⟩⟩⟩⟩⟩⟩
theorem yCrV_ck7 : ∀ Ks ∈ yCrV_7, ∀ K ∈ Ks, y_ckV K := List.forall_mem_cons.mpr ⟨(List.forall_mem_cons.mpr ⟨yqV_189, List.forall_mem_cons.mpr ⟨yqV_190, List.forall_mem_cons.mpr ⟨yqV_191, List.forall_mem_cons.mpr ⟨yqV_192, List.forall_mem_cons.mpr ⟨yqV_193, List.forall_mem_cons.mpr ⟨yqV_194, fun _ h => absurd h List.not_mem_nil⟩⟩⟩⟩⟩⟩), List.forall_mem_cons.mpr ⟨(List.forall_mem_cons.mpr ⟨yqV_195, List.forall_mem_cons.mpr ⟨yqV_196, List.forall_mem_cons.mpr ⟨yqV_197, fun _ h => absurd h List.not_mem_nil⟩⟩⟩), List.forall_mem_cons.mpr ⟨(List.forall_mem_cons.mpr ⟨yqV_198, fun _ h => absurd h List.not_mem_nil⟩), List.forall_mem_cons.mpr ⟨(List.forall_mem_cons.mpr ⟨yqV_199, fun _ h => absurd h List.not_mem_nil⟩), List.forall_mem_cons.mpr ⟨(fun _ h => absurd h List.not_mem_nil), List.forall_mem_cons.mpr ⟨(List.forall_mem_cons.mpr ⟨yqV_201, fun _ h => absurd h List.not_mem_nil⟩), List.forall_mem_cons.mpr ⟨(List.forall_mem_cons.mpr ⟨yqV_202, fun _ h => absurd h List.not_mem_nil⟩), List.forall_mem_cons.mpr ⟨(fun _ h => absurd h List.not_mem_nil), List.forall_mem_cons.mpr ⟨(fun _ h => absurd h List.not_mem_nil), List.forall_mem_cons.mpr ⟨(List.forall_mem_cons.mpr ⟨yqV_203, fun _ h => absurd h List.not_mem_nil⟩), List.forall_mem_cons.mpr ⟨(List.forall_mem_cons.mpr ⟨yqV_204, fun _ h => absurd h List.not_mem_nil⟩), List.forall_mem_cons.mpr ⟨(List.forall_mem_cons.mpr ⟨yqV_205, fun _ h => absurd h List.not_mem_nil⟩), List.forall_mem_cons.mpr ⟨(List.forall_mem_cons.mpr ⟨yqV_206, fun _ h => absurd h List.not_mem_nil⟩), List.forall_mem_cons.mpr ⟨(List.forall_mem_cons.mpr ⟨yqV_207, fun _ h => absurd h List.not_mem_nil⟩), List.forall_mem_cons.mpr ⟨(List.forall_mem_cons.mpr ⟨yqV_208, fun _ h => absurd h List.not_mem_nil⟩), List.forall_mem_cons.mpr ⟨(List.forall_mem_cons.mpr ⟨yqV_209, fun _ h => absurd h List.not_mem_nil⟩), fun _ h => absurd h List.not_mem_nil⟩⟩⟩⟩⟩⟩⟩⟩⟩⟩⟩⟩⟩⟩⟩⟩
theorem yCrV_ck8 : ∀ Ks ∈ yCrV_8, ∀ K ∈ Ks, y_ckV K := List.forall_mem_cons.mpr ⟨(List.forall_mem_cons.mpr ⟨yqV_210, fun _ h => absurd h List.not_mem_nil⟩), List.forall_mem_cons.mpr ⟨(List.forall_mem_cons.mpr ⟨yqV_211, fun _ h => absurd h List.not_mem_nil⟩), List.forall_mem_cons.mpr ⟨(List.forall_mem_cons.mpr ⟨yqV_212, fun _ h => absurd h List.not_mem_nil⟩), List.forall_mem_cons.mpr ⟨(List.forall_mem_cons.mpr ⟨yqV_213, fun _ h => absurd h List.not_mem_nil⟩), List.forall_mem_cons.mpr ⟨(List.forall_mem_cons.mpr ⟨yqV_214, fun _ h => absurd h List.not_mem_nil⟩), List.forall_mem_cons.mpr ⟨(List.forall_mem_cons.mpr ⟨yqV_215, fun _ h => absurd h List.not_mem_nil⟩), List.forall_mem_cons.mpr ⟨(List.forall_mem_cons.mpr ⟨yqV_216, fun _ h => absurd h List.not_mem_nil⟩), List.forall_mem_cons.mpr ⟨(List.forall_mem_cons.mpr ⟨yqV_217, fun _ h => absurd h List.not_mem_nil⟩), List.forall_mem_cons.mpr ⟨(List.forall_mem_cons.mpr ⟨yqV_218, fun _ h => absurd h List.not_mem_nil⟩), List.forall_mem_cons.mpr ⟨(List.forall_mem_cons.mpr ⟨yqV_219, fun _ h => absurd h List.not_mem_nil⟩), List.forall_mem_cons.mpr ⟨(List.forall_mem_cons.mpr ⟨yqV_220, fun _ h => absurd h List.not_mem_nil⟩), List.forall_mem_cons.mpr ⟨(List.forall_mem_cons.mpr ⟨yqV_221, fun _ h => absurd h List.not_mem_nil⟩), List.forall_mem_cons.mpr ⟨(List.forall_mem_cons.mpr ⟨yqV_222, fun _ h => absurd h List.not_mem_nil⟩), List.forall_mem_cons.mpr ⟨(List.forall_mem_cons.mpr ⟨yqV_223, fun _ h => absurd h List.not_mem_nil⟩), List.forall_mem_cons.mpr ⟨(List.forall_mem_cons.mpr ⟨yqV_224, fun _ h => absurd h List.not_mem_nil⟩), List.forall_mem_cons.mpr ⟨(List.forall_mem_cons.mpr ⟨yqV_225, fun _ h => absurd h List.not_mem_nil⟩), fun _ h => absurd h List.not_mem_nil⟩⟩⟩⟩⟩⟩⟩⟩⟩⟩⟩⟩⟩⟩⟩⟩
theorem yCrV_ck9 : ∀ Ks ∈ yCrV_9, ∀ K ∈ Ks, y_ckV K := List.forall_mem_cons.mpr ⟨(List.forall_mem_cons.mpr ⟨yqV_226, fun _ h => absurd h List.not_mem_nil⟩), List.forall_mem_cons.mpr ⟨(List.forall_mem_cons.mpr ⟨yqV_227, fun _ h => absurd h List.not_mem_nil⟩), List.forall_mem_cons.mpr ⟨(List.forall_mem_cons.mpr ⟨yqV_228, fun _ h => absurd h List.not_mem_nil⟩), List.forall_mem_cons.mpr ⟨(List.forall_mem_cons.mpr ⟨yqV_229, fun _ h => absurd h List.not_mem_nil⟩), List.forall_mem_cons.mpr ⟨(List.forall_mem_cons.mpr ⟨yqV_230, fun _ h => absurd h List.not_mem_nil⟩), List.forall_mem_cons.mpr ⟨(List.forall_mem_cons.mpr ⟨yqV_231, fun _ h => absurd h List.not_mem_nil⟩), List.forall_mem_cons.mpr ⟨(List.forall_mem_cons.mpr ⟨yqV_232, fun _ h => absurd h List.not_mem_nil⟩), List.forall_mem_cons.mpr ⟨(List.forall_mem_cons.mpr ⟨yqV_233, fun _ h => absurd h List.not_mem_nil⟩), List.forall_mem_cons.mpr ⟨(fun _ h => absurd h List.not_mem_nil), List.forall_mem_cons.mpr ⟨(fun _ h => absurd h List.not_mem_nil), List.forall_mem_cons.mpr ⟨(List.forall_mem_cons.mpr ⟨yqV_236, fun _ h => absurd h List.not_mem_nil⟩), List.forall_mem_cons.mpr ⟨(fun _ h => absurd h List.not_mem_nil), List.forall_mem_cons.mpr ⟨(fun _ h => absurd h List.not_mem_nil), List.forall_mem_cons.mpr ⟨(fun _ h => absurd h List.not_mem_nil), List.forall_mem_cons.mpr ⟨(fun _ h => absurd h List.not_mem_nil), List.forall_mem_cons.mpr ⟨(List.forall_mem_cons.mpr ⟨yqV_237, fun _ h => absurd h List.not_mem_nil⟩), fun _ h => absurd h List.not_mem_nil⟩⟩⟩⟩⟩⟩⟩⟩⟩⟩⟩⟩⟩⟩⟩⟩
theorem yCrV_ck10 : ∀ Ks ∈ yCrV_10, ∀ K ∈ Ks, y_ckV K := List.forall_mem_cons.mpr ⟨(fun _ h => absurd h List.not_mem_nil), List.forall_mem_cons.mpr ⟨(fun _ h => absurd h List.not_mem_nil), List.forall_mem_cons.mpr ⟨(List.forall_mem_cons.mpr ⟨yqV_238, fun _ h => absurd h List.not_mem_nil⟩), List.forall_mem_cons.mpr ⟨(fun _ h => absurd h List.not_mem_nil), List.forall_mem_cons.mpr ⟨(List.forall_mem_cons.mpr ⟨yqV_239, fun _ h => absurd h List.not_mem_nil⟩), List.forall_mem_cons.mpr ⟨(fun _ h => absurd h List.not_mem_nil), List.forall_mem_cons.mpr ⟨(fun _ h => absurd h List.not_mem_nil), List.forall_mem_cons.mpr ⟨(fun _ h => absurd h List.not_mem_nil), List.forall_mem_cons.mpr ⟨(fun _ h => absurd h List.not_mem_nil), List.forall_mem_cons.mpr ⟨(List.forall_mem_cons.mpr ⟨yqV_240, fun _ h => absurd h List.not_mem_nil⟩), List.forall_mem_cons.mpr ⟨(fun _ h => absurd h List.not_mem_nil), List.forall_mem_cons.mpr ⟨(fun _ h => absurd h List.not_mem_nil), List.forall_mem_cons.mpr ⟨(fun _ h => absurd h List.not_mem_nil), List.forall_mem_cons.mpr ⟨(fun _ h => absurd h List.not_mem_nil), List.forall_mem_cons.mpr ⟨(fun _ h => absurd h List.not_mem_nil), List.forall_mem_cons.mpr ⟨(List.forall_mem_cons.mpr ⟨yqV_242, fun _ h => absurd h List.not_mem_nil⟩), fun _ h => absurd h List.not_mem_nil⟩⟩⟩⟩⟩⟩⟩⟩⟩⟩⟩⟩⟩⟩⟩⟩
theorem yCrV_ck11 : ∀ Ks ∈ yCrV_11, ∀ K ∈ Ks, y_ckV K := List.forall_mem_cons.mpr ⟨(fun _ h => absurd h List.not_mem_nil), List.forall_mem_cons.mpr ⟨(fun _ h => absurd h List.not_mem_nil), List.forall_mem_cons.mpr ⟨(fun _ h => absurd h List.not_mem_nil), List.forall_mem_cons.mpr ⟨(fun _ h => absurd h List.not_mem_nil), List.forall_mem_cons.mpr ⟨(List.forall_mem_cons.mpr ⟨yqV_243, fun _ h => absurd h List.not_mem_nil⟩), List.forall_mem_cons.mpr ⟨(List.forall_mem_cons.mpr ⟨yqV_244, List.forall_mem_cons.mpr ⟨yqV_245, List.forall_mem_cons.mpr ⟨yqV_246, List.forall_mem_cons.mpr ⟨yqV_247, List.forall_mem_cons.mpr ⟨yqV_248, List.forall_mem_cons.mpr ⟨yqV_249, List.forall_mem_cons.mpr ⟨yqV_250, fun _ h => absurd h List.not_mem_nil⟩⟩⟩⟩⟩⟩⟩), List.forall_mem_cons.mpr ⟨(List.forall_mem_cons.mpr ⟨yqV_251, List.forall_mem_cons.mpr ⟨yqV_252, List.forall_mem_cons.mpr ⟨yqV_253, List.forall_mem_cons.mpr ⟨yqV_254, List.forall_mem_cons.mpr ⟨yqV_255, List.forall_mem_cons.mpr ⟨yqV_256, List.forall_mem_cons.mpr ⟨yqV_257, List.forall_mem_cons.mpr ⟨yqV_258, List.forall_mem_cons.mpr ⟨yqV_259, fun _ h => absurd h List.not_mem_nil⟩⟩⟩⟩⟩⟩⟩⟩⟩), List.forall_mem_cons.mpr ⟨(List.forall_mem_cons.mpr ⟨yqV_260, List.forall_mem_cons.mpr ⟨yqV_261, List.forall_mem_cons.mpr ⟨yqV_262, List.forall_mem_cons.mpr ⟨yqV_263, List.forall_mem_cons.mpr ⟨yqV_264, List.forall_mem_cons.mpr ⟨yqV_265, fun _ h => absurd h List.not_mem_nil⟩⟩⟩⟩⟩⟩), List.forall_mem_cons.mpr ⟨(List.forall_mem_cons.mpr ⟨yqV_266, List.forall_mem_cons.mpr ⟨yqV_267, List.forall_mem_cons.mpr ⟨yqV_268, fun _ h => absurd h List.not_mem_nil⟩⟩⟩), List.forall_mem_cons.mpr ⟨(List.forall_mem_cons.mpr ⟨yqV_269, List.forall_mem_cons.mpr ⟨yqV_270, List.forall_mem_cons.mpr ⟨yqV_271, List.forall_mem_cons.mpr ⟨yqV_272, fun _ h => absurd h List.not_mem_nil⟩⟩⟩⟩), List.forall_mem_cons.mpr ⟨(List.forall_mem_cons.mpr ⟨yqV_273, List.forall_mem_cons.mpr ⟨yqV_274, List.forall_mem_cons.mpr ⟨yqV_275, List.forall_mem_cons.mpr ⟨yqV_276, fun _ h => absurd h List.not_mem_nil⟩⟩⟩⟩), List.forall_mem_cons.mpr ⟨(List.forall_mem_cons.mpr ⟨yqV_277, List.forall_mem_cons.mpr ⟨yqV_278, List.forall_mem_cons.mpr ⟨yqV_279, List.forall_mem_cons.mpr ⟨yqV_280, fun _ h => absurd h List.not_mem_nil⟩⟩⟩⟩), List.forall_mem_cons.mpr ⟨(List.forall_mem_cons.mpr ⟨yqV_281, fun _ h => absurd h List.not_mem_nil⟩), List.forall_mem_cons.mpr ⟨(List.forall_mem_cons.mpr ⟨yqV_282, fun _ h => absurd h List.not_mem_nil⟩), List.forall_mem_cons.mpr ⟨(fun _ h => absurd h List.not_mem_nil), List.forall_mem_cons.mpr ⟨(List.forall_mem_cons.mpr ⟨yqV_284, fun _ h => absurd h List.not_mem_nil⟩), fun _ h => absurd h List.not_mem_nil⟩⟩⟩⟩⟩⟩⟩⟩⟩⟩⟩⟩⟩⟩⟩⟩
theorem yCrV_ck12 : ∀ Ks ∈ yCrV_12, ∀ K ∈ Ks, y_ckV K := List.forall_mem_cons.mpr ⟨(fun _ h => absurd h List.not_mem_nil), List.forall_mem_cons.mpr ⟨(fun _ h => absurd h List.not_mem_nil), List.forall_mem_cons.mpr ⟨(fun _ h => absurd h List.not_mem_nil), List.forall_mem_cons.mpr ⟨(fun _ h => absurd h List.not_mem_nil), List.forall_mem_cons.mpr ⟨(List.forall_mem_cons.mpr ⟨yqV_285, fun _ h => absurd h List.not_mem_nil⟩), List.forall_mem_cons.mpr ⟨(fun _ h => absurd h List.not_mem_nil), List.forall_mem_cons.mpr ⟨(List.forall_mem_cons.mpr ⟨yqV_286, fun _ h => absurd h List.not_mem_nil⟩), List.forall_mem_cons.mpr ⟨(fun _ h => absurd h List.not_mem_nil), List.forall_mem_cons.mpr ⟨(fun _ h => absurd h List.not_mem_nil), List.forall_mem_cons.mpr ⟨(List.forall_mem_cons.mpr ⟨yqV_287, List.forall_mem_cons.mpr ⟨yqV_288, List.forall_mem_cons.mpr ⟨yqV_289, fun _ h => absurd h List.not_mem_nil⟩⟩⟩), List.forall_mem_cons.mpr ⟨(List.forall_mem_cons.mpr ⟨yqV_290, fun _ h => absurd h List.not_mem_nil⟩), List.forall_mem_cons.mpr ⟨(fun _ h => absurd h List.not_mem_nil), List.forall_mem_cons.mpr ⟨(fun _ h => absurd h List.not_mem_nil), List.forall_mem_cons.mpr ⟨(List.forall_mem_cons.mpr ⟨yqV_291, List.forall_mem_cons.mpr ⟨yqV_292, fun _ h => absurd h List.not_mem_nil⟩⟩), List.forall_mem_cons.mpr ⟨(fun _ h => absurd h List.not_mem_nil), List.forall_mem_cons.mpr ⟨(List.forall_mem_cons.mpr ⟨yqV_293, fun _ h => absurd h List.not_mem_nil⟩), fun _ h => absurd h List.not_mem_nil⟩⟩⟩⟩⟩⟩⟩⟩⟩⟩⟩⟩⟩⟩⟩⟩
theorem yCrV_ck13 : ∀ Ks ∈ yCrV_13, ∀ K ∈ Ks, y_ckV K := List.forall_mem_cons.mpr ⟨(List.forall_mem_cons.mpr ⟨yqV_294, fun _ h => absurd h List.not_mem_nil⟩), List.forall_mem_cons.mpr ⟨(List.forall_mem_cons.mpr ⟨yqV_295, fun _ h => absurd h List.not_mem_nil⟩), List.forall_mem_cons.mpr ⟨(List.forall_mem_cons.mpr ⟨yqV_296, fun _ h => absurd h List.not_mem_nil⟩), List.forall_mem_cons.mpr ⟨(List.forall_mem_cons.mpr ⟨yqV_297, fun _ h => absurd h List.not_mem_nil⟩), List.forall_mem_cons.mpr ⟨(List.forall_mem_cons.mpr ⟨yqV_298, fun _ h => absurd h List.not_mem_nil⟩), List.forall_mem_cons.mpr ⟨(List.forall_mem_cons.mpr ⟨yqV_299, fun _ h => absurd h List.not_mem_nil⟩), List.forall_mem_cons.mpr ⟨(List.forall_mem_cons.mpr ⟨yqV_300, fun _ h => absurd h List.not_mem_nil⟩), List.forall_mem_cons.mpr ⟨(List.forall_mem_cons.mpr ⟨yqV_301, fun _ h => absurd h List.not_mem_nil⟩), List.forall_mem_cons.mpr ⟨(List.forall_mem_cons.mpr ⟨yqV_302, fun _ h => absurd h List.not_mem_nil⟩), List.forall_mem_cons.mpr ⟨(List.forall_mem_cons.mpr ⟨yqV_303, fun _ h => absurd h List.not_mem_nil⟩), List.forall_mem_cons.mpr ⟨(fun _ h => absurd h List.not_mem_nil), List.forall_mem_cons.mpr ⟨(List.forall_mem_cons.mpr ⟨yqV_304, List.forall_mem_cons.mpr ⟨yqV_305, fun _ h => absurd h List.not_mem_nil⟩⟩), List.forall_mem_cons.mpr ⟨(List.forall_mem_cons.mpr ⟨yqV_306, fun _ h => absurd h List.not_mem_nil⟩), List.forall_mem_cons.mpr ⟨(List.forall_mem_cons.mpr ⟨yqV_307, fun _ h => absurd h List.not_mem_nil⟩), List.forall_mem_cons.mpr ⟨(List.forall_mem_cons.mpr ⟨yqV_308, fun _ h => absurd h List.not_mem_nil⟩), List.forall_mem_cons.mpr ⟨(List.forall_mem_cons.mpr ⟨yqV_309, fun _ h => absurd h List.not_mem_nil⟩), fun _ h => absurd h List.not_mem_nil⟩⟩⟩⟩⟩⟩⟩⟩⟩⟩⟩⟩⟩⟩⟩⟩
theorem yCrV_ck14 : ∀ Ks ∈ yCrV_14, ∀ K ∈ Ks, y_ckV K := List.forall_mem_cons.mpr ⟨(List.forall_mem_cons.mpr ⟨yqV_310, fun _ h => absurd h List.not_mem_nil⟩), List.forall_mem_cons.mpr ⟨(List.forall_mem_cons.mpr ⟨yqV_311, fun _ h => absurd h List.not_mem_nil⟩), List.forall_mem_cons.mpr ⟨(List.forall_mem_cons.mpr ⟨yqV_312, fun _ h => absurd h List.not_mem_nil⟩), List.forall_mem_cons.mpr ⟨(List.forall_mem_cons.mpr ⟨yqV_313, fun _ h => absurd h List.not_mem_nil⟩), List.forall_mem_cons.mpr ⟨(List.forall_mem_cons.mpr ⟨yqV_314, fun _ h => absurd h List.not_mem_nil⟩), List.forall_mem_cons.mpr ⟨(List.forall_mem_cons.mpr ⟨yqV_315, fun _ h => absurd h List.not_mem_nil⟩), List.forall_mem_cons.mpr ⟨(List.forall_mem_cons.mpr ⟨yqV_316, fun _ h => absurd h List.not_mem_nil⟩), List.forall_mem_cons.mpr ⟨(List.forall_mem_cons.mpr ⟨yqV_317, fun _ h => absurd h List.not_mem_nil⟩), List.forall_mem_cons.mpr ⟨(List.forall_mem_cons.mpr ⟨yqV_318, fun _ h => absurd h List.not_mem_nil⟩), List.forall_mem_cons.mpr ⟨(fun _ h => absurd h List.not_mem_nil), List.forall_mem_cons.mpr ⟨(List.forall_mem_cons.mpr ⟨yqV_319, fun _ h => absurd h List.not_mem_nil⟩), List.forall_mem_cons.mpr ⟨(List.forall_mem_cons.mpr ⟨yqV_320, fun _ h => absurd h List.not_mem_nil⟩), List.forall_mem_cons.mpr ⟨(List.forall_mem_cons.mpr ⟨yqV_321, fun _ h => absurd h List.not_mem_nil⟩), List.forall_mem_cons.mpr ⟨(List.forall_mem_cons.mpr ⟨yqV_322, fun _ h => absurd h List.not_mem_nil⟩), List.forall_mem_cons.mpr ⟨(List.forall_mem_cons.mpr ⟨yqV_323, fun _ h => absurd h List.not_mem_nil⟩), List.forall_mem_cons.mpr ⟨(List.forall_mem_cons.mpr ⟨yqV_324, fun _ h => absurd h List.not_mem_nil⟩), fun _ h => absurd h List.not_mem_nil⟩⟩⟩⟩⟩⟩⟩⟩⟩⟩⟩⟩⟩⟩⟩⟩
theorem yCrV_ck15 : ∀ Ks ∈ yCrV_15, ∀ K ∈ Ks, y_ckV K := List.forall_mem_cons.mpr ⟨(List.forall_mem_cons.mpr ⟨yqV_325, fun _ h => absurd h List.not_mem_nil⟩), List.forall_mem_cons.mpr ⟨(fun _ h => absurd h List.not_mem_nil), List.forall_mem_cons.mpr ⟨(List.forall_mem_cons.mpr ⟨yqV_326, fun _ h => absurd h List.not_mem_nil⟩), List.forall_mem_cons.mpr ⟨(List.forall_mem_cons.mpr ⟨yqV_327, fun _ h => absurd h List.not_mem_nil⟩), List.forall_mem_cons.mpr ⟨(List.forall_mem_cons.mpr ⟨yqV_328, fun _ h => absurd h List.not_mem_nil⟩), List.forall_mem_cons.mpr ⟨(List.forall_mem_cons.mpr ⟨yqV_329, List.forall_mem_cons.mpr ⟨yqV_330, fun _ h => absurd h List.not_mem_nil⟩⟩), List.forall_mem_cons.mpr ⟨(List.forall_mem_cons.mpr ⟨yqV_331, fun _ h => absurd h List.not_mem_nil⟩), List.forall_mem_cons.mpr ⟨(List.forall_mem_cons.mpr ⟨yqV_332, fun _ h => absurd h List.not_mem_nil⟩), List.forall_mem_cons.mpr ⟨(List.forall_mem_cons.mpr ⟨yqV_333, fun _ h => absurd h List.not_mem_nil⟩), List.forall_mem_cons.mpr ⟨(List.forall_mem_cons.mpr ⟨yqV_334, fun _ h => absurd h List.not_mem_nil⟩), List.forall_mem_cons.mpr ⟨(List.forall_mem_cons.mpr ⟨yqV_335, fun _ h => absurd h List.not_mem_nil⟩), List.forall_mem_cons.mpr ⟨(List.forall_mem_cons.mpr ⟨yqV_336, fun _ h => absurd h List.not_mem_nil⟩), List.forall_mem_cons.mpr ⟨(List.forall_mem_cons.mpr ⟨yqV_337, fun _ h => absurd h List.not_mem_nil⟩), List.forall_mem_cons.mpr ⟨(List.forall_mem_cons.mpr ⟨yqV_338, fun _ h => absurd h List.not_mem_nil⟩), List.forall_mem_cons.mpr ⟨(fun _ h => absurd h List.not_mem_nil), List.forall_mem_cons.mpr ⟨(fun _ h => absurd h List.not_mem_nil), fun _ h => absurd h List.not_mem_nil⟩⟩⟩⟩⟩⟩⟩⟩⟩⟩⟩⟩⟩⟩⟩⟩
theorem yCrV_ck16 : ∀ Ks ∈ yCrV_16, ∀ K ∈ Ks, y_ckV K := List.forall_mem_cons.mpr ⟨(List.forall_mem_cons.mpr ⟨yqV_339, fun _ h => absurd h List.not_mem_nil⟩), List.forall_mem_cons.mpr ⟨(List.forall_mem_cons.mpr ⟨yqV_340, fun _ h => absurd h List.not_mem_nil⟩), List.forall_mem_cons.mpr ⟨(List.forall_mem_cons.mpr ⟨yqV_341, fun _ h => absurd h List.not_mem_nil⟩), List.forall_mem_cons.mpr ⟨(fun _ h => absurd h List.not_mem_nil), List.forall_mem_cons.mpr ⟨(fun _ h => absurd h List.not_mem_nil), List.forall_mem_cons.mpr ⟨(fun _ h => absurd h List.not_mem_nil), List.forall_mem_cons.mpr ⟨(List.forall_mem_cons.mpr ⟨yqV_342, fun _ h => absurd h List.not_mem_nil⟩), List.forall_mem_cons.mpr ⟨(fun _ h => absurd h List.not_mem_nil), List.forall_mem_cons.mpr ⟨(fun _ h => absurd h List.not_mem_nil), List.forall_mem_cons.mpr ⟨(fun _ h => absurd h List.not_mem_nil), List.forall_mem_cons.mpr ⟨(List.forall_mem_cons.mpr ⟨yqV_343, fun _ h => absurd h List.not_mem_nil⟩), List.forall_mem_cons.mpr ⟨(fun _ h => absurd h List.not_mem_nil), List.forall_mem_cons.mpr ⟨(fun _ h => absurd h List.not_mem_nil), List.forall_mem_cons.mpr ⟨(fun _ h => absurd h List.not_mem_nil), List.forall_mem_cons.mpr ⟨(List.forall_mem_cons.mpr ⟨yqV_344, fun _ h => absurd h List.not_mem_nil⟩), List.forall_mem_cons.mpr ⟨(fun _ h => absurd h List.not_mem_nil), fun _ h => absurd h List.not_mem_nil⟩⟩⟩⟩⟩⟩⟩⟩⟩⟩⟩⟩⟩⟩⟩⟩
theorem yCrV_ck17 : ∀ Ks ∈ yCrV_17, ∀ K ∈ Ks, y_ckV K := List.forall_mem_cons.mpr ⟨(fun _ h => absurd h List.not_mem_nil), List.forall_mem_cons.mpr ⟨(fun _ h => absurd h List.not_mem_nil), List.forall_mem_cons.mpr ⟨(fun _ h => absurd h List.not_mem_nil), List.forall_mem_cons.mpr ⟨(List.forall_mem_cons.mpr ⟨yqV_345, fun _ h => absurd h List.not_mem_nil⟩), List.forall_mem_cons.mpr ⟨(fun _ h => absurd h List.not_mem_nil), List.forall_mem_cons.mpr ⟨(List.forall_mem_cons.mpr ⟨yqV_346, List.forall_mem_cons.mpr ⟨yqV_347, List.forall_mem_cons.mpr ⟨yqV_348, List.forall_mem_cons.mpr ⟨yqV_349, List.forall_mem_cons.mpr ⟨yqV_350, List.forall_mem_cons.mpr ⟨yqV_351, fun _ h => absurd h List.not_mem_nil⟩⟩⟩⟩⟩⟩), fun _ h => absurd h List.not_mem_nil⟩⟩⟩⟩⟩⟩
theorem yCT_ckV : ∀ row ∈ yCTabV, ∀ Ks ∈ row, ∀ K ∈ Ks, y_ckV K := List.forall_mem_cons.mpr ⟨yCrV_ck0, List.forall_mem_cons.mpr ⟨yCrV_ck1, List.forall_mem_cons.mpr ⟨yCrV_ck2, List.forall_mem_cons.mpr ⟨yCrV_ck3, List.forall_mem_cons.mpr ⟨yCrV_ck4, List.forall_mem_cons.mpr ⟨yCrV_ck5, List.forall_mem_cons.mpr ⟨yCrV_ck6, List.forall_mem_cons.mpr ⟨yCrV_ck7, List.forall_mem_cons.mpr ⟨yCrV_ck8, List.forall_mem_cons.mpr ⟨yCrV_ck9, List.forall_mem_cons.mpr ⟨yCrV_ck10, List.forall_mem_cons.mpr ⟨yCrV_ck11, List.forall_mem_cons.mpr ⟨yCrV_ck12, List.forall_mem_cons.mpr ⟨yCrV_ck13, List.forall_mem_cons.mpr ⟨yCrV_ck14, List.forall_mem_cons.mpr ⟨yCrV_ck15, List.forall_mem_cons.mpr ⟨yCrV_ck16, List.forall_mem_cons.mpr ⟨yCrV_ck17, fun _ h => absurd h List.not_mem_nil⟩⟩⟩⟩⟩⟩⟩⟩⟩⟩⟩⟩⟩⟩⟩⟩⟩⟩
theorem yCT_ix : ((List.range 18).all fun a => (List.range 16).all fun b => (y_cget yCTab (16 * a + b)).all (fun K => K.1 == 16 * a + b)) = true := by decide +kernel
theorem yCT_fl : (yCTab.all fun row => row.all fun Ks => Ks.all (fun K => !K.2.2.2.2.2.2.1 && K.2.2.2.1.all (fun o => !o.2.2))) = true := by decide +kernel
theorem y_cget_in {CT : List (List (List yCon))} {j : Nat} {K : yCon} (h : K ∈ y_cget CT j) : ∃ row ∈ CT, ∃ Ks ∈ row, K ∈ Ks ∧ j / 16 < CT.length := by
  unfold y_cget at h
  split at h
  next row hr =>
    split at h
    next Ks hk => exact ⟨row, List.mem_of_getElem? hr, Ks, List.mem_of_getElem? hk, h, (List.getElem?_eq_some_iff.mp hr).1⟩
    next => cases h
  next => cases h
theorem yCT_j {j : Nat} {K : yCon} (h : K ∈ y_cget yCTab j) : K.1 = j := by
  obtain ⟨row, _, Ks, _, _, hj⟩ := y_cget_in h
  have hl : yCTab.length = 18 := rfl
  have h1 := List.all_eq_true.mp yCT_ix (j / 16) (List.mem_range.mpr (by omega))
  have h2 := List.all_eq_true.mp h1 (j % 16) (List.mem_range.mpr (by omega))
  rw [show 16 * (j / 16) + j % 16 = j by omega] at h2
  simpa using List.all_eq_true.mp h2 K h
section YALL
variable {EX : (Nat → Prop) → State → Heap → Prop} {l : Launch} {kc : Nat → ClassId} {D : va_G} {xb : Nat} {ad : Nat → Option Nat}
theorem y_consT (hE : z_EX EX) : ∀ (n j : Nat) (K : yCon), K ∈ y_cget yCTab j → K.2.2.2.2.2.1 < n → y_ConOk EX l zTB zNT kc D vwCl xb yTY yGR (fun _ => True) ad yP0 K := by
  intro n
  induction n with
  | zero => intro j K _ h; exact absurd h (Nat.not_lt_zero _)
  | succ n ih =>
    intro j K hK hd
    obtain ⟨row, hr, Ks, hk, hin, _⟩ := y_cget_in hK
    obtain ⟨HD, fu, h1, h2⟩ := yCT_ck row hr Ks hk K hin
    exact y_chk_ok (RC := yRC) hE (fun _ _ _ h => h) y_prog (fun j' K' hK' => ⟨yCT_j hK', fun hlt => ih j' K' hK' (by omega)⟩) h1 h2
/-- all contracts, whatever binds cells -/
theorem y_cons (hE : z_EX EX) {RI : va_W → Prop} {j : Nat} {K : yCon} (hK : K ∈ y_cget yCTab j) : y_ConOk EX l zTB zNT kc D vwCl xb yTY yGR RI ad yP0 K := by
  have hT := y_consT (l := l) (kc := kc) (D := D) (xb := xb) (ad := ad) hE (K.2.2.2.2.2.1 + 1) j K hK (Nat.lt_succ_self _)
  obtain ⟨row, hr, Ks, hk, hin, _⟩ := y_cget_in hK
  have hf := List.all_eq_true.mp (List.all_eq_true.mp (List.all_eq_true.mp yCT_fl row hr) Ks hk) K hin
  rw [Bool.and_eq_true] at hf
  intro y cc maxL ret tab na sp hP d hd av ws sz env0 hav hpre hri hGo hwt had hnam
  refine y_Met_conv (hT y cc maxL ret tab na sp hP d hd av ws sz env0 hav hpre (fun _ => trivial) hGo hwt had hnam) (fun rv u ⟨o, ho, g1, g2, g3, g4⟩ => ⟨o, ho, g1, g2, fun q => ?_, g4⟩)
  have h9 := List.all_eq_true.mp hf.2 o ho
  rw [q] at h9
  cases h9
end YALL

theorem yCT_ixV : ((List.range 18).all fun a => (List.range 16).all fun b => (y_cget yCTabV (16 * a + b)).all (fun K => K.1 == 16 * a + b)) = true := by decide +kernel
theorem yCT_flV : (yCTabV.all fun row => row.all fun Ks => Ks.all (fun K => !K.2.2.2.2.2.2.1 && K.2.2.2.1.all (fun o => !o.2.2))) = true := by decide +kernel
theorem yCT_jV {j : Nat} {K : yCon} (h : K ∈ y_cget yCTabV j) : K.1 = j := by
  obtain ⟨row, _, Ks, _, _, hj⟩ := y_cget_in h
  have hl : yCTabV.length = 18 := rfl
  have h1 := List.all_eq_true.mp yCT_ixV (j / 16) (List.mem_range.mpr (by omega))
  have h2 := List.all_eq_true.mp h1 (j % 16) (List.mem_range.mpr (by omega))
  rw [show 16 * (j / 16) + j % 16 = j by omega] at h2
  simpa using List.all_eq_true.mp h2 K h
section YALL
variable {EX : (Nat → Prop) → State → Heap → Prop} {l : Launch} {kc : Nat → ClassId} {D : va_G} {xb : Nat} {ad : Nat → Option Nat}
theorem y_consTV (hE : z_EX EX) : ∀ (n j : Nat) (K : yCon), K ∈ y_cget yCTabV j → K.2.2.2.2.2.1 < n → y_ConOk EX l zTB zNT kc D vwCl xb yTYV yGR (fun _ => True) ad yP0 K := by
  intro n
  induction n with
  | zero => intro j K _ h; exact absurd h (Nat.not_lt_zero _)
  | succ n ih =>
    intro j K hK hd
    obtain ⟨row, hr, Ks, hk, hin, _⟩ := y_cget_in hK
    obtain ⟨HD, fu, h1, h2⟩ := yCT_ckV row hr Ks hk K hin
    exact y_chk_ok (RC := yRC) hE (fun _ _ _ h => h) y_prog (fun j' K' hK' => ⟨yCT_jV hK', fun hlt => ih j' K' hK' (by omega)⟩) h1 h2
/-- all contracts, whatever binds cells -/
theorem y_consV (hE : z_EX EX) {RI : va_W → Prop} {j : Nat} {K : yCon} (hK : K ∈ y_cget yCTabV j) : y_ConOk EX l zTB zNT kc D vwCl xb yTYV yGR RI ad yP0 K := by
  have hT := y_consTV (l := l) (kc := kc) (D := D) (xb := xb) (ad := ad) hE (K.2.2.2.2.2.1 + 1) j K hK (Nat.lt_succ_self _)
  obtain ⟨row, hr, Ks, hk, hin, _⟩ := y_cget_in hK
  have hf := List.all_eq_true.mp (List.all_eq_true.mp (List.all_eq_true.mp yCT_flV row hr) Ks hk) K hin
  rw [Bool.and_eq_true] at hf
  intro y cc maxL ret tab na sp hP d hd av ws sz env0 hav hpre hri hGo hwt had hnam
  refine y_Met_conv (hT y cc maxL ret tab na sp hP d hd av ws sz env0 hav hpre (fun _ => trivial) hGo hwt had hnam) (fun rv u ⟨o, ho, g1, g2, g3, g4⟩ => ⟨o, ho, g1, g2, fun q => ?_, g4⟩)
  have h9 := List.all_eq_true.mp hf.2 o ho
  rw [q] at h9
  cases h9
end YALL
