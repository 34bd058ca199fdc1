/-! what the kernel checks of the tables, once -/
def zln : Instr → Option Nat
  | .tableswitch _ _ _ _ => none
  | .lookupswitch _ _ => none
  | .iload _ => some 2
  | .lload _ => some 2
  | .aload _ => some 2
  | .istore _ => some 2
  | .astore _ => some 2
  | .bipush _ => some 2
  | .ldc _ => some 2
  | .newarray _ => some 2
  | .sipush _ => some 3
  | .ldc_w _ => some 3
  | .ldc2_w _ => some 3
  | .iinc _ _ => some 3
  | .goto _ => some 3
  | .ifCond _ _ => some 3
  | .if_icmp _ _ => some 3
  | .ifnull _ => some 3
  | .ifnonnull _ => some 3
  | .getfield _ => some 3
  | .putfield _ => some 3
  | .getstatic _ => some 3
  | .invokevirtual _ => some 3
  | .invokestatic _ => some 3
  | .invokespecial _ => some 3
  | .new _ => some 3
  | .anewarray _ => some 3
  | _ => some 1
def zdk (b : ByteArray) (e : Nat × Instr) : Bool := match decode b e.1 with
  | .ok (i, n) => decide (i = e.2) && (match zln i with
    | none => true
    | some n' => n == n')
  | .error _ => false
theorem zall_join {α : Type} (p : α → Bool) (l : List α) (a n : Nat) (h1 : ((l.drop a).take n).all p = true) (h2 : (l.drop (a + n)).all p = true) : (l.drop a).all p = true := by
  rw [← List.take_append_drop n (l.drop a), List.all_append, h1, Bool.true_and, List.drop_drop]
  exact h2
theorem zd_0_0 : ((zt_0.drop 0).take 60).all (zdk code) = true := by decide +kernel
theorem zd_0_60 : ((zt_0.drop 60).take 60).all (zdk code) = true := by decide +kernel
theorem zd_0_120 : ((zt_0.drop 120).take 60).all (zdk code) = true := by decide +kernel
theorem zd_0_180 : ((zt_0.drop 180).take 60).all (zdk code) = true := by decide +kernel
theorem zd_0_240 : ((zt_0.drop 240).take 60).all (zdk code) = true := by decide +kernel
theorem zd_0_300 : ((zt_0.drop 300).take 60).all (zdk code) = true := by decide +kernel
theorem zd_0_360 : ((zt_0.drop 360).take 60).all (zdk code) = true := by decide +kernel
theorem zd_0_420 : ((zt_0.drop 420).take 60).all (zdk code) = true := by decide +kernel
theorem zd_0_480 : ((zt_0.drop 480).take 60).all (zdk code) = true := by decide +kernel
theorem zd_0_540 : ((zt_0.drop 540).take 60).all (zdk code) = true := by decide +kernel
theorem zd_0_600 : ((zt_0.drop 600).take 60).all (zdk code) = true := by decide +kernel
theorem zd_0_660 : ((zt_0.drop 660).take 60).all (zdk code) = true := by decide +kernel
theorem zd_0_720 : ((zt_0.drop 720).take 60).all (zdk code) = true := by decide +kernel
theorem zd_0_780 : ((zt_0.drop 780).take 60).all (zdk code) = true := by decide +kernel
theorem zd_0_840 : ((zt_0.drop 840).take 60).all (zdk code) = true := by decide +kernel
theorem zd_0_900 : (zt_0.drop 900).all (zdk code) = true := by decide +kernel
theorem zd_0 : zt_0.all (zdk code) = true := zall_join _ _ 0 60 zd_0_0 (zall_join _ _ 60 60 zd_0_60 (zall_join _ _ 120 60 zd_0_120 (zall_join _ _ 180 60 zd_0_180 (zall_join _ _ 240 60 zd_0_240 (zall_join _ _ 300 60 zd_0_300 (zall_join _ _ 360 60 zd_0_360 (zall_join _ _ 420 60 zd_0_420 (zall_join _ _ 480 60 zd_0_480 (zall_join _ _ 540 60 zd_0_540 (zall_join _ _ 600 60 zd_0_600 (zall_join _ _ 660 60 zd_0_660 (zall_join _ _ 720 60 zd_0_720 (zall_join _ _ 780 60 zd_0_780 (zall_join _ _ 840 60 zd_0_840 (zd_0_900)))))))))))))))
theorem zd_1_0 : ((zt_1.drop 0).take 60).all (zdk prog_1_method_1_code) = true := by decide +kernel
theorem zd_1_60 : (zt_1.drop 60).all (zdk prog_1_method_1_code) = true := by decide +kernel
theorem zd_1 : zt_1.all (zdk prog_1_method_1_code) = true := zall_join _ _ 0 60 zd_1_0 (zd_1_60)
theorem zd_2 : zt_2.all (zdk prog_9_method_1_code) = true := by decide +kernel
theorem zd_3 : zt_3.all (zdk prog_12_method_1_code) = true := by decide +kernel
theorem zd_4 : zt_4.all (zdk prog_3_method_1_code) = true := by decide +kernel
theorem zd_5 : zt_5.all (zdk prog_8_method_1_code) = true := by decide +kernel
theorem zd_6 : zt_6.all (zdk prog_5_method_1_code) = true := by decide +kernel
theorem zd_7 : zt_7.all (zdk prog_6_method_1_code) = true := by decide +kernel
theorem zd_8 : zt_8.all (zdk prog_4_method_1_code) = true := by decide +kernel
theorem zd_9 : zt_9.all (zdk prog_11_method_1_code) = true := by decide +kernel
theorem zd_10 : zt_10.all (zdk prog_7_method_1_code) = true := by decide +kernel
theorem zd_11 : zt_11.all (zdk prog_2_method_1_code) = true := by decide +kernel
theorem zd_12 : zt_12.all (zdk prog_10_method_1_code) = true := by decide +kernel
theorem zd_13 : zt_13.all (zdk prog_1_method_2_code) = true := by decide +kernel
theorem zd_14 : zt_14.all (zdk prog_1_method_44_code) = true := by decide +kernel
theorem zd_15 : zt_15.all (zdk prog_12_method_3_code) = true := by decide +kernel
theorem zd_16 : zt_16.all (zdk prog_3_method_3_code) = true := by decide +kernel
theorem zd_17 : zt_17.all (zdk prog_22_method_103_code) = true := by decide +kernel
theorem zd_18 : zt_18.all (zdk prog_1_method_3_code) = true := by decide +kernel
theorem zd_19 : zt_19.all (zdk prog_12_method_2_code) = true := by decide +kernel
theorem zd_20 : zt_20.all (zdk prog_1_method_49_code) = true := by decide +kernel
theorem zd_21_0 : ((zt_21.drop 0).take 60).all (zdk prog_5_method_6_code) = true := by decide +kernel
theorem zd_21_60 : (zt_21.drop 60).all (zdk prog_5_method_6_code) = true := by decide +kernel
theorem zd_21 : zt_21.all (zdk prog_5_method_6_code) = true := zall_join _ _ 0 60 zd_21_0 (zd_21_60)
theorem zd_22 : zt_22.all (zdk prog_5_method_7_code) = true := by decide +kernel
theorem zd_23 : zt_23.all (zdk prog_5_method_8_code) = true := by decide +kernel
theorem zd_24 : zt_24.all (zdk prog_17_method_65_code) = true := by decide +kernel
theorem zd_25 : zt_25.all (zdk prog_1_method_46_code) = true := by decide +kernel
theorem zd_26 : zt_26.all (zdk prog_1_method_47_code) = true := by decide +kernel
theorem zd_27 : zt_27.all (zdk prog_1_method_4_code) = true := by decide +kernel
theorem zd_28 : zt_28.all (zdk prog_11_method_2_code) = true := by decide +kernel
theorem zd_29 : zt_29.all (zdk prog_4_method_3_code) = true := by decide +kernel
theorem zd_30 : zt_30.all (zdk prog_17_method_50_code) = true := by decide +kernel
theorem zd_31 : zt_31.all (zdk prog_5_method_3_code) = true := by decide +kernel
theorem zd_32 : zt_32.all (zdk prog_5_method_4_code) = true := by decide +kernel
theorem zd_33 : zt_33.all (zdk prog_11_method_3_code) = true := by decide +kernel
theorem zd_34 : zt_34.all (zdk prog_11_method_4_code) = true := by decide +kernel
theorem zd_35_0 : ((zt_35.drop 0).take 60).all (zdk prog_11_method_10_code) = true := by decide +kernel
theorem zd_35_60 : (zt_35.drop 60).all (zdk prog_11_method_10_code) = true := by decide +kernel
theorem zd_35 : zt_35.all (zdk prog_11_method_10_code) = true := zall_join _ _ 0 60 zd_35_0 (zd_35_60)
theorem zd_36 : zt_36.all (zdk prog_11_method_13_code) = true := by decide +kernel
theorem zd_37 : zt_37.all (zdk prog_17_method_69_code) = true := by decide +kernel
theorem zd_38 : zt_38.all (zdk prog_4_method_6_code) = true := by decide +kernel
theorem zd_39 : zt_39.all (zdk prog_4_method_5_code) = true := by decide +kernel
theorem zd_40 : zt_40.all (zdk prog_11_method_11_code) = true := by decide +kernel
theorem zd_41 : zt_41.all (zdk prog_4_method_4_code) = true := by decide +kernel
theorem zd_42 : zt_42.all (zdk prog_11_method_6_code) = true := by decide +kernel
theorem zd_43 : zt_43.all (zdk prog_11_method_7_code) = true := by decide +kernel
theorem zd_44 : zt_44.all (zdk prog_11_method_12_code) = true := by decide +kernel
theorem zd_45 : zt_45.all (zdk prog_11_method_5_code) = true := by decide +kernel
theorem zd_46 : zt_46.all (zdk prog_11_method_8_code) = true := by decide +kernel
theorem zd_47 : zt_47.all (zdk prog_11_method_9_code) = true := by decide +kernel
theorem zd_48 : zt_48.all (zdk prog_1_method_5_code) = true := by decide +kernel
theorem zd_49 : zt_49.all (zdk prog_1_method_6_code) = true := by decide +kernel
theorem zd_50_0 : ((zt_50.drop 0).take 60).all (zdk prog_1_method_7_code) = true := by decide +kernel
theorem zd_50_60 : (zt_50.drop 60).all (zdk prog_1_method_7_code) = true := by decide +kernel
theorem zd_50 : zt_50.all (zdk prog_1_method_7_code) = true := zall_join _ _ 0 60 zd_50_0 (zd_50_60)
theorem zd_51 : zt_51.all (zdk prog_1_method_50_code) = true := by decide +kernel
theorem zd_52 : zt_52.all (zdk prog_4_method_2_code) = true := by decide +kernel
theorem zd_53 : zt_53.all (zdk prog_3_method_4_code) = true := by decide +kernel
theorem zd_54 : zt_54.all (zdk prog_1_method_8_code) = true := by decide +kernel
theorem zd_55 : zt_55.all (zdk prog_1_method_45_code) = true := by decide +kernel
theorem zd_56 : zt_56.all (zdk prog_1_method_9_code) = true := by decide +kernel
theorem zd_57 : zt_57.all (zdk prog_3_method_2_code) = true := by decide +kernel
theorem zd_58 : zt_58.all (zdk prog_1_method_51_code) = true := by decide +kernel
theorem zd_59 : zt_59.all (zdk prog_1_method_10_code) = true := by decide +kernel
theorem zd_60 : zt_60.all (zdk prog_1_method_11_code) = true := by decide +kernel
theorem zd_61 : zt_61.all (zdk prog_6_method_2_code) = true := by decide +kernel
theorem zd_62 : zt_62.all (zdk prog_5_method_2_code) = true := by decide +kernel
theorem zd_63_0 : ((zt_63.drop 0).take 60).all (zdk prog_6_method_5_code) = true := by decide +kernel
theorem zd_63_60 : (zt_63.drop 60).all (zdk prog_6_method_5_code) = true := by decide +kernel
theorem zd_63 : zt_63.all (zdk prog_6_method_5_code) = true := zall_join _ _ 0 60 zd_63_0 (zd_63_60)
theorem zd_64 : zt_64.all (zdk prog_6_method_7_code) = true := by decide +kernel
theorem zd_65 : zt_65.all (zdk prog_6_method_6_code) = true := by decide +kernel
theorem zd_66 : zt_66.all (zdk prog_6_method_8_code) = true := by decide +kernel
theorem zd_67 : zt_67.all (zdk prog_18_method_54_code) = true := by decide +kernel
theorem zd_68 : zt_68.all (zdk prog_18_method_152_code) = true := by decide +kernel
theorem zd_69 : zt_69.all (zdk prog_18_method_56_code) = true := by decide +kernel
theorem zd_70 : zt_70.all (zdk prog_18_method_154_code) = true := by decide +kernel
theorem zd_71 : zt_71.all (zdk prog_19_method_2_code) = true := by decide +kernel
theorem zd_72 : zt_72.all (zdk prog_18_method_155_code) = true := by decide +kernel
theorem zd_73 : zt_73.all (zdk prog_23_method_11_code) = true := by decide +kernel
theorem zd_74 : zt_74.all (zdk prog_6_method_4_code) = true := by decide +kernel
theorem zd_75 : zt_75.all (zdk prog_6_method_3_code) = true := by decide +kernel
theorem zd_76 : zt_76.all (zdk prog_6_method_9_code) = true := by decide +kernel
theorem zd_77 : zt_77.all (zdk prog_6_method_10_code) = true := by decide +kernel
theorem zd_78 : zt_78.all (zdk prog_6_method_11_code) = true := by decide +kernel
theorem zd_79 : zt_79.all (zdk prog_6_method_12_code) = true := by decide +kernel
theorem zd_80 : zt_80.all (zdk prog_6_method_13_code) = true := by decide +kernel
theorem zd_81 : zt_81.all (zdk prog_6_method_14_code) = true := by decide +kernel
theorem zd_82 : zt_82.all (zdk prog_18_method_79_code) = true := by decide +kernel
theorem zd_83 : zt_83.all (zdk prog_18_method_80_code) = true := by decide +kernel
theorem zd_84 : zt_84.all (zdk prog_19_method_22_code) = true := by decide +kernel
theorem zd_85 : zt_85.all (zdk prog_19_method_4_code) = true := by decide +kernel
theorem zd_86 : zt_86.all (zdk prog_19_method_23_code) = true := by decide +kernel
theorem zd_87 : zt_87.all (zdk prog_5_method_5_code) = true := by decide +kernel
theorem zd_88 : zt_88.all (zdk prog_1_method_12_code) = true := by decide +kernel
theorem zd_89 : zt_89.all (zdk prog_1_method_53_code) = true := by decide +kernel
theorem zd_90 : zt_90.all (zdk prog_1_method_52_code) = true := by decide +kernel
theorem zd_91 : zt_91.all (zdk prog_1_method_13_code) = true := by decide +kernel
theorem zd_92 : zt_92.all (zdk prog_12_method_5_code) = true := by decide +kernel
theorem zd_93 : zt_93.all (zdk prog_1_method_14_code) = true := by decide +kernel
theorem zd_94 : zt_94.all (zdk prog_1_method_54_code) = true := by decide +kernel
theorem zd_95 : zt_95.all (zdk prog_12_method_6_code) = true := by decide +kernel
theorem zd_96 : zt_96.all (zdk prog_1_method_15_code) = true := by decide +kernel
theorem zd_97 : zt_97.all (zdk prog_1_method_16_code) = true := by decide +kernel
theorem zd_98_0 : ((zt_98.drop 0).take 60).all (zdk prog_1_method_17_code) = true := by decide +kernel
theorem zd_98_60 : (zt_98.drop 60).all (zdk prog_1_method_17_code) = true := by decide +kernel
theorem zd_98 : zt_98.all (zdk prog_1_method_17_code) = true := zall_join _ _ 0 60 zd_98_0 (zd_98_60)
theorem zd_99 : zt_99.all (zdk prog_16_method_49_code) = true := by decide +kernel
theorem zd_100_0 : ((zt_100.drop 0).take 60).all (zdk prog_7_method_2_code) = true := by decide +kernel
theorem zd_100_60 : (zt_100.drop 60).all (zdk prog_7_method_2_code) = true := by decide +kernel
theorem zd_100 : zt_100.all (zdk prog_7_method_2_code) = true := zall_join _ _ 0 60 zd_100_0 (zd_100_60)
theorem zd_101 : zt_101.all (zdk prog_7_method_3_code) = true := by decide +kernel
theorem zd_102 : zt_102.all (zdk prog_7_method_5_code) = true := by decide +kernel
theorem zd_103 : zt_103.all (zdk prog_7_method_4_code) = true := by decide +kernel
theorem zd_104 : zt_104.all (zdk prog_1_method_18_code) = true := by decide +kernel
theorem zd_105 : zt_105.all (zdk prog_1_method_19_code) = true := by decide +kernel
theorem zd_106 : zt_106.all (zdk prog_1_method_20_code) = true := by decide +kernel
theorem zd_107 : zt_107.all (zdk prog_1_method_21_code) = true := by decide +kernel
theorem zd_108 : zt_108.all (zdk prog_8_method_2_code) = true := by decide +kernel
theorem zd_109 : zt_109.all (zdk prog_1_method_22_code) = true := by decide +kernel
theorem zd_110 : zt_110.all (zdk prog_1_method_24_code) = true := by decide +kernel
theorem zd_111 : zt_111.all (zdk prog_1_method_25_code) = true := by decide +kernel
theorem zd_112 : zt_112.all (zdk prog_1_method_23_code) = true := by decide +kernel
theorem zd_113 : zt_113.all (zdk prog_1_method_26_code) = true := by decide +kernel
theorem zd_114 : zt_114.all (zdk prog_1_method_48_code) = true := by decide +kernel
theorem zd_115 : zt_115.all (zdk prog_1_method_27_code) = true := by decide +kernel
theorem zd_116 : zt_116.all (zdk prog_1_method_28_code) = true := by decide +kernel
theorem zd_117 : zt_117.all (zdk prog_1_method_29_code) = true := by decide +kernel
theorem zd_118 : zt_118.all (zdk prog_1_method_30_code) = true := by decide +kernel
theorem zd_119 : zt_119.all (zdk prog_12_method_4_code) = true := by decide +kernel
theorem zd_120 : zt_120.all (zdk prog_1_method_31_code) = true := by decide +kernel
theorem zd_121 : zt_121.all (zdk prog_1_method_32_code) = true := by decide +kernel
theorem zd_122_0 : ((zt_122.drop 0).take 60).all (zdk prog_1_method_33_code) = true := by decide +kernel
theorem zd_122_60 : (zt_122.drop 60).all (zdk prog_1_method_33_code) = true := by decide +kernel
theorem zd_122 : zt_122.all (zdk prog_1_method_33_code) = true := zall_join _ _ 0 60 zd_122_0 (zd_122_60)
theorem zd_123 : zt_123.all (zdk prog_10_method_2_code) = true := by decide +kernel
theorem zd_124 : zt_124.all (zdk prog_1_method_34_code) = true := by decide +kernel
theorem zd_125 : zt_125.all (zdk prog_9_method_2_code) = true := by decide +kernel
theorem zd_126 : zt_126.all (zdk prog_8_method_3_code) = true := by decide +kernel
theorem zd_127 : zt_127.all (zdk prog_1_method_35_code) = true := by decide +kernel
theorem zd_128 : zt_128.all (zdk prog_1_method_36_code) = true := by decide +kernel
theorem zd_129 : zt_129.all (zdk prog_2_method_2_code) = true := by decide +kernel
theorem zd_130 : zt_130.all (zdk prog_2_method_4_code) = true := by decide +kernel
theorem zd_131 : zt_131.all (zdk prog_2_method_3_code) = true := by decide +kernel
theorem zd_132 : zt_132.all (zdk prog_2_method_5_code) = true := by decide +kernel
theorem zd_133 : zt_133.all (zdk prog_2_method_6_code) = true := by decide +kernel
theorem zd_134 : zt_134.all (zdk prog_1_method_37_code) = true := by decide +kernel
theorem zd_135 : zt_135.all (zdk prog_1_method_38_code) = true := by decide +kernel
theorem zd_136 : zt_136.all (zdk prog_1_method_39_code) = true := by decide +kernel
theorem zd_137 : zt_137.all (zdk prog_1_method_40_code) = true := by decide +kernel
theorem zd_138 : zt_138.all (zdk prog_10_method_3_code) = true := by decide +kernel
theorem zd_139 : zt_139.all (zdk prog_10_method_4_code) = true := by decide +kernel
theorem zd_140 : zt_140.all (zdk prog_22_method_101_code) = true := by decide +kernel
theorem zd_141 : zt_141.all (zdk prog_1_method_41_code) = true := by decide +kernel
theorem zd_142 : zt_142.all (zdk prog_10_method_5_code) = true := by decide +kernel
theorem zd_143 : zt_143.all (zdk prog_1_method_42_code) = true := by decide +kernel
theorem zd_144_0 : ((zt_144.drop 0).take 60).all (zdk prog_1_method_43_code) = true := by decide +kernel
theorem zd_144_60 : (zt_144.drop 60).all (zdk prog_1_method_43_code) = true := by decide +kernel
theorem zd_144 : zt_144.all (zdk prog_1_method_43_code) = true := zall_join _ _ 0 60 zd_144_0 (zd_144_60)
theorem zd_145_0 : ((zt_145.drop 0).take 60).all (zdk prog_14_method_1_code) = true := by decide +kernel
theorem zd_145_60 : ((zt_145.drop 60).take 60).all (zdk prog_14_method_1_code) = true := by decide +kernel
theorem zd_145_120 : ((zt_145.drop 120).take 60).all (zdk prog_14_method_1_code) = true := by decide +kernel
theorem zd_145_180 : ((zt_145.drop 180).take 60).all (zdk prog_14_method_1_code) = true := by decide +kernel
theorem zd_145_240 : ((zt_145.drop 240).take 60).all (zdk prog_14_method_1_code) = true := by decide +kernel
theorem zd_145_300 : ((zt_145.drop 300).take 60).all (zdk prog_14_method_1_code) = true := by decide +kernel
theorem zd_145_360 : (zt_145.drop 360).all (zdk prog_14_method_1_code) = true := by decide +kernel
theorem zd_145 : zt_145.all (zdk prog_14_method_1_code) = true := zall_join _ _ 0 60 zd_145_0 (zall_join _ _ 60 60 zd_145_60 (zall_join _ _ 120 60 zd_145_120 (zall_join _ _ 180 60 zd_145_180 (zall_join _ _ 240 60 zd_145_240 (zall_join _ _ 300 60 zd_145_300 (zd_145_360))))))
theorem zd_146_0 : ((zt_146.drop 0).take 60).all (zdk prog_14_method_8_code) = true := by decide +kernel
theorem zd_146_60 : (zt_146.drop 60).all (zdk prog_14_method_8_code) = true := by decide +kernel
theorem zd_146 : zt_146.all (zdk prog_14_method_8_code) = true := zall_join _ _ 0 60 zd_146_0 (zd_146_60)
theorem zd_147 : zt_147.all (zdk prog_14_method_2_code) = true := by decide +kernel
theorem zd_148 : zt_148.all (zdk prog_14_method_9_code) = true := by decide +kernel
theorem zd_149 : zt_149.all (zdk prog_14_method_6_code) = true := by decide +kernel
theorem zd_150 : zt_150.all (zdk prog_14_method_10_code) = true := by decide +kernel
theorem zd_151 : zt_151.all (zdk prog_14_method_11_code) = true := by decide +kernel
theorem zd_152 : zt_152.all (zdk prog_14_method_26_code) = true := by decide +kernel
theorem zd_153 : zt_153.all (zdk prog_14_method_25_code) = true := by decide +kernel
theorem zd_154 : zt_154.all (zdk prog_14_method_24_code) = true := by decide +kernel
theorem zd_155_0 : ((zt_155.drop 0).take 60).all (zdk prog_14_method_23_code) = true := by decide +kernel
theorem zd_155_60 : (zt_155.drop 60).all (zdk prog_14_method_23_code) = true := by decide +kernel
theorem zd_155 : zt_155.all (zdk prog_14_method_23_code) = true := zall_join _ _ 0 60 zd_155_0 (zd_155_60)
theorem zd_156 : zt_156.all (zdk prog_14_method_12_code) = true := by decide +kernel
theorem zd_157 : zt_157.all (zdk prog_14_method_14_code) = true := by decide +kernel
theorem zd_158 : zt_158.all (zdk prog_14_method_13_code) = true := by decide +kernel
theorem zd_159 : zt_159.all (zdk prog_14_method_16_code) = true := by decide +kernel
theorem zd_160 : zt_160.all (zdk prog_14_method_15_code) = true := by decide +kernel
theorem zd_161_0 : ((zt_161.drop 0).take 60).all (zdk prog_14_method_22_code) = true := by decide +kernel
theorem zd_161_60 : ((zt_161.drop 60).take 60).all (zdk prog_14_method_22_code) = true := by decide +kernel
theorem zd_161_120 : (zt_161.drop 120).all (zdk prog_14_method_22_code) = true := by decide +kernel
theorem zd_161 : zt_161.all (zdk prog_14_method_22_code) = true := zall_join _ _ 0 60 zd_161_0 (zall_join _ _ 60 60 zd_161_60 (zd_161_120))
theorem zd_162 : zt_162.all (zdk prog_14_method_21_code) = true := by decide +kernel
theorem zd_163 : zt_163.all (zdk prog_14_method_20_code) = true := by decide +kernel
theorem zd_164 : zt_164.all (zdk prog_14_method_17_code) = true := by decide +kernel
theorem zd_165 : zt_165.all (zdk prog_14_method_18_code) = true := by decide +kernel
theorem zd_166 : zt_166.all (zdk prog_14_method_19_code) = true := by decide +kernel
theorem zd_167_0 : ((zt_167.drop 0).take 60).all (zdk prog_14_method_45_code) = true := by decide +kernel
theorem zd_167_60 : (zt_167.drop 60).all (zdk prog_14_method_45_code) = true := by decide +kernel
theorem zd_167 : zt_167.all (zdk prog_14_method_45_code) = true := zall_join _ _ 0 60 zd_167_0 (zd_167_60)
theorem zd_168 : zt_168.all (zdk prog_14_method_34_code) = true := by decide +kernel
theorem zd_169 : zt_169.all (zdk prog_14_method_27_code) = true := by decide +kernel
theorem zd_170 : zt_170.all (zdk prog_14_method_28_code) = true := by decide +kernel
theorem zd_171_0 : ((zt_171.drop 0).take 60).all (zdk prog_14_method_33_code) = true := by decide +kernel
theorem zd_171_60 : ((zt_171.drop 60).take 60).all (zdk prog_14_method_33_code) = true := by decide +kernel
theorem zd_171_120 : (zt_171.drop 120).all (zdk prog_14_method_33_code) = true := by decide +kernel
theorem zd_171 : zt_171.all (zdk prog_14_method_33_code) = true := zall_join _ _ 0 60 zd_171_0 (zall_join _ _ 60 60 zd_171_60 (zd_171_120))
theorem zd_172 : zt_172.all (zdk prog_14_method_32_code) = true := by decide +kernel
theorem zd_173 : zt_173.all (zdk prog_14_method_4_code) = true := by decide +kernel
theorem zd_174 : zt_174.all (zdk prog_14_method_35_code) = true := by decide +kernel
theorem zd_175 : zt_175.all (zdk prog_14_method_38_code) = true := by decide +kernel
theorem zd_176 : zt_176.all (zdk prog_14_method_29_code) = true := by decide +kernel
theorem zd_177 : zt_177.all (zdk prog_14_method_39_code) = true := by decide +kernel
theorem zd_178 : zt_178.all (zdk prog_14_method_30_code) = true := by decide +kernel
theorem zd_179 : zt_179.all (zdk prog_14_method_5_code) = true := by decide +kernel
theorem zd_180 : zt_180.all (zdk prog_14_method_31_code) = true := by decide +kernel
theorem zd_181 : zt_181.all (zdk prog_14_method_44_code) = true := by decide +kernel
theorem zd_182_0 : ((zt_182.drop 0).take 60).all (zdk prog_14_method_41_code) = true := by decide +kernel
theorem zd_182_60 : ((zt_182.drop 60).take 60).all (zdk prog_14_method_41_code) = true := by decide +kernel
theorem zd_182_120 : (zt_182.drop 120).all (zdk prog_14_method_41_code) = true := by decide +kernel
theorem zd_182 : zt_182.all (zdk prog_14_method_41_code) = true := zall_join _ _ 0 60 zd_182_0 (zall_join _ _ 60 60 zd_182_60 (zd_182_120))
theorem zd_183_0 : ((zt_183.drop 0).take 60).all (zdk prog_14_method_37_code) = true := by decide +kernel
theorem zd_183_60 : (zt_183.drop 60).all (zdk prog_14_method_37_code) = true := by decide +kernel
theorem zd_183 : zt_183.all (zdk prog_14_method_37_code) = true := zall_join _ _ 0 60 zd_183_0 (zd_183_60)
theorem zd_184 : zt_184.all (zdk prog_14_method_36_code) = true := by decide +kernel
theorem zd_185_0 : ((zt_185.drop 0).take 60).all (zdk prog_14_method_40_code) = true := by decide +kernel
theorem zd_185_60 : (zt_185.drop 60).all (zdk prog_14_method_40_code) = true := by decide +kernel
theorem zd_185 : zt_185.all (zdk prog_14_method_40_code) = true := zall_join _ _ 0 60 zd_185_0 (zd_185_60)
theorem zd_186 : zt_186.all (zdk prog_14_method_43_code) = true := by decide +kernel
theorem zd_187 : zt_187.all (zdk prog_14_method_47_code) = true := by decide +kernel
theorem zd_188 : zt_188.all (zdk prog_14_method_46_code) = true := by decide +kernel
theorem zd_189 : zt_189.all (zdk prog_14_method_42_code) = true := by decide +kernel
theorem zd_190_0 : ((zt_190.drop 0).take 60).all (zdk prog_14_method_48_code) = true := by decide +kernel
theorem zd_190_60 : ((zt_190.drop 60).take 60).all (zdk prog_14_method_48_code) = true := by decide +kernel
theorem zd_190_120 : (zt_190.drop 120).all (zdk prog_14_method_48_code) = true := by decide +kernel
theorem zd_190 : zt_190.all (zdk prog_14_method_48_code) = true := zall_join _ _ 0 60 zd_190_0 (zall_join _ _ 60 60 zd_190_60 (zd_190_120))
theorem zd_191 : zt_191.all (zdk prog_14_method_49_code) = true := by decide +kernel
theorem zd_192 : zt_192.all (zdk prog_14_method_50_code) = true := by decide +kernel
theorem zd_193 : zt_193.all (zdk prog_14_method_53_code) = true := by decide +kernel
theorem zd_194 : zt_194.all (zdk prog_14_method_7_code) = true := by decide +kernel
theorem zd_195 : zt_195.all (zdk prog_14_method_52_code) = true := by decide +kernel
theorem zd_196 : zt_196.all (zdk prog_14_method_51_code) = true := by decide +kernel
theorem zd_197 : zt_197.all (zdk prog_14_method_56_code) = true := by decide +kernel
theorem zd_198 : zt_198.all (zdk prog_14_method_54_code) = true := by decide +kernel
theorem zd_199 : zt_199.all (zdk prog_14_method_55_code) = true := by decide +kernel
theorem zd_200 : zt_200.all (zdk prog_14_method_57_code) = true := by decide +kernel
theorem zd_201_0 : ((zt_201.drop 0).take 60).all (zdk prog_14_method_60_code) = true := by decide +kernel
theorem zd_201_60 : (zt_201.drop 60).all (zdk prog_14_method_60_code) = true := by decide +kernel
theorem zd_201 : zt_201.all (zdk prog_14_method_60_code) = true := zall_join _ _ 0 60 zd_201_0 (zd_201_60)
theorem zd_202 : zt_202.all (zdk prog_14_method_58_code) = true := by decide +kernel
theorem zd_203 : zt_203.all (zdk prog_14_method_59_code) = true := by decide +kernel
theorem zd_204 : zt_204.all (zdk prog_14_method_3_code) = true := by decide +kernel
theorem zd_205 : zt_205.all (zdk prog_14_method_61_code) = true := by decide +kernel
theorem zd_206 : zt_206.all (zdk prog_14_method_62_code) = true := by decide +kernel
theorem zd_207 : zt_207.all (zdk prog_14_method_63_code) = true := by decide +kernel
theorem zd_208 : zt_208.all (zdk prog_14_method_65_code) = true := by decide +kernel
theorem zd_209 : zt_209.all (zdk prog_14_method_64_code) = true := by decide +kernel
theorem zd_210 : zt_210.all (zdk prog_14_method_66_code) = true := by decide +kernel
theorem zd_211 : zt_211.all (zdk prog_14_method_69_code) = true := by decide +kernel
theorem zd_212 : zt_212.all (zdk prog_14_method_68_code) = true := by decide +kernel
theorem zd_213 : zt_213.all (zdk prog_14_method_67_code) = true := by decide +kernel
theorem zd_214 : zt_214.all (zdk prog_14_method_70_code) = true := by decide +kernel
theorem zd_215 : zt_215.all (zdk prog_14_method_71_code) = true := by decide +kernel
theorem zd_216_0 : ((zt_216.drop 0).take 60).all (zdk prog_14_method_72_code) = true := by decide +kernel
theorem zd_216_60 : (zt_216.drop 60).all (zdk prog_14_method_72_code) = true := by decide +kernel
theorem zd_216 : zt_216.all (zdk prog_14_method_72_code) = true := zall_join _ _ 0 60 zd_216_0 (zd_216_60)
theorem zd_217 : zt_217.all (zdk prog_14_method_73_code) = true := by decide +kernel
theorem zd_218 : zt_218.all (zdk prog_14_method_74_code) = true := by decide +kernel
theorem zd_219_0 : ((zt_219.drop 0).take 60).all (zdk prog_14_method_75_code) = true := by decide +kernel
theorem zd_219_60 : (zt_219.drop 60).all (zdk prog_14_method_75_code) = true := by decide +kernel
theorem zd_219 : zt_219.all (zdk prog_14_method_75_code) = true := zall_join _ _ 0 60 zd_219_0 (zd_219_60)
theorem zd_220 : zt_220.all (zdk prog_14_method_90_code) = true := by decide +kernel
theorem zd_221_0 : ((zt_221.drop 0).take 60).all (zdk prog_14_method_76_code) = true := by decide +kernel
theorem zd_221_60 : ((zt_221.drop 60).take 60).all (zdk prog_14_method_76_code) = true := by decide +kernel
theorem zd_221_120 : (zt_221.drop 120).all (zdk prog_14_method_76_code) = true := by decide +kernel
theorem zd_221 : zt_221.all (zdk prog_14_method_76_code) = true := zall_join _ _ 0 60 zd_221_0 (zall_join _ _ 60 60 zd_221_60 (zd_221_120))
theorem zd_222_0 : ((zt_222.drop 0).take 60).all (zdk prog_14_method_77_code) = true := by decide +kernel
theorem zd_222_60 : ((zt_222.drop 60).take 60).all (zdk prog_14_method_77_code) = true := by decide +kernel
theorem zd_222_120 : (zt_222.drop 120).all (zdk prog_14_method_77_code) = true := by decide +kernel
theorem zd_222 : zt_222.all (zdk prog_14_method_77_code) = true := zall_join _ _ 0 60 zd_222_0 (zall_join _ _ 60 60 zd_222_60 (zd_222_120))
theorem zd_223 : zt_223.all (zdk prog_14_method_86_code) = true := by decide +kernel
theorem zd_224 : zt_224.all (zdk prog_14_method_80_code) = true := by decide +kernel
theorem zd_225 : zt_225.all (zdk prog_14_method_78_code) = true := by decide +kernel
theorem zd_226 : zt_226.all (zdk prog_14_method_79_code) = true := by decide +kernel
theorem zd_227 : zt_227.all (zdk prog_14_method_83_code) = true := by decide +kernel
theorem zd_228 : zt_228.all (zdk prog_14_method_82_code) = true := by decide +kernel
theorem zd_229 : zt_229.all (zdk prog_14_method_81_code) = true := by decide +kernel
theorem zd_230 : zt_230.all (zdk prog_14_method_85_code) = true := by decide +kernel
theorem zd_231 : zt_231.all (zdk prog_14_method_84_code) = true := by decide +kernel
theorem zd_232 : zt_232.all (zdk prog_14_method_87_code) = true := by decide +kernel
theorem zd_233 : zt_233.all (zdk prog_14_method_88_code) = true := by decide +kernel
theorem zd_234 : zt_234.all (zdk prog_14_method_89_code) = true := by decide +kernel
theorem zd_235 : zt_235.all (zdk prog_14_method_91_code) = true := by decide +kernel
theorem zd_236 : zt_236.all (zdk prog_14_method_93_code) = true := by decide +kernel
theorem zd_237 : zt_237.all (zdk prog_14_method_92_code) = true := by decide +kernel
theorem zd_238 : zt_238.all (zdk prog_14_method_94_code) = true := by decide +kernel
theorem zd_239_0 : ((zt_239.drop 0).take 60).all (zdk prog_14_method_95_code) = true := by decide +kernel
theorem zd_239_60 : (zt_239.drop 60).all (zdk prog_14_method_95_code) = true := by decide +kernel
theorem zd_239 : zt_239.all (zdk prog_14_method_95_code) = true := zall_join _ _ 0 60 zd_239_0 (zd_239_60)
