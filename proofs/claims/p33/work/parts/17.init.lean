/-! THE CONSTRUCTORS, run once -/
theorem sx_tVr {P : sx_P} {s : sx_S} {r : Option sx_R} {s1 : hp_G → sx_S} {G1 : hp_G} {T : Option sx_R} (h : sx_one P s = bV r (fun g => some (.inr (s1 g)))) (hr : r = some (none, G1)) (k : sx_ev P (s1 G1) = T) : sx_ev P s = T := by
  rw [sx_fixc, h, hr]; exact k
def c_1 : hp_G := (hz g0.1 0 0, hz g0.2.1 0 0, hz g0.2.2.1 0 none, 1)
def c_2 : hp_G := (hz c_1.1 1 0, hz c_1.2.1 1 0, hz c_1.2.2.1 1 none, 2)
def c_3 : hp_G := (hz c_2.1 2 0, hz c_2.2.1 2 0, hz c_2.2.2.1 2 none, 3)
def c_4 : hp_G := (c_3.1, c_3.2.1, hw c_3.2.2.1 1 0 (some 2), 3)
def c_5 : hp_G := (hw c_4.1 1 1 0, c_4.2.1, c_4.2.2.1, 3)
def c_6 : hp_G := (hz c_5.1 3 0, hz c_5.2.1 3 0, hz c_5.2.2.1 3 none, 4)
def c_7 : hp_G := (hw c_6.1 3 0 0, c_6.2.1, c_6.2.2.1, 4)
def c_8 : hp_G := (hw c_7.1 3 1 2, c_7.2.1, c_7.2.2.1, 4)
def c_9 : hp_G := (hz c_8.1 4 0, hz c_8.2.1 4 0, hz c_8.2.2.1 4 none, 5)
def c_10 : hp_G := (c_9.1, c_9.2.1, hw c_9.2.2.1 3 2 (some 4), 5)
def c_11 : hp_G := (hz c_10.1 5 0, hz c_10.2.1 5 0, hz c_10.2.2.1 5 none, 6)
def c_12 : hp_G := (c_11.1, c_11.2.1, hw c_11.2.2.1 3 3 (some 5), 6)
def c_13 : hp_G := (hz c_12.1 6 0, hz c_12.2.1 6 0, hz c_12.2.2.1 6 none, 7)
def c_14 : hp_G := (c_13.1, c_13.2.1, hw c_13.2.2.1 3 4 (some 6), 7)
def c_15 : hp_G := (c_14.1, c_14.2.1, hw c_14.2.2.1 1 2 (some 3), 7)
def c_16 : hp_G := (hw c_15.1 1 3 0, c_15.2.1, c_15.2.2.1, 7)
def c_17 : hp_G := (hw c_16.1 1 4 0, c_16.2.1, c_16.2.2.1, 7)
def c_18 : hp_G := (hw c_17.1 1 5 0, c_17.2.1, c_17.2.2.1, 7)
def c_19 : hp_G := (hw c_18.1 1 6 0, c_18.2.1, c_18.2.2.1, 7)
def c_20 : hp_G := (hw c_19.1 1 7 0, c_19.2.1, c_19.2.2.1, 7)
def c_21 : hp_G := (hw c_20.1 1 8 0, c_20.2.1, c_20.2.2.1, 7)
def c_22 : hp_G := (c_21.1, c_21.2.1, hw c_21.2.2.1 0 0 (some 1), 7)
def c_23 : hp_G := (hz c_22.1 7 0, hz c_22.2.1 7 0, hz c_22.2.2.1 7 none, 8)
def c_24 : hp_G := (hw c_23.1 7 0 0, c_23.2.1, c_23.2.2.1, 8)
def c_25 : hp_G := (hw c_24.1 7 1 2, c_24.2.1, c_24.2.2.1, 8)
def c_26 : hp_G := (hz c_25.1 8 0, hz c_25.2.1 8 0, hz c_25.2.2.1 8 none, 9)
def c_27 : hp_G := (c_26.1, c_26.2.1, hw c_26.2.2.1 7 2 (some 8), 9)
def c_28 : hp_G := (hz c_27.1 9 0, hz c_27.2.1 9 0, hz c_27.2.2.1 9 none, 10)
def c_29 : hp_G := (c_28.1, c_28.2.1, hw c_28.2.2.1 7 3 (some 9), 10)
def c_30 : hp_G := (hz c_29.1 10 0, hz c_29.2.1 10 0, hz c_29.2.2.1 10 none, 11)
def c_31 : hp_G := (c_30.1, c_30.2.1, hw c_30.2.2.1 7 4 (some 10), 11)
def c_32 : hp_G := (c_31.1, c_31.2.1, hw c_31.2.2.1 0 1 (some 7), 11)
def c_33 : hp_G := (hz c_32.1 11 0, hz c_32.2.1 11 0, hz c_32.2.2.1 11 none, 12)
def c_34 : hp_G := (hw c_33.1 11 0 0, c_33.2.1, c_33.2.2.1, 12)
def c_35 : hp_G := (hw c_34.1 11 1 0, c_34.2.1, c_34.2.2.1, 12)
def c_36 : hp_G := (hw c_35.1 11 2 0, c_35.2.1, c_35.2.2.1, 12)
def c_37 : hp_G := (hz c_36.1 12 0, hz c_36.2.1 12 0, hz c_36.2.2.1 12 none, 13)
def c_38 : hp_G := (c_37.1, c_37.2.1, hw c_37.2.2.1 11 3 (some 12), 13)
def c_39 : hp_G := (hz c_38.1 13 0, hz c_38.2.1 13 0, hz c_38.2.2.1 13 none, 14)
def c_40 : hp_G := (c_39.1, c_39.2.1, hw c_39.2.2.1 11 4 (some 13), 14)
def c_41 : hp_G := (hz c_40.1 14 0, hz c_40.2.1 14 0, hz c_40.2.2.1 14 none, 15)
def c_42 : hp_G := (c_41.1, c_41.2.1, hw c_41.2.2.1 11 5 (some 14), 15)
def c_43 : hp_G := (hz c_42.1 15 0, hz c_42.2.1 15 0, hz c_42.2.2.1 15 none, 16)
def c_44 : hp_G := (c_43.1, c_43.2.1, hw c_43.2.2.1 11 6 (some 15), 16)
def c_45 : hp_G := (hw c_44.1 11 7 0, c_44.2.1, c_44.2.2.1, 16)
def c_46 : hp_G := (c_45.1, c_45.2.1, hw c_45.2.2.1 0 2 (some 11), 16)
def c_47 : hp_G := (hz c_46.1 16 0, hz c_46.2.1 16 0, hz c_46.2.2.1 16 none, 17)
def c_48 : hp_G := (c_47.1, c_47.2.1, hw c_47.2.2.1 0 3 (some 16), 17)
def c_49 : hp_G := (hw c_48.1 0 4 0, c_48.2.1, c_48.2.2.1, 17)
def c_50 : hp_G := (hz c_49.1 17 0, hz c_49.2.1 17 0, hz c_49.2.2.1 17 none, 18)
def c_51 : hp_G := (c_50.1, c_50.2.1, hw c_50.2.2.1 0 5 (some 17), 18)
def c_52 : hp_G := (hz c_51.1 18 0, hz c_51.2.1 18 0, hz c_51.2.2.1 18 none, 19)
def c_53 : hp_G := (c_52.1, c_52.2.1, hw c_52.2.2.1 0 6 (some 18), 19)
def c_54 : hp_G := (hz c_53.1 19 0, hz c_53.2.1 19 0, hz c_53.2.2.1 19 none, 20)
def c_55 : hp_G := (c_54.1, c_54.2.1, hw c_54.2.2.1 0 7 (some 19), 20)
def c_56 : hp_G := (hw c_55.1 0 8 0, c_55.2.1, c_55.2.2.1, 20)
def c_57 : hp_G := (hz c_56.1 20 0, hz c_56.2.1 20 0, hz c_56.2.2.1 20 none, 21)
def c_58 : hp_G := (hz c_57.1 21 0, hz c_57.2.1 21 0, hz c_57.2.2.1 21 none, 22)
def c_59 : hp_G := (c_58.1, c_58.2.1, hw c_58.2.2.1 20 0 (some 21), 22)
def c_60 : hp_G := (hz c_59.1 22 0, hz c_59.2.1 22 0, hz c_59.2.2.1 22 none, 23)
def c_61 : hp_G := (c_60.1, c_60.2.1, hw c_60.2.2.1 20 1 (some 22), 23)
def c_62 : hp_G := (hw c_61.1 20 2 0, c_61.2.1, c_61.2.2.1, 23)
def c_63 : hp_G := (c_62.1, c_62.2.1, hw c_62.2.2.1 0 9 (some 20), 23)
def c_64 : hp_G := (hz c_63.1 23 0, hz c_63.2.1 23 0, hz c_63.2.2.1 23 none, 24)
def c_65 : hp_G := (c_64.1, c_64.2.1, hw c_64.2.2.1 0 10 (some 23), 24)
def c_66 : hp_G := (c_65.1, hw c_65.2.1 0 11 0, c_65.2.2.1, 24)
def c_67 : hp_G := (hz c_66.1 24 0, hz c_66.2.1 24 0, hz c_66.2.2.1 24 none, 25)
def c_68 : hp_G := (hw c_67.1 24 0 0, c_67.2.1, c_67.2.2.1, 25)
def c_69 : hp_G := (hw c_68.1 24 1 0, c_68.2.1, c_68.2.2.1, 25)
def c_70 : hp_G := (hw c_69.1 24 2 0, c_69.2.1, c_69.2.2.1, 25)
def c_71 : hp_G := (hz c_70.1 25 0, hz c_70.2.1 25 0, hz c_70.2.2.1 25 none, 26)
def c_72 : hp_G := (c_71.1, c_71.2.1, hw c_71.2.2.1 24 3 (some 25), 26)
def c_73 : hp_G := (hz c_72.1 26 0, hz c_72.2.1 26 0, hz c_72.2.2.1 26 none, 27)
def c_74 : hp_G := (c_73.1, c_73.2.1, hw c_73.2.2.1 24 4 (some 26), 27)
def c_75 : hp_G := (hz c_74.1 27 0, hz c_74.2.1 27 0, hz c_74.2.2.1 27 none, 28)
def c_76 : hp_G := (c_75.1, c_75.2.1, hw c_75.2.2.1 24 5 (some 27), 28)
def c_77 : hp_G := (hz c_76.1 28 0, hz c_76.2.1 28 0, hz c_76.2.2.1 28 none, 29)
def c_78 : hp_G := (c_77.1, c_77.2.1, hw c_77.2.2.1 24 6 (some 28), 29)
def c_79 : hp_G := (hw c_78.1 24 7 0, c_78.2.1, c_78.2.2.1, 29)
def c_80 : hp_G := (c_79.1, c_79.2.1, hw c_79.2.2.1 16 0 (some 24), 29)
def c_81 : hp_G := (hz c_80.1 29 0, hz c_80.2.1 29 0, hz c_80.2.2.1 29 none, 30)
def c_82 : hp_G := (hw c_81.1 29 0 0, c_81.2.1, c_81.2.2.1, 30)
def c_83 : hp_G := (hw c_82.1 29 1 0, c_82.2.1, c_82.2.2.1, 30)
def c_84 : hp_G := (hw c_83.1 29 2 0, c_83.2.1, c_83.2.2.1, 30)
def c_85 : hp_G := (hz c_84.1 30 0, hz c_84.2.1 30 0, hz c_84.2.2.1 30 none, 31)
def c_86 : hp_G := (c_85.1, c_85.2.1, hw c_85.2.2.1 29 3 (some 30), 31)
def c_87 : hp_G := (hz c_86.1 31 0, hz c_86.2.1 31 0, hz c_86.2.2.1 31 none, 32)
def c_88 : hp_G := (c_87.1, c_87.2.1, hw c_87.2.2.1 29 4 (some 31), 32)
def c_89 : hp_G := (hz c_88.1 32 0, hz c_88.2.1 32 0, hz c_88.2.2.1 32 none, 33)
def c_90 : hp_G := (c_89.1, c_89.2.1, hw c_89.2.2.1 29 5 (some 32), 33)
def c_91 : hp_G := (hz c_90.1 33 0, hz c_90.2.1 33 0, hz c_90.2.2.1 33 none, 34)
def c_92 : hp_G := (c_91.1, c_91.2.1, hw c_91.2.2.1 29 6 (some 33), 34)
def c_93 : hp_G := (hw c_92.1 29 7 0, c_92.2.1, c_92.2.2.1, 34)
def c_94 : hp_G := (c_93.1, c_93.2.1, hw c_93.2.2.1 16 1 (some 29), 34)
def c_95 : hp_G := (hz c_94.1 34 0, hz c_94.2.1 34 0, hz c_94.2.2.1 34 none, 35)
def c_96 : hp_G := (hw c_95.1 34 0 0, c_95.2.1, c_95.2.2.1, 35)
def c_97 : hp_G := (hw c_96.1 34 1 0, c_96.2.1, c_96.2.2.1, 35)
def c_98 : hp_G := (hw c_97.1 34 2 0, c_97.2.1, c_97.2.2.1, 35)
def c_99 : hp_G := (hz c_98.1 35 0, hz c_98.2.1 35 0, hz c_98.2.2.1 35 none, 36)
def c_100 : hp_G := (c_99.1, c_99.2.1, hw c_99.2.2.1 34 3 (some 35), 36)
def c_101 : hp_G := (hz c_100.1 36 0, hz c_100.2.1 36 0, hz c_100.2.2.1 36 none, 37)
def c_102 : hp_G := (c_101.1, c_101.2.1, hw c_101.2.2.1 34 4 (some 36), 37)
def c_103 : hp_G := (hz c_102.1 37 0, hz c_102.2.1 37 0, hz c_102.2.2.1 37 none, 38)
def c_104 : hp_G := (c_103.1, c_103.2.1, hw c_103.2.2.1 34 5 (some 37), 38)
def c_105 : hp_G := (hz c_104.1 38 0, hz c_104.2.1 38 0, hz c_104.2.2.1 38 none, 39)
def c_106 : hp_G := (c_105.1, c_105.2.1, hw c_105.2.2.1 34 6 (some 38), 39)
def c_107 : hp_G := (hw c_106.1 34 7 0, c_106.2.1, c_106.2.2.1, 39)
def c_108 : hp_G := (c_107.1, c_107.2.1, hw c_107.2.2.1 16 2 (some 34), 39)
def c_109 : hp_G := (hz c_108.1 39 0, hz c_108.2.1 39 0, hz c_108.2.2.1 39 none, 40)
def c_110 : hp_G := (hw c_109.1 39 0 0, c_109.2.1, c_109.2.2.1, 40)
def c_111 : hp_G := (hw c_110.1 39 1 0, c_110.2.1, c_110.2.2.1, 40)
def c_112 : hp_G := (hw c_111.1 39 2 0, c_111.2.1, c_111.2.2.1, 40)
def c_113 : hp_G := (hz c_112.1 40 0, hz c_112.2.1 40 0, hz c_112.2.2.1 40 none, 41)
def c_114 : hp_G := (c_113.1, c_113.2.1, hw c_113.2.2.1 39 3 (some 40), 41)
def c_115 : hp_G := (hz c_114.1 41 0, hz c_114.2.1 41 0, hz c_114.2.2.1 41 none, 42)
def c_116 : hp_G := (c_115.1, c_115.2.1, hw c_115.2.2.1 39 4 (some 41), 42)
def c_117 : hp_G := (hz c_116.1 42 0, hz c_116.2.1 42 0, hz c_116.2.2.1 42 none, 43)
def c_118 : hp_G := (c_117.1, c_117.2.1, hw c_117.2.2.1 39 5 (some 42), 43)
def c_119 : hp_G := (hz c_118.1 43 0, hz c_118.2.1 43 0, hz c_118.2.2.1 43 none, 44)
def c_120 : hp_G := (c_119.1, c_119.2.1, hw c_119.2.2.1 39 6 (some 43), 44)
def c_121 : hp_G := (hw c_120.1 39 7 0, c_120.2.1, c_120.2.2.1, 44)
def c_122 : hp_G := (c_121.1, c_121.2.1, hw c_121.2.2.1 16 3 (some 39), 44)
def c_123 : hp_G := (hz c_122.1 44 0, hz c_122.2.1 44 0, hz c_122.2.2.1 44 none, 45)
def c_124 : hp_G := (hw c_123.1 44 0 0, c_123.2.1, c_123.2.2.1, 45)
def c_125 : hp_G := (hw c_124.1 44 1 0, c_124.2.1, c_124.2.2.1, 45)
def c_126 : hp_G := (hw c_125.1 44 2 0, c_125.2.1, c_125.2.2.1, 45)
def c_127 : hp_G := (hz c_126.1 45 0, hz c_126.2.1 45 0, hz c_126.2.2.1 45 none, 46)
def c_128 : hp_G := (c_127.1, c_127.2.1, hw c_127.2.2.1 44 3 (some 45), 46)
def c_129 : hp_G := (hz c_128.1 46 0, hz c_128.2.1 46 0, hz c_128.2.2.1 46 none, 47)
def c_130 : hp_G := (c_129.1, c_129.2.1, hw c_129.2.2.1 44 4 (some 46), 47)
def c_131 : hp_G := (hz c_130.1 47 0, hz c_130.2.1 47 0, hz c_130.2.2.1 47 none, 48)
def c_132 : hp_G := (c_131.1, c_131.2.1, hw c_131.2.2.1 44 5 (some 47), 48)
def c_133 : hp_G := (hz c_132.1 48 0, hz c_132.2.1 48 0, hz c_132.2.2.1 48 none, 49)
def c_134 : hp_G := (c_133.1, c_133.2.1, hw c_133.2.2.1 44 6 (some 48), 49)
def c_135 : hp_G := (hw c_134.1 44 7 0, c_134.2.1, c_134.2.2.1, 49)
def c_136 : hp_G := (c_135.1, c_135.2.1, hw c_135.2.2.1 16 4 (some 44), 49)
def c_137 : hp_G := (hz c_136.1 49 0, hz c_136.2.1 49 0, hz c_136.2.2.1 49 none, 50)
def c_138 : hp_G := (hw c_137.1 49 0 0, c_137.2.1, c_137.2.2.1, 50)
def c_139 : hp_G := (hw c_138.1 49 1 0, c_138.2.1, c_138.2.2.1, 50)
def c_140 : hp_G := (hw c_139.1 49 2 0, c_139.2.1, c_139.2.2.1, 50)
def c_141 : hp_G := (hz c_140.1 50 0, hz c_140.2.1 50 0, hz c_140.2.2.1 50 none, 51)
def c_142 : hp_G := (c_141.1, c_141.2.1, hw c_141.2.2.1 49 3 (some 50), 51)
def c_143 : hp_G := (hz c_142.1 51 0, hz c_142.2.1 51 0, hz c_142.2.2.1 51 none, 52)
def c_144 : hp_G := (c_143.1, c_143.2.1, hw c_143.2.2.1 49 4 (some 51), 52)
def c_145 : hp_G := (hz c_144.1 52 0, hz c_144.2.1 52 0, hz c_144.2.2.1 52 none, 53)
def c_146 : hp_G := (c_145.1, c_145.2.1, hw c_145.2.2.1 49 5 (some 52), 53)
def c_147 : hp_G := (hz c_146.1 53 0, hz c_146.2.1 53 0, hz c_146.2.2.1 53 none, 54)
def c_148 : hp_G := (c_147.1, c_147.2.1, hw c_147.2.2.1 49 6 (some 53), 54)
def c_149 : hp_G := (hw c_148.1 49 7 0, c_148.2.1, c_148.2.2.1, 54)
def c_150 : hp_G := (c_149.1, c_149.2.1, hw c_149.2.2.1 16 5 (some 49), 54)
def c_151 : hp_G := (hz c_150.1 54 0, hz c_150.2.1 54 0, hz c_150.2.2.1 54 none, 55)
def c_152 : hp_G := (hw c_151.1 54 0 0, c_151.2.1, c_151.2.2.1, 55)
def c_153 : hp_G := (hw c_152.1 54 1 0, c_152.2.1, c_152.2.2.1, 55)
def c_154 : hp_G := (hw c_153.1 54 2 0, c_153.2.1, c_153.2.2.1, 55)
def c_155 : hp_G := (hz c_154.1 55 0, hz c_154.2.1 55 0, hz c_154.2.2.1 55 none, 56)
def c_156 : hp_G := (c_155.1, c_155.2.1, hw c_155.2.2.1 54 3 (some 55), 56)
def c_157 : hp_G := (hz c_156.1 56 0, hz c_156.2.1 56 0, hz c_156.2.2.1 56 none, 57)
def c_158 : hp_G := (c_157.1, c_157.2.1, hw c_157.2.2.1 54 4 (some 56), 57)
def c_159 : hp_G := (hz c_158.1 57 0, hz c_158.2.1 57 0, hz c_158.2.2.1 57 none, 58)
def c_160 : hp_G := (c_159.1, c_159.2.1, hw c_159.2.2.1 54 5 (some 57), 58)
def c_161 : hp_G := (hz c_160.1 58 0, hz c_160.2.1 58 0, hz c_160.2.2.1 58 none, 59)
def c_162 : hp_G := (c_161.1, c_161.2.1, hw c_161.2.2.1 54 6 (some 58), 59)
def c_163 : hp_G := (hw c_162.1 54 7 0, c_162.2.1, c_162.2.2.1, 59)
def c_164 : hp_G := (c_163.1, c_163.2.1, hw c_163.2.2.1 16 6 (some 54), 59)
def c_165 : hp_G := (hz c_164.1 59 0, hz c_164.2.1 59 0, hz c_164.2.2.1 59 none, 60)
def c_166 : hp_G := (hw c_165.1 59 0 0, c_165.2.1, c_165.2.2.1, 60)
def c_167 : hp_G := (hw c_166.1 59 1 0, c_166.2.1, c_166.2.2.1, 60)
def c_168 : hp_G := (hw c_167.1 59 2 0, c_167.2.1, c_167.2.2.1, 60)
def c_169 : hp_G := (hz c_168.1 60 0, hz c_168.2.1 60 0, hz c_168.2.2.1 60 none, 61)
def c_170 : hp_G := (c_169.1, c_169.2.1, hw c_169.2.2.1 59 3 (some 60), 61)
def c_171 : hp_G := (hz c_170.1 61 0, hz c_170.2.1 61 0, hz c_170.2.2.1 61 none, 62)
def c_172 : hp_G := (c_171.1, c_171.2.1, hw c_171.2.2.1 59 4 (some 61), 62)
def c_173 : hp_G := (hz c_172.1 62 0, hz c_172.2.1 62 0, hz c_172.2.2.1 62 none, 63)
def c_174 : hp_G := (c_173.1, c_173.2.1, hw c_173.2.2.1 59 5 (some 62), 63)
def c_175 : hp_G := (hz c_174.1 63 0, hz c_174.2.1 63 0, hz c_174.2.2.1 63 none, 64)
def c_176 : hp_G := (c_175.1, c_175.2.1, hw c_175.2.2.1 59 6 (some 63), 64)
def c_177 : hp_G := (hw c_176.1 59 7 0, c_176.2.1, c_176.2.2.1, 64)
def c_178 : hp_G := (c_177.1, c_177.2.1, hw c_177.2.2.1 16 7 (some 59), 64)
def c_179 : hp_G := (hz c_178.1 64 0, hz c_178.2.1 64 0, hz c_178.2.2.1 64 none, 65)
def c_180 : hp_G := (hw c_179.1 64 0 0, c_179.2.1, c_179.2.2.1, 65)
def c_181 : hp_G := (hw c_180.1 64 1 0, c_180.2.1, c_180.2.2.1, 65)
def c_182 : hp_G := (hw c_181.1 64 2 0, c_181.2.1, c_181.2.2.1, 65)
def c_183 : hp_G := (hz c_182.1 65 0, hz c_182.2.1 65 0, hz c_182.2.2.1 65 none, 66)
def c_184 : hp_G := (c_183.1, c_183.2.1, hw c_183.2.2.1 64 3 (some 65), 66)
def c_185 : hp_G := (hz c_184.1 66 0, hz c_184.2.1 66 0, hz c_184.2.2.1 66 none, 67)
def c_186 : hp_G := (c_185.1, c_185.2.1, hw c_185.2.2.1 64 4 (some 66), 67)
def c_187 : hp_G := (hz c_186.1 67 0, hz c_186.2.1 67 0, hz c_186.2.2.1 67 none, 68)
def c_188 : hp_G := (c_187.1, c_187.2.1, hw c_187.2.2.1 64 5 (some 67), 68)
def c_189 : hp_G := (hz c_188.1 68 0, hz c_188.2.1 68 0, hz c_188.2.2.1 68 none, 69)
def c_190 : hp_G := (c_189.1, c_189.2.1, hw c_189.2.2.1 64 6 (some 68), 69)
def c_191 : hp_G := (hw c_190.1 64 7 0, c_190.2.1, c_190.2.2.1, 69)
def c_192 : hp_G := (c_191.1, c_191.2.1, hw c_191.2.2.1 16 8 (some 64), 69)
def c_193 : hp_G := (hz c_192.1 69 0, hz c_192.2.1 69 0, hz c_192.2.2.1 69 none, 70)
def c_194 : hp_G := (hw c_193.1 69 0 0, c_193.2.1, c_193.2.2.1, 70)
def c_195 : hp_G := (hw c_194.1 69 1 0, c_194.2.1, c_194.2.2.1, 70)
def c_196 : hp_G := (hw c_195.1 69 2 0, c_195.2.1, c_195.2.2.1, 70)
def c_197 : hp_G := (hz c_196.1 70 0, hz c_196.2.1 70 0, hz c_196.2.2.1 70 none, 71)
def c_198 : hp_G := (c_197.1, c_197.2.1, hw c_197.2.2.1 69 3 (some 70), 71)
def c_199 : hp_G := (hz c_198.1 71 0, hz c_198.2.1 71 0, hz c_198.2.2.1 71 none, 72)
def c_200 : hp_G := (c_199.1, c_199.2.1, hw c_199.2.2.1 69 4 (some 71), 72)
def c_201 : hp_G := (hz c_200.1 72 0, hz c_200.2.1 72 0, hz c_200.2.2.1 72 none, 73)
def c_202 : hp_G := (c_201.1, c_201.2.1, hw c_201.2.2.1 69 5 (some 72), 73)
def c_203 : hp_G := (hz c_202.1 73 0, hz c_202.2.1 73 0, hz c_202.2.2.1 73 none, 74)
def c_204 : hp_G := (c_203.1, c_203.2.1, hw c_203.2.2.1 69 6 (some 73), 74)
def c_205 : hp_G := (hw c_204.1 69 7 0, c_204.2.1, c_204.2.2.1, 74)
def c_206 : hp_G := (c_205.1, c_205.2.1, hw c_205.2.2.1 16 9 (some 69), 74)
def c_207 : hp_G := (hz c_206.1 74 0, hz c_206.2.1 74 0, hz c_206.2.2.1 74 none, 75)
def c_208 : hp_G := (hw c_207.1 74 0 0, c_207.2.1, c_207.2.2.1, 75)
def c_209 : hp_G := (hw c_208.1 74 1 0, c_208.2.1, c_208.2.2.1, 75)
def c_210 : hp_G := (hw c_209.1 74 2 0, c_209.2.1, c_209.2.2.1, 75)
def c_211 : hp_G := (hz c_210.1 75 0, hz c_210.2.1 75 0, hz c_210.2.2.1 75 none, 76)
def c_212 : hp_G := (c_211.1, c_211.2.1, hw c_211.2.2.1 74 3 (some 75), 76)
def c_213 : hp_G := (hz c_212.1 76 0, hz c_212.2.1 76 0, hz c_212.2.2.1 76 none, 77)
def c_214 : hp_G := (c_213.1, c_213.2.1, hw c_213.2.2.1 74 4 (some 76), 77)
def c_215 : hp_G := (hz c_214.1 77 0, hz c_214.2.1 77 0, hz c_214.2.2.1 77 none, 78)
def c_216 : hp_G := (c_215.1, c_215.2.1, hw c_215.2.2.1 74 5 (some 77), 78)
def c_217 : hp_G := (hz c_216.1 78 0, hz c_216.2.1 78 0, hz c_216.2.2.1 78 none, 79)
def c_218 : hp_G := (c_217.1, c_217.2.1, hw c_217.2.2.1 74 6 (some 78), 79)
def c_219 : hp_G := (hw c_218.1 74 7 0, c_218.2.1, c_218.2.2.1, 79)
def c_220 : hp_G := (c_219.1, c_219.2.1, hw c_219.2.2.1 17 0 (some 74), 79)
def c_221 : hp_G := (hz c_220.1 79 0, hz c_220.2.1 79 0, hz c_220.2.2.1 79 none, 80)
def c_222 : hp_G := (hw c_221.1 79 0 0, c_221.2.1, c_221.2.2.1, 80)
def c_223 : hp_G := (hw c_222.1 79 1 0, c_222.2.1, c_222.2.2.1, 80)
def c_224 : hp_G := (hw c_223.1 79 2 0, c_223.2.1, c_223.2.2.1, 80)
def c_225 : hp_G := (hz c_224.1 80 0, hz c_224.2.1 80 0, hz c_224.2.2.1 80 none, 81)
def c_226 : hp_G := (c_225.1, c_225.2.1, hw c_225.2.2.1 79 3 (some 80), 81)
def c_227 : hp_G := (hz c_226.1 81 0, hz c_226.2.1 81 0, hz c_226.2.2.1 81 none, 82)
def c_228 : hp_G := (c_227.1, c_227.2.1, hw c_227.2.2.1 79 4 (some 81), 82)
def c_229 : hp_G := (hz c_228.1 82 0, hz c_228.2.1 82 0, hz c_228.2.2.1 82 none, 83)
def c_230 : hp_G := (c_229.1, c_229.2.1, hw c_229.2.2.1 79 5 (some 82), 83)
def c_231 : hp_G := (hz c_230.1 83 0, hz c_230.2.1 83 0, hz c_230.2.2.1 83 none, 84)
def c_232 : hp_G := (c_231.1, c_231.2.1, hw c_231.2.2.1 79 6 (some 83), 84)
def c_233 : hp_G := (hw c_232.1 79 7 0, c_232.2.1, c_232.2.2.1, 84)
def c_234 : hp_G := (c_233.1, c_233.2.1, hw c_233.2.2.1 17 1 (some 79), 84)
def c_235 : hp_G := (hz c_234.1 84 0, hz c_234.2.1 84 0, hz c_234.2.2.1 84 none, 85)
def c_236 : hp_G := (hw c_235.1 84 0 0, c_235.2.1, c_235.2.2.1, 85)
def c_237 : hp_G := (hw c_236.1 84 1 0, c_236.2.1, c_236.2.2.1, 85)
def c_238 : hp_G := (hw c_237.1 84 2 0, c_237.2.1, c_237.2.2.1, 85)
def c_239 : hp_G := (hz c_238.1 85 0, hz c_238.2.1 85 0, hz c_238.2.2.1 85 none, 86)
def c_240 : hp_G := (c_239.1, c_239.2.1, hw c_239.2.2.1 84 3 (some 85), 86)
def c_241 : hp_G := (hz c_240.1 86 0, hz c_240.2.1 86 0, hz c_240.2.2.1 86 none, 87)
def c_242 : hp_G := (c_241.1, c_241.2.1, hw c_241.2.2.1 84 4 (some 86), 87)
def c_243 : hp_G := (c_242.1, c_242.2.1, hw c_242.2.2.1 19 0 (some 84), 87)
def c_244 : hp_G := (hz c_243.1 87 0, hz c_243.2.1 87 0, hz c_243.2.2.1 87 none, 88)
def c_245 : hp_G := (hw c_244.1 87 0 0, c_244.2.1, c_244.2.2.1, 88)
def c_246 : hp_G := (hw c_245.1 87 1 0, c_245.2.1, c_245.2.2.1, 88)
def c_247 : hp_G := (hw c_246.1 87 2 0, c_246.2.1, c_246.2.2.1, 88)
def c_248 : hp_G := (hz c_247.1 88 0, hz c_247.2.1 88 0, hz c_247.2.2.1 88 none, 89)
def c_249 : hp_G := (c_248.1, c_248.2.1, hw c_248.2.2.1 87 3 (some 88), 89)
def c_250 : hp_G := (hz c_249.1 89 0, hz c_249.2.1 89 0, hz c_249.2.2.1 89 none, 90)
def c_251 : hp_G := (c_250.1, c_250.2.1, hw c_250.2.2.1 87 4 (some 89), 90)
def c_252 : hp_G := (c_251.1, c_251.2.1, hw c_251.2.2.1 19 1 (some 87), 90)
def c_253 : hp_G := (hz c_252.1 90 0, hz c_252.2.1 90 0, hz c_252.2.2.1 90 none, 91)
def c_254 : hp_G := (hw c_253.1 90 0 0, c_253.2.1, c_253.2.2.1, 91)
def c_255 : hp_G := (hw c_254.1 90 1 0, c_254.2.1, c_254.2.2.1, 91)
def c_256 : hp_G := (hw c_255.1 90 2 0, c_255.2.1, c_255.2.2.1, 91)
def c_257 : hp_G := (hz c_256.1 91 0, hz c_256.2.1 91 0, hz c_256.2.2.1 91 none, 92)
def c_258 : hp_G := (c_257.1, c_257.2.1, hw c_257.2.2.1 90 3 (some 91), 92)
def c_259 : hp_G := (hz c_258.1 92 0, hz c_258.2.1 92 0, hz c_258.2.2.1 92 none, 93)
def c_260 : hp_G := (c_259.1, c_259.2.1, hw c_259.2.2.1 90 4 (some 92), 93)
def c_261 : hp_G := (c_260.1, c_260.2.1, hw c_260.2.2.1 19 2 (some 90), 93)
def c_262 : hp_G := (hz c_261.1 93 0, hz c_261.2.1 93 0, hz c_261.2.2.1 93 none, 94)
def c_263 : hp_G := (hw c_262.1 93 0 0, c_262.2.1, c_262.2.2.1, 94)
def c_264 : hp_G := (hw c_263.1 93 1 0, c_263.2.1, c_263.2.2.1, 94)
def c_265 : hp_G := (hw c_264.1 93 2 0, c_264.2.1, c_264.2.2.1, 94)
def c_266 : hp_G := (hz c_265.1 94 0, hz c_265.2.1 94 0, hz c_265.2.2.1 94 none, 95)
def c_267 : hp_G := (c_266.1, c_266.2.1, hw c_266.2.2.1 93 3 (some 94), 95)
def c_268 : hp_G := (hz c_267.1 95 0, hz c_267.2.1 95 0, hz c_267.2.2.1 95 none, 96)
def c_269 : hp_G := (c_268.1, c_268.2.1, hw c_268.2.2.1 93 4 (some 95), 96)
def c_270 : hp_G := (c_269.1, c_269.2.1, hw c_269.2.2.1 19 3 (some 93), 96)
def c_271 : hp_G := (hz c_270.1 96 0, hz c_270.2.1 96 0, hz c_270.2.2.1 96 none, 97)
def c_272 : hp_G := (hw c_271.1 96 0 0, c_271.2.1, c_271.2.2.1, 97)
def c_273 : hp_G := (hw c_272.1 96 1 0, c_272.2.1, c_272.2.2.1, 97)
def c_274 : hp_G := (hw c_273.1 96 2 0, c_273.2.1, c_273.2.2.1, 97)
def c_275 : hp_G := (hz c_274.1 97 0, hz c_274.2.1 97 0, hz c_274.2.2.1 97 none, 98)
def c_276 : hp_G := (c_275.1, c_275.2.1, hw c_275.2.2.1 96 3 (some 97), 98)
def c_277 : hp_G := (hz c_276.1 98 0, hz c_276.2.1 98 0, hz c_276.2.2.1 98 none, 99)
def c_278 : hp_G := (c_277.1, c_277.2.1, hw c_277.2.2.1 96 4 (some 98), 99)
def c_279 : hp_G := (c_278.1, c_278.2.1, hw c_278.2.2.1 19 4 (some 96), 99)
def c_280 : hp_G := (hz c_279.1 99 0, hz c_279.2.1 99 0, hz c_279.2.2.1 99 none, 100)
def c_281 : hp_G := (hz c_280.1 100 0, hz c_280.2.1 100 0, hz c_280.2.2.1 100 none, 101)
def c_282 : hp_G := (c_281.1, c_281.2.1, hw c_281.2.2.1 99 2 (some 100), 101)
def c_283 : hp_G := (hz c_282.1 101 0, hz c_282.2.1 101 0, hz c_282.2.2.1 101 none, 102)
def c_284 : hp_G := (c_283.1, c_283.2.1, hw c_283.2.2.1 99 9 (some 101), 102)
def c_285 : hp_G := (hz c_284.1 102 0, hz c_284.2.1 102 0, hz c_284.2.2.1 102 none, 103)
def c_286 : hp_G := (c_285.1, c_285.2.1, hw c_285.2.2.1 99 10 (some 102), 103)
def c_287 : hp_G := (hz c_286.1 103 0, hz c_286.2.1 103 0, hz c_286.2.2.1 103 none, 104)
def c_288 : hp_G := (c_287.1, c_287.2.1, hw c_287.2.2.1 99 11 (some 103), 104)
def c_289 : hp_G := (hz c_288.1 104 0, hz c_288.2.1 104 0, hz c_288.2.2.1 104 none, 105)
def c_290 : hp_G := (c_289.1, c_289.2.1, hw c_289.2.2.1 99 12 (some 104), 105)
def c_291 : hp_G := (hz c_290.1 105 0, hz c_290.2.1 105 0, hz c_290.2.2.1 105 none, 106)
def c_292 : hp_G := (c_291.1, c_291.2.1, hw c_291.2.2.1 99 14 (some 105), 106)
def c_293 : hp_G := (hz c_292.1 106 0, hz c_292.2.1 106 0, hz c_292.2.2.1 106 none, 107)
def c_294 : hp_G := (c_293.1, c_293.2.1, hw c_293.2.2.1 99 15 (some 106), 107)
def c_295 : hp_G := (hz c_294.1 107 0, hz c_294.2.1 107 0, hz c_294.2.2.1 107 none, 108)
def c_296 : hp_G := (c_295.1, c_295.2.1, hw c_295.2.2.1 99 16 (some 107), 108)
def c_297 : hp_G := (hz c_296.1 108 0, hz c_296.2.1 108 0, hz c_296.2.2.1 108 none, 109)
def c_298 : hp_G := (c_297.1, c_297.2.1, hw c_297.2.2.1 99 17 (some 108), 109)
def c_299 : hp_G := (hz c_298.1 109 0, hz c_298.2.1 109 0, hz c_298.2.2.1 109 none, 110)
def c_300 : hp_G := (c_299.1, c_299.2.1, hw c_299.2.2.1 99 19 (some 109), 110)
def c_301 : hp_G := (hz c_300.1 110 0, hz c_300.2.1 110 0, hz c_300.2.2.1 110 none, 111)
def c_302 : hp_G := (c_301.1, c_301.2.1, hw c_301.2.2.1 99 20 (some 110), 111)
def c_303 : hp_G := (hz c_302.1 111 0, hz c_302.2.1 111 0, hz c_302.2.2.1 111 none, 112)
def c_304 : hp_G := (c_303.1, c_303.2.1, hw c_303.2.2.1 99 22 (some 111), 112)
def c_305 : hp_G := (hz c_304.1 112 0, hz c_304.2.1 112 0, hz c_304.2.2.1 112 none, 113)
def c_306 : hp_G := (c_305.1, c_305.2.1, hw c_305.2.2.1 99 23 (some 112), 113)
def c_307 : hp_G := (hw c_306.1 101 1 2, c_306.2.1, c_306.2.2.1, 113)
set_option maxRecDepth 20000 in
theorem ci_1 : f_X4_init [.ref 3] c_6 = some (none, c_14) := by
  show sx_ev P_X4_init (0, [(0, .ref 3)], [], c_6) = _
  exact sx_tE 21 rfl
set_option maxRecDepth 20000 in
theorem ci_2 : f_X3_init [.ref 1] c_2 = some (none, c_21) := by
  show sx_ev P_X3_init (0, [(0, .ref 1)], [], c_2) = _
  exact sx_tK 12 (s' := (23, [(0, .ref 1)], [.ref 3, .ref 3, .ref 1], c_6)) rfl (sx_tVr (r := f_X4_init [.ref 3] c_6) (s1 := fun g => (26, [(0, .ref 1)], [.ref 3, .ref 1], g)) rfl ci_1 (sx_tE 20 rfl))
set_option maxRecDepth 20000 in
theorem ci_3 : f_X4_init [.ref 7] c_23 = some (none, c_31) := by
  show sx_ev P_X4_init (0, [(0, .ref 7)], [], c_23) = _
  exact sx_tE 21 rfl
set_option maxRecDepth 20000 in
theorem ci_4 : f_X0_init [.ref 11] c_33 = some (none, c_45) := by
  show sx_ev P_X0_init (0, [(0, .ref 11)], [], c_33) = _
  exact sx_tK 25 (s' := (46, [(0, .ref 11)], [.int 7, .ref 11], c_42)) rfl (sx_tE 6 rfl)
set_option maxRecDepth 20000 in
theorem ci_5 : f_X1_init [.ref 20] c_57 = some (none, c_62) := by
  show sx_ev P_X1_init (0, [(0, .ref 20)], [], c_57) = _
  exact sx_tE 14 rfl
set_option maxRecDepth 20000 in
theorem ci_6 : f_X0_init [.ref 24] c_67 = some (none, c_79) := by
  show sx_ev P_X0_init (0, [(0, .ref 24)], [], c_67) = _
  exact sx_tK 25 (s' := (46, [(0, .ref 24)], [.int 7, .ref 24], c_76)) rfl (sx_tE 6 rfl)
set_option maxRecDepth 20000 in
theorem ci_7 : f_X0_init [.ref 29] c_81 = some (none, c_93) := by
  show sx_ev P_X0_init (0, [(0, .ref 29)], [], c_81) = _
  exact sx_tK 25 (s' := (46, [(0, .ref 29)], [.int 7, .ref 29], c_90)) rfl (sx_tE 6 rfl)
set_option maxRecDepth 20000 in
theorem ci_8 : f_X0_init [.ref 34] c_95 = some (none, c_107) := by
  show sx_ev P_X0_init (0, [(0, .ref 34)], [], c_95) = _
  exact sx_tK 25 (s' := (46, [(0, .ref 34)], [.int 7, .ref 34], c_104)) rfl (sx_tE 6 rfl)
set_option maxRecDepth 20000 in
theorem ci_9 : f_X0_init [.ref 39] c_109 = some (none, c_121) := by
  show sx_ev P_X0_init (0, [(0, .ref 39)], [], c_109) = _
  exact sx_tK 25 (s' := (46, [(0, .ref 39)], [.int 7, .ref 39], c_118)) rfl (sx_tE 6 rfl)
set_option maxRecDepth 20000 in
theorem ci_10 : f_X0_init [.ref 44] c_123 = some (none, c_135) := by
  show sx_ev P_X0_init (0, [(0, .ref 44)], [], c_123) = _
  exact sx_tK 25 (s' := (46, [(0, .ref 44)], [.int 7, .ref 44], c_132)) rfl (sx_tE 6 rfl)
set_option maxRecDepth 20000 in
theorem ci_11 : f_X0_init [.ref 49] c_137 = some (none, c_149) := by
  show sx_ev P_X0_init (0, [(0, .ref 49)], [], c_137) = _
  exact sx_tK 25 (s' := (46, [(0, .ref 49)], [.int 7, .ref 49], c_146)) rfl (sx_tE 6 rfl)
set_option maxRecDepth 20000 in
theorem ci_12 : f_X0_init [.ref 54] c_151 = some (none, c_163) := by
  show sx_ev P_X0_init (0, [(0, .ref 54)], [], c_151) = _
  exact sx_tK 25 (s' := (46, [(0, .ref 54)], [.int 7, .ref 54], c_160)) rfl (sx_tE 6 rfl)
set_option maxRecDepth 20000 in
theorem ci_13 : f_X0_init [.ref 59] c_165 = some (none, c_177) := by
  show sx_ev P_X0_init (0, [(0, .ref 59)], [], c_165) = _
  exact sx_tK 25 (s' := (46, [(0, .ref 59)], [.int 7, .ref 59], c_174)) rfl (sx_tE 6 rfl)
set_option maxRecDepth 20000 in
theorem ci_14 : f_X0_init [.ref 64] c_179 = some (none, c_191) := by
  show sx_ev P_X0_init (0, [(0, .ref 64)], [], c_179) = _
  exact sx_tK 25 (s' := (46, [(0, .ref 64)], [.int 7, .ref 64], c_188)) rfl (sx_tE 6 rfl)
set_option maxRecDepth 20000 in
theorem ci_15 : f_X0_init [.ref 69] c_193 = some (none, c_205) := by
  show sx_ev P_X0_init (0, [(0, .ref 69)], [], c_193) = _
  exact sx_tK 25 (s' := (46, [(0, .ref 69)], [.int 7, .ref 69], c_202)) rfl (sx_tE 6 rfl)
set_option maxRecDepth 20000 in
theorem ci_16 : f_X0_init [.ref 74] c_207 = some (none, c_219) := by
  show sx_ev P_X0_init (0, [(0, .ref 74)], [], c_207) = _
  exact sx_tK 25 (s' := (46, [(0, .ref 74)], [.int 7, .ref 74], c_216)) rfl (sx_tE 6 rfl)
set_option maxRecDepth 20000 in
theorem ci_17 : f_X0_init [.ref 79] c_221 = some (none, c_233) := by
  show sx_ev P_X0_init (0, [(0, .ref 79)], [], c_221) = _
  exact sx_tK 25 (s' := (46, [(0, .ref 79)], [.int 7, .ref 79], c_230)) rfl (sx_tE 6 rfl)
set_option maxRecDepth 20000 in
theorem ci_18 : f_X2_init [.ref 84] c_235 = some (none, c_242) := by
  show sx_ev P_X2_init (0, [(0, .ref 84)], [], c_235) = _
  exact sx_tE 20 rfl
set_option maxRecDepth 20000 in
theorem ci_19 : f_X2_init [.ref 87] c_244 = some (none, c_251) := by
  show sx_ev P_X2_init (0, [(0, .ref 87)], [], c_244) = _
  exact sx_tE 20 rfl
set_option maxRecDepth 20000 in
theorem ci_20 : f_X2_init [.ref 90] c_253 = some (none, c_260) := by
  show sx_ev P_X2_init (0, [(0, .ref 90)], [], c_253) = _
  exact sx_tE 20 rfl
set_option maxRecDepth 20000 in
theorem ci_21 : f_X2_init [.ref 93] c_262 = some (none, c_269) := by
  show sx_ev P_X2_init (0, [(0, .ref 93)], [], c_262) = _
  exact sx_tE 20 rfl
set_option maxRecDepth 20000 in
theorem ci_22 : f_X2_init [.ref 96] c_271 = some (none, c_278) := by
  show sx_ev P_X2_init (0, [(0, .ref 96)], [], c_271) = _
  exact sx_tE 20 rfl
set_option maxRecDepth 20000 in
theorem ci_23 : f_X5_init [.ref 0] c_1 = some (none, c_279) := by
  show sx_ev P_X5_init (0, [(0, .ref 0)], [], c_1) = _
  exact sx_tK 5 (s' := (9, [(0, .ref 0)], [.ref 1, .ref 1, .ref 0], c_2)) rfl (sx_tVr (r := f_X3_init [.ref 1] c_2) (s1 := fun g => (12, [(0, .ref 0)], [.ref 1, .ref 0], g)) rfl ci_2 (sx_tK 4 (s' := (20, [(0, .ref 0)], [.ref 7, .ref 7, .ref 0], c_23)) rfl (sx_tVr (r := f_X4_init [.ref 7] c_23) (s1 := fun g => (23, [(0, .ref 0)], [.ref 7, .ref 0], g)) rfl ci_3 (sx_tK 4 (s' := (31, [(0, .ref 0)], [.ref 11, .ref 11, .ref 0], c_33)) rfl (sx_tVr (r := f_X0_init [.ref 11] c_33) (s1 := fun g => (34, [(0, .ref 0)], [.ref 11, .ref 0], g)) rfl ci_4 (sx_tK 25 (s' := (83, [(0, .ref 0)], [.ref 20, .ref 0], c_57)) rfl (sx_tK 1 (s' := (84, [(0, .ref 0)], [.ref 20, .ref 20, .ref 0], c_57)) rfl (sx_tVr (r := f_X1_init [.ref 20] c_57) (s1 := fun g => (87, [(0, .ref 0)], [.ref 20, .ref 0], g)) rfl ci_5 (sx_tK 18 (s' := (120, [(0, .ref 0), (1, .int 0)], [.ref 24, .ref 24, .int 0, .ref 16], c_67)) rfl (sx_tVr (r := f_X0_init [.ref 24] c_67) (s1 := fun g => (123, [(0, .ref 0), (1, .int 0)], [.ref 24, .int 0, .ref 16], g)) rfl ci_6 (sx_tK 11 (s' := (120, [(0, .ref 0), (1, .int 1)], [.ref 29, .ref 29, .int 1, .ref 16], c_81)) rfl (sx_tVr (r := f_X0_init [.ref 29] c_81) (s1 := fun g => (123, [(0, .ref 0), (1, .int 1)], [.ref 29, .int 1, .ref 16], g)) rfl ci_7 (sx_tK 11 (s' := (120, [(0, .ref 0), (1, .int 2)], [.ref 34, .ref 34, .int 2, .ref 16], c_95)) rfl (sx_tVr (r := f_X0_init [.ref 34] c_95) (s1 := fun g => (123, [(0, .ref 0), (1, .int 2)], [.ref 34, .int 2, .ref 16], g)) rfl ci_8 (sx_tK 11 (s' := (120, [(0, .ref 0), (1, .int 3)], [.ref 39, .ref 39, .int 3, .ref 16], c_109)) rfl (sx_tVr (r := f_X0_init [.ref 39] c_109) (s1 := fun g => (123, [(0, .ref 0), (1, .int 3)], [.ref 39, .int 3, .ref 16], g)) rfl ci_9 (sx_tK 11 (s' := (120, [(0, .ref 0), (1, .int 4)], [.ref 44, .ref 44, .int 4, .ref 16], c_123)) rfl (sx_tVr (r := f_X0_init [.ref 44] c_123) (s1 := fun g => (123, [(0, .ref 0), (1, .int 4)], [.ref 44, .int 4, .ref 16], g)) rfl ci_10 (sx_tK 11 (s' := (120, [(0, .ref 0), (1, .int 5)], [.ref 49, .ref 49, .int 5, .ref 16], c_137)) rfl (sx_tVr (r := f_X0_init [.ref 49] c_137) (s1 := fun g => (123, [(0, .ref 0), (1, .int 5)], [.ref 49, .int 5, .ref 16], g)) rfl ci_11 (sx_tK 11 (s' := (120, [(0, .ref 0), (1, .int 6)], [.ref 54, .ref 54, .int 6, .ref 16], c_151)) rfl (sx_tVr (r := f_X0_init [.ref 54] c_151) (s1 := fun g => (123, [(0, .ref 0), (1, .int 6)], [.ref 54, .int 6, .ref 16], g)) rfl ci_12 (sx_tK 11 (s' := (120, [(0, .ref 0), (1, .int 7)], [.ref 59, .ref 59, .int 7, .ref 16], c_165)) rfl (sx_tVr (r := f_X0_init [.ref 59] c_165) (s1 := fun g => (123, [(0, .ref 0), (1, .int 7)], [.ref 59, .int 7, .ref 16], g)) rfl ci_13 (sx_tK 11 (s' := (120, [(0, .ref 0), (1, .int 8)], [.ref 64, .ref 64, .int 8, .ref 16], c_179)) rfl (sx_tVr (r := f_X0_init [.ref 64] c_179) (s1 := fun g => (123, [(0, .ref 0), (1, .int 8)], [.ref 64, .int 8, .ref 16], g)) rfl ci_14 (sx_tK 11 (s' := (120, [(0, .ref 0), (1, .int 9)], [.ref 69, .ref 69, .int 9, .ref 16], c_193)) rfl (sx_tVr (r := f_X0_init [.ref 69] c_193) (s1 := fun g => (123, [(0, .ref 0), (1, .int 9)], [.ref 69, .int 9, .ref 16], g)) rfl ci_15 (sx_tK 16 (s' := (146, [(0, .ref 0), (1, .int 0)], [.ref 74, .ref 74, .int 0, .ref 17], c_207)) rfl (sx_tVr (r := f_X0_init [.ref 74] c_207) (s1 := fun g => (149, [(0, .ref 0), (1, .int 0)], [.ref 74, .int 0, .ref 17], g)) rfl ci_16 (sx_tK 11 (s' := (146, [(0, .ref 0), (1, .int 1)], [.ref 79, .ref 79, .int 1, .ref 17], c_221)) rfl (sx_tVr (r := f_X0_init [.ref 79] c_221) (s1 := fun g => (149, [(0, .ref 0), (1, .int 1)], [.ref 79, .int 1, .ref 17], g)) rfl ci_17 (sx_tK 16 (s' := (172, [(0, .ref 0), (1, .int 0)], [.ref 84, .ref 84, .int 0, .ref 19], c_235)) rfl (sx_tVr (r := f_X2_init [.ref 84] c_235) (s1 := fun g => (175, [(0, .ref 0), (1, .int 0)], [.ref 84, .int 0, .ref 19], g)) rfl ci_18 (sx_tK 11 (s' := (172, [(0, .ref 0), (1, .int 1)], [.ref 87, .ref 87, .int 1, .ref 19], c_244)) rfl (sx_tVr (r := f_X2_init [.ref 87] c_244) (s1 := fun g => (175, [(0, .ref 0), (1, .int 1)], [.ref 87, .int 1, .ref 19], g)) rfl ci_19 (sx_tK 11 (s' := (172, [(0, .ref 0), (1, .int 2)], [.ref 90, .ref 90, .int 2, .ref 19], c_253)) rfl (sx_tVr (r := f_X2_init [.ref 90] c_253) (s1 := fun g => (175, [(0, .ref 0), (1, .int 2)], [.ref 90, .int 2, .ref 19], g)) rfl ci_20 (sx_tK 11 (s' := (172, [(0, .ref 0), (1, .int 3)], [.ref 93, .ref 93, .int 3, .ref 19], c_262)) rfl (sx_tVr (r := f_X2_init [.ref 93] c_262) (s1 := fun g => (175, [(0, .ref 0), (1, .int 3)], [.ref 93, .int 3, .ref 19], g)) rfl ci_21 (sx_tK 11 (s' := (172, [(0, .ref 0), (1, .int 4)], [.ref 96, .ref 96, .int 4, .ref 19], c_271)) rfl (sx_tVr (r := f_X2_init [.ref 96] c_271) (s1 := fun g => (175, [(0, .ref 0), (1, .int 4)], [.ref 96, .int 4, .ref 19], g)) rfl ci_22 (sx_tE 7 rfl)))))))))))))))))))))))))))))))))))))))))))
set_option maxRecDepth 20000 in
theorem ci_24 : f_X6_init [.ref 99] c_280 = some (none, c_307) := by
  show sx_ev P_X6_init (0, [(0, .ref 99)], [], c_280) = _
  exact sx_tK 25 (s' := (49, [(0, .ref 99)], [.ref 105, .ref 99], c_291)) rfl (sx_tK 25 (s' := (99, [(0, .ref 99)], [], c_304)) rfl (sx_tE 10 rfl))
set_option maxRecDepth 20000 in
theorem ci_25 (L : Nat) (xs : Nat → Int32) : sx_ev (P_L_law L xs) (0, [(0, .float 0)], [], g0) = sx_ev (P_L_law L xs) (18, [(0, .float 0), (1, .ref 0), (2, .ref 99), (3, .int 0)], [], c_307) := sx_tK 2 (s' := (4, [(0, .float 0)], [.ref 0, .ref 0], c_1)) rfl (sx_tVr (r := f_X5_init [.ref 0] c_1) (s1 := fun g => (7, [(0, .float 0)], [.ref 0], g)) rfl ci_23 (sx_tK 3 (s' := (12, [(0, .float 0), (1, .ref 0)], [.ref 99, .ref 99], c_280)) rfl (sx_tVr (r := f_X6_init [.ref 99] c_280) (s1 := fun g => (15, [(0, .float 0), (1, .ref 0)], [.ref 99], g)) rfl ci_24 (sx_tK 3 (s' := (18, [(0, .float 0), (1, .ref 0), (2, .ref 99), (3, .int 0)], [], c_307)) rfl rfl))))
def ok_c (G : hp_G) : Prop := (∀ c k, (113 ≤ c ∨ 24 ≤ k) → G.1 c k = 0 ∧ G.2.2.1 c k = none) ∧ ∀ c k, G.2.1 c k = 0
theorem ok_z {G : hp_G} (h : ok_c G) (n n' : Nat) : ok_c (hz G.1 n 0, hz G.2.1 n 0, hz G.2.2.1 n none, n') := by
  refine ⟨fun c k hc => ?_, fun c k => ?_⟩
  · simp only [hz]
    by_cases q : c = n
    · simp [q]
    · simp [q, h.1 c k hc]
  · simp only [hz, h.2 c k]
    simp
theorem ok_i {G : hp_G} (h : ok_c G) {o j n : Nat} (x : Int32) (ho : o < 113 ∧ j < 24) : ok_c (hw G.1 o j x, G.2.1, G.2.2.1, n) := by
  refine ⟨fun c k hc => ⟨?_, (h.1 c k hc).2⟩, h.2⟩
  simp only [hw]
  by_cases q : c = o
  · by_cases q2 : k = j
    · omega
    · simp [q2, (h.1 c k hc).1]
  · simp [q, (h.1 c k hc).1]
theorem ok_r {G : hp_G} (h : ok_c G) {o j n : Nat} (x : Option Nat) (ho : o < 113 ∧ j < 24) : ok_c (G.1, G.2.1, hw G.2.2.1 o j x, n) := by
  refine ⟨fun c k hc => ⟨(h.1 c k hc).1, ?_⟩, h.2⟩
  simp only [hw]
  by_cases q : c = o
  · by_cases q2 : k = j
    · omega
    · simp [q2, (h.1 c k hc).2]
  · simp [q, (h.1 c k hc).2]
theorem ok_l {G : hp_G} (h : ok_c G) {o j n : Nat} : ok_c (G.1, hw G.2.1 o j 0, G.2.2.1, n) := by
  refine ⟨h.1, fun c k => ?_⟩
  simp only [hw, h.2 c k]
  simp
theorem ok_0 : ok_c g0 := ⟨fun _ _ _ => ⟨rfl, rfl⟩, fun _ _ => rfl⟩
theorem ok_1 : ok_c c_1 := ok_z ok_0 _ _
theorem ok_2 : ok_c c_2 := ok_z ok_1 _ _
theorem ok_3 : ok_c c_3 := ok_z ok_2 _ _
theorem ok_4 : ok_c c_4 := ok_r ok_3 _ (by decide)
theorem ok_5 : ok_c c_5 := ok_i ok_4 _ (by decide)
theorem ok_6 : ok_c c_6 := ok_z ok_5 _ _
theorem ok_7 : ok_c c_7 := ok_i ok_6 _ (by decide)
theorem ok_8 : ok_c c_8 := ok_i ok_7 _ (by decide)
theorem ok_9 : ok_c c_9 := ok_z ok_8 _ _
theorem ok_10 : ok_c c_10 := ok_r ok_9 _ (by decide)
theorem ok_11 : ok_c c_11 := ok_z ok_10 _ _
theorem ok_12 : ok_c c_12 := ok_r ok_11 _ (by decide)
theorem ok_13 : ok_c c_13 := ok_z ok_12 _ _
theorem ok_14 : ok_c c_14 := ok_r ok_13 _ (by decide)
theorem ok_15 : ok_c c_15 := ok_r ok_14 _ (by decide)
theorem ok_16 : ok_c c_16 := ok_i ok_15 _ (by decide)
theorem ok_17 : ok_c c_17 := ok_i ok_16 _ (by decide)
theorem ok_18 : ok_c c_18 := ok_i ok_17 _ (by decide)
theorem ok_19 : ok_c c_19 := ok_i ok_18 _ (by decide)
theorem ok_20 : ok_c c_20 := ok_i ok_19 _ (by decide)
theorem ok_21 : ok_c c_21 := ok_i ok_20 _ (by decide)
theorem ok_22 : ok_c c_22 := ok_r ok_21 _ (by decide)
theorem ok_23 : ok_c c_23 := ok_z ok_22 _ _
theorem ok_24 : ok_c c_24 := ok_i ok_23 _ (by decide)
theorem ok_25 : ok_c c_25 := ok_i ok_24 _ (by decide)
theorem ok_26 : ok_c c_26 := ok_z ok_25 _ _
theorem ok_27 : ok_c c_27 := ok_r ok_26 _ (by decide)
theorem ok_28 : ok_c c_28 := ok_z ok_27 _ _
theorem ok_29 : ok_c c_29 := ok_r ok_28 _ (by decide)
theorem ok_30 : ok_c c_30 := ok_z ok_29 _ _
theorem ok_31 : ok_c c_31 := ok_r ok_30 _ (by decide)
theorem ok_32 : ok_c c_32 := ok_r ok_31 _ (by decide)
theorem ok_33 : ok_c c_33 := ok_z ok_32 _ _
theorem ok_34 : ok_c c_34 := ok_i ok_33 _ (by decide)
theorem ok_35 : ok_c c_35 := ok_i ok_34 _ (by decide)
theorem ok_36 : ok_c c_36 := ok_i ok_35 _ (by decide)
theorem ok_37 : ok_c c_37 := ok_z ok_36 _ _
theorem ok_38 : ok_c c_38 := ok_r ok_37 _ (by decide)
theorem ok_39 : ok_c c_39 := ok_z ok_38 _ _
theorem ok_40 : ok_c c_40 := ok_r ok_39 _ (by decide)
theorem ok_41 : ok_c c_41 := ok_z ok_40 _ _
theorem ok_42 : ok_c c_42 := ok_r ok_41 _ (by decide)
theorem ok_43 : ok_c c_43 := ok_z ok_42 _ _
theorem ok_44 : ok_c c_44 := ok_r ok_43 _ (by decide)
theorem ok_45 : ok_c c_45 := ok_i ok_44 _ (by decide)
theorem ok_46 : ok_c c_46 := ok_r ok_45 _ (by decide)
theorem ok_47 : ok_c c_47 := ok_z ok_46 _ _
theorem ok_48 : ok_c c_48 := ok_r ok_47 _ (by decide)
theorem ok_49 : ok_c c_49 := ok_i ok_48 _ (by decide)
theorem ok_50 : ok_c c_50 := ok_z ok_49 _ _
theorem ok_51 : ok_c c_51 := ok_r ok_50 _ (by decide)
theorem ok_52 : ok_c c_52 := ok_z ok_51 _ _
theorem ok_53 : ok_c c_53 := ok_r ok_52 _ (by decide)
theorem ok_54 : ok_c c_54 := ok_z ok_53 _ _
theorem ok_55 : ok_c c_55 := ok_r ok_54 _ (by decide)
theorem ok_56 : ok_c c_56 := ok_i ok_55 _ (by decide)
theorem ok_57 : ok_c c_57 := ok_z ok_56 _ _
theorem ok_58 : ok_c c_58 := ok_z ok_57 _ _
theorem ok_59 : ok_c c_59 := ok_r ok_58 _ (by decide)
theorem ok_60 : ok_c c_60 := ok_z ok_59 _ _
theorem ok_61 : ok_c c_61 := ok_r ok_60 _ (by decide)
theorem ok_62 : ok_c c_62 := ok_i ok_61 _ (by decide)
theorem ok_63 : ok_c c_63 := ok_r ok_62 _ (by decide)
theorem ok_64 : ok_c c_64 := ok_z ok_63 _ _
theorem ok_65 : ok_c c_65 := ok_r ok_64 _ (by decide)
theorem ok_66 : ok_c c_66 := ok_l ok_65
theorem ok_67 : ok_c c_67 := ok_z ok_66 _ _
theorem ok_68 : ok_c c_68 := ok_i ok_67 _ (by decide)
theorem ok_69 : ok_c c_69 := ok_i ok_68 _ (by decide)
theorem ok_70 : ok_c c_70 := ok_i ok_69 _ (by decide)
theorem ok_71 : ok_c c_71 := ok_z ok_70 _ _
theorem ok_72 : ok_c c_72 := ok_r ok_71 _ (by decide)
theorem ok_73 : ok_c c_73 := ok_z ok_72 _ _
theorem ok_74 : ok_c c_74 := ok_r ok_73 _ (by decide)
theorem ok_75 : ok_c c_75 := ok_z ok_74 _ _
theorem ok_76 : ok_c c_76 := ok_r ok_75 _ (by decide)
theorem ok_77 : ok_c c_77 := ok_z ok_76 _ _
theorem ok_78 : ok_c c_78 := ok_r ok_77 _ (by decide)
theorem ok_79 : ok_c c_79 := ok_i ok_78 _ (by decide)
theorem ok_80 : ok_c c_80 := ok_r ok_79 _ (by decide)
theorem ok_81 : ok_c c_81 := ok_z ok_80 _ _
theorem ok_82 : ok_c c_82 := ok_i ok_81 _ (by decide)
theorem ok_83 : ok_c c_83 := ok_i ok_82 _ (by decide)
theorem ok_84 : ok_c c_84 := ok_i ok_83 _ (by decide)
theorem ok_85 : ok_c c_85 := ok_z ok_84 _ _
theorem ok_86 : ok_c c_86 := ok_r ok_85 _ (by decide)
theorem ok_87 : ok_c c_87 := ok_z ok_86 _ _
theorem ok_88 : ok_c c_88 := ok_r ok_87 _ (by decide)
theorem ok_89 : ok_c c_89 := ok_z ok_88 _ _
theorem ok_90 : ok_c c_90 := ok_r ok_89 _ (by decide)
theorem ok_91 : ok_c c_91 := ok_z ok_90 _ _
theorem ok_92 : ok_c c_92 := ok_r ok_91 _ (by decide)
theorem ok_93 : ok_c c_93 := ok_i ok_92 _ (by decide)
theorem ok_94 : ok_c c_94 := ok_r ok_93 _ (by decide)
theorem ok_95 : ok_c c_95 := ok_z ok_94 _ _
theorem ok_96 : ok_c c_96 := ok_i ok_95 _ (by decide)
theorem ok_97 : ok_c c_97 := ok_i ok_96 _ (by decide)
theorem ok_98 : ok_c c_98 := ok_i ok_97 _ (by decide)
theorem ok_99 : ok_c c_99 := ok_z ok_98 _ _
theorem ok_100 : ok_c c_100 := ok_r ok_99 _ (by decide)
theorem ok_101 : ok_c c_101 := ok_z ok_100 _ _
theorem ok_102 : ok_c c_102 := ok_r ok_101 _ (by decide)
theorem ok_103 : ok_c c_103 := ok_z ok_102 _ _
theorem ok_104 : ok_c c_104 := ok_r ok_103 _ (by decide)
theorem ok_105 : ok_c c_105 := ok_z ok_104 _ _
theorem ok_106 : ok_c c_106 := ok_r ok_105 _ (by decide)
theorem ok_107 : ok_c c_107 := ok_i ok_106 _ (by decide)
theorem ok_108 : ok_c c_108 := ok_r ok_107 _ (by decide)
theorem ok_109 : ok_c c_109 := ok_z ok_108 _ _
theorem ok_110 : ok_c c_110 := ok_i ok_109 _ (by decide)
theorem ok_111 : ok_c c_111 := ok_i ok_110 _ (by decide)
theorem ok_112 : ok_c c_112 := ok_i ok_111 _ (by decide)
theorem ok_113 : ok_c c_113 := ok_z ok_112 _ _
theorem ok_114 : ok_c c_114 := ok_r ok_113 _ (by decide)
theorem ok_115 : ok_c c_115 := ok_z ok_114 _ _
theorem ok_116 : ok_c c_116 := ok_r ok_115 _ (by decide)
theorem ok_117 : ok_c c_117 := ok_z ok_116 _ _
theorem ok_118 : ok_c c_118 := ok_r ok_117 _ (by decide)
theorem ok_119 : ok_c c_119 := ok_z ok_118 _ _
theorem ok_120 : ok_c c_120 := ok_r ok_119 _ (by decide)
theorem ok_121 : ok_c c_121 := ok_i ok_120 _ (by decide)
theorem ok_122 : ok_c c_122 := ok_r ok_121 _ (by decide)
theorem ok_123 : ok_c c_123 := ok_z ok_122 _ _
theorem ok_124 : ok_c c_124 := ok_i ok_123 _ (by decide)
theorem ok_125 : ok_c c_125 := ok_i ok_124 _ (by decide)
theorem ok_126 : ok_c c_126 := ok_i ok_125 _ (by decide)
theorem ok_127 : ok_c c_127 := ok_z ok_126 _ _
theorem ok_128 : ok_c c_128 := ok_r ok_127 _ (by decide)
theorem ok_129 : ok_c c_129 := ok_z ok_128 _ _
theorem ok_130 : ok_c c_130 := ok_r ok_129 _ (by decide)
theorem ok_131 : ok_c c_131 := ok_z ok_130 _ _
theorem ok_132 : ok_c c_132 := ok_r ok_131 _ (by decide)
theorem ok_133 : ok_c c_133 := ok_z ok_132 _ _
theorem ok_134 : ok_c c_134 := ok_r ok_133 _ (by decide)
theorem ok_135 : ok_c c_135 := ok_i ok_134 _ (by decide)
theorem ok_136 : ok_c c_136 := ok_r ok_135 _ (by decide)
theorem ok_137 : ok_c c_137 := ok_z ok_136 _ _
theorem ok_138 : ok_c c_138 := ok_i ok_137 _ (by decide)
theorem ok_139 : ok_c c_139 := ok_i ok_138 _ (by decide)
theorem ok_140 : ok_c c_140 := ok_i ok_139 _ (by decide)
theorem ok_141 : ok_c c_141 := ok_z ok_140 _ _
theorem ok_142 : ok_c c_142 := ok_r ok_141 _ (by decide)
theorem ok_143 : ok_c c_143 := ok_z ok_142 _ _
theorem ok_144 : ok_c c_144 := ok_r ok_143 _ (by decide)
theorem ok_145 : ok_c c_145 := ok_z ok_144 _ _
theorem ok_146 : ok_c c_146 := ok_r ok_145 _ (by decide)
theorem ok_147 : ok_c c_147 := ok_z ok_146 _ _
theorem ok_148 : ok_c c_148 := ok_r ok_147 _ (by decide)
theorem ok_149 : ok_c c_149 := ok_i ok_148 _ (by decide)
theorem ok_150 : ok_c c_150 := ok_r ok_149 _ (by decide)
theorem ok_151 : ok_c c_151 := ok_z ok_150 _ _
theorem ok_152 : ok_c c_152 := ok_i ok_151 _ (by decide)
theorem ok_153 : ok_c c_153 := ok_i ok_152 _ (by decide)
theorem ok_154 : ok_c c_154 := ok_i ok_153 _ (by decide)
theorem ok_155 : ok_c c_155 := ok_z ok_154 _ _
theorem ok_156 : ok_c c_156 := ok_r ok_155 _ (by decide)
theorem ok_157 : ok_c c_157 := ok_z ok_156 _ _
theorem ok_158 : ok_c c_158 := ok_r ok_157 _ (by decide)
theorem ok_159 : ok_c c_159 := ok_z ok_158 _ _
theorem ok_160 : ok_c c_160 := ok_r ok_159 _ (by decide)
theorem ok_161 : ok_c c_161 := ok_z ok_160 _ _
theorem ok_162 : ok_c c_162 := ok_r ok_161 _ (by decide)
theorem ok_163 : ok_c c_163 := ok_i ok_162 _ (by decide)
theorem ok_164 : ok_c c_164 := ok_r ok_163 _ (by decide)
theorem ok_165 : ok_c c_165 := ok_z ok_164 _ _
theorem ok_166 : ok_c c_166 := ok_i ok_165 _ (by decide)
theorem ok_167 : ok_c c_167 := ok_i ok_166 _ (by decide)
theorem ok_168 : ok_c c_168 := ok_i ok_167 _ (by decide)
theorem ok_169 : ok_c c_169 := ok_z ok_168 _ _
theorem ok_170 : ok_c c_170 := ok_r ok_169 _ (by decide)
theorem ok_171 : ok_c c_171 := ok_z ok_170 _ _
theorem ok_172 : ok_c c_172 := ok_r ok_171 _ (by decide)
theorem ok_173 : ok_c c_173 := ok_z ok_172 _ _
theorem ok_174 : ok_c c_174 := ok_r ok_173 _ (by decide)
theorem ok_175 : ok_c c_175 := ok_z ok_174 _ _
theorem ok_176 : ok_c c_176 := ok_r ok_175 _ (by decide)
theorem ok_177 : ok_c c_177 := ok_i ok_176 _ (by decide)
theorem ok_178 : ok_c c_178 := ok_r ok_177 _ (by decide)
theorem ok_179 : ok_c c_179 := ok_z ok_178 _ _
theorem ok_180 : ok_c c_180 := ok_i ok_179 _ (by decide)
theorem ok_181 : ok_c c_181 := ok_i ok_180 _ (by decide)
theorem ok_182 : ok_c c_182 := ok_i ok_181 _ (by decide)
theorem ok_183 : ok_c c_183 := ok_z ok_182 _ _
theorem ok_184 : ok_c c_184 := ok_r ok_183 _ (by decide)
theorem ok_185 : ok_c c_185 := ok_z ok_184 _ _
theorem ok_186 : ok_c c_186 := ok_r ok_185 _ (by decide)
theorem ok_187 : ok_c c_187 := ok_z ok_186 _ _
theorem ok_188 : ok_c c_188 := ok_r ok_187 _ (by decide)
theorem ok_189 : ok_c c_189 := ok_z ok_188 _ _
theorem ok_190 : ok_c c_190 := ok_r ok_189 _ (by decide)
theorem ok_191 : ok_c c_191 := ok_i ok_190 _ (by decide)
theorem ok_192 : ok_c c_192 := ok_r ok_191 _ (by decide)
theorem ok_193 : ok_c c_193 := ok_z ok_192 _ _
theorem ok_194 : ok_c c_194 := ok_i ok_193 _ (by decide)
theorem ok_195 : ok_c c_195 := ok_i ok_194 _ (by decide)
theorem ok_196 : ok_c c_196 := ok_i ok_195 _ (by decide)
theorem ok_197 : ok_c c_197 := ok_z ok_196 _ _
theorem ok_198 : ok_c c_198 := ok_r ok_197 _ (by decide)
theorem ok_199 : ok_c c_199 := ok_z ok_198 _ _
theorem ok_200 : ok_c c_200 := ok_r ok_199 _ (by decide)
theorem ok_201 : ok_c c_201 := ok_z ok_200 _ _
theorem ok_202 : ok_c c_202 := ok_r ok_201 _ (by decide)
theorem ok_203 : ok_c c_203 := ok_z ok_202 _ _
theorem ok_204 : ok_c c_204 := ok_r ok_203 _ (by decide)
theorem ok_205 : ok_c c_205 := ok_i ok_204 _ (by decide)
theorem ok_206 : ok_c c_206 := ok_r ok_205 _ (by decide)
theorem ok_207 : ok_c c_207 := ok_z ok_206 _ _
theorem ok_208 : ok_c c_208 := ok_i ok_207 _ (by decide)
theorem ok_209 : ok_c c_209 := ok_i ok_208 _ (by decide)
theorem ok_210 : ok_c c_210 := ok_i ok_209 _ (by decide)
theorem ok_211 : ok_c c_211 := ok_z ok_210 _ _
theorem ok_212 : ok_c c_212 := ok_r ok_211 _ (by decide)
theorem ok_213 : ok_c c_213 := ok_z ok_212 _ _
theorem ok_214 : ok_c c_214 := ok_r ok_213 _ (by decide)
theorem ok_215 : ok_c c_215 := ok_z ok_214 _ _
theorem ok_216 : ok_c c_216 := ok_r ok_215 _ (by decide)
theorem ok_217 : ok_c c_217 := ok_z ok_216 _ _
theorem ok_218 : ok_c c_218 := ok_r ok_217 _ (by decide)
theorem ok_219 : ok_c c_219 := ok_i ok_218 _ (by decide)
theorem ok_220 : ok_c c_220 := ok_r ok_219 _ (by decide)
theorem ok_221 : ok_c c_221 := ok_z ok_220 _ _
theorem ok_222 : ok_c c_222 := ok_i ok_221 _ (by decide)
theorem ok_223 : ok_c c_223 := ok_i ok_222 _ (by decide)
theorem ok_224 : ok_c c_224 := ok_i ok_223 _ (by decide)
theorem ok_225 : ok_c c_225 := ok_z ok_224 _ _
theorem ok_226 : ok_c c_226 := ok_r ok_225 _ (by decide)
theorem ok_227 : ok_c c_227 := ok_z ok_226 _ _
theorem ok_228 : ok_c c_228 := ok_r ok_227 _ (by decide)
theorem ok_229 : ok_c c_229 := ok_z ok_228 _ _
theorem ok_230 : ok_c c_230 := ok_r ok_229 _ (by decide)
theorem ok_231 : ok_c c_231 := ok_z ok_230 _ _
theorem ok_232 : ok_c c_232 := ok_r ok_231 _ (by decide)
theorem ok_233 : ok_c c_233 := ok_i ok_232 _ (by decide)
theorem ok_234 : ok_c c_234 := ok_r ok_233 _ (by decide)
theorem ok_235 : ok_c c_235 := ok_z ok_234 _ _
theorem ok_236 : ok_c c_236 := ok_i ok_235 _ (by decide)
theorem ok_237 : ok_c c_237 := ok_i ok_236 _ (by decide)
theorem ok_238 : ok_c c_238 := ok_i ok_237 _ (by decide)
theorem ok_239 : ok_c c_239 := ok_z ok_238 _ _
theorem ok_240 : ok_c c_240 := ok_r ok_239 _ (by decide)
theorem ok_241 : ok_c c_241 := ok_z ok_240 _ _
theorem ok_242 : ok_c c_242 := ok_r ok_241 _ (by decide)
theorem ok_243 : ok_c c_243 := ok_r ok_242 _ (by decide)
theorem ok_244 : ok_c c_244 := ok_z ok_243 _ _
theorem ok_245 : ok_c c_245 := ok_i ok_244 _ (by decide)
theorem ok_246 : ok_c c_246 := ok_i ok_245 _ (by decide)
theorem ok_247 : ok_c c_247 := ok_i ok_246 _ (by decide)
theorem ok_248 : ok_c c_248 := ok_z ok_247 _ _
theorem ok_249 : ok_c c_249 := ok_r ok_248 _ (by decide)
theorem ok_250 : ok_c c_250 := ok_z ok_249 _ _
theorem ok_251 : ok_c c_251 := ok_r ok_250 _ (by decide)
theorem ok_252 : ok_c c_252 := ok_r ok_251 _ (by decide)
theorem ok_253 : ok_c c_253 := ok_z ok_252 _ _
theorem ok_254 : ok_c c_254 := ok_i ok_253 _ (by decide)
theorem ok_255 : ok_c c_255 := ok_i ok_254 _ (by decide)
theorem ok_256 : ok_c c_256 := ok_i ok_255 _ (by decide)
theorem ok_257 : ok_c c_257 := ok_z ok_256 _ _
theorem ok_258 : ok_c c_258 := ok_r ok_257 _ (by decide)
theorem ok_259 : ok_c c_259 := ok_z ok_258 _ _
theorem ok_260 : ok_c c_260 := ok_r ok_259 _ (by decide)
theorem ok_261 : ok_c c_261 := ok_r ok_260 _ (by decide)
theorem ok_262 : ok_c c_262 := ok_z ok_261 _ _
theorem ok_263 : ok_c c_263 := ok_i ok_262 _ (by decide)
theorem ok_264 : ok_c c_264 := ok_i ok_263 _ (by decide)
theorem ok_265 : ok_c c_265 := ok_i ok_264 _ (by decide)
theorem ok_266 : ok_c c_266 := ok_z ok_265 _ _
theorem ok_267 : ok_c c_267 := ok_r ok_266 _ (by decide)
theorem ok_268 : ok_c c_268 := ok_z ok_267 _ _
theorem ok_269 : ok_c c_269 := ok_r ok_268 _ (by decide)
theorem ok_270 : ok_c c_270 := ok_r ok_269 _ (by decide)
theorem ok_271 : ok_c c_271 := ok_z ok_270 _ _
theorem ok_272 : ok_c c_272 := ok_i ok_271 _ (by decide)
theorem ok_273 : ok_c c_273 := ok_i ok_272 _ (by decide)
theorem ok_274 : ok_c c_274 := ok_i ok_273 _ (by decide)
theorem ok_275 : ok_c c_275 := ok_z ok_274 _ _
theorem ok_276 : ok_c c_276 := ok_r ok_275 _ (by decide)
theorem ok_277 : ok_c c_277 := ok_z ok_276 _ _
theorem ok_278 : ok_c c_278 := ok_r ok_277 _ (by decide)
theorem ok_279 : ok_c c_279 := ok_r ok_278 _ (by decide)
theorem ok_280 : ok_c c_280 := ok_z ok_279 _ _
theorem ok_281 : ok_c c_281 := ok_z ok_280 _ _
theorem ok_282 : ok_c c_282 := ok_r ok_281 _ (by decide)
theorem ok_283 : ok_c c_283 := ok_z ok_282 _ _
theorem ok_284 : ok_c c_284 := ok_r ok_283 _ (by decide)
theorem ok_285 : ok_c c_285 := ok_z ok_284 _ _
theorem ok_286 : ok_c c_286 := ok_r ok_285 _ (by decide)
theorem ok_287 : ok_c c_287 := ok_z ok_286 _ _
theorem ok_288 : ok_c c_288 := ok_r ok_287 _ (by decide)
theorem ok_289 : ok_c c_289 := ok_z ok_288 _ _
theorem ok_290 : ok_c c_290 := ok_r ok_289 _ (by decide)
theorem ok_291 : ok_c c_291 := ok_z ok_290 _ _
theorem ok_292 : ok_c c_292 := ok_r ok_291 _ (by decide)
theorem ok_293 : ok_c c_293 := ok_z ok_292 _ _
theorem ok_294 : ok_c c_294 := ok_r ok_293 _ (by decide)
theorem ok_295 : ok_c c_295 := ok_z ok_294 _ _
theorem ok_296 : ok_c c_296 := ok_r ok_295 _ (by decide)
theorem ok_297 : ok_c c_297 := ok_z ok_296 _ _
theorem ok_298 : ok_c c_298 := ok_r ok_297 _ (by decide)
theorem ok_299 : ok_c c_299 := ok_z ok_298 _ _
theorem ok_300 : ok_c c_300 := ok_r ok_299 _ (by decide)
theorem ok_301 : ok_c c_301 := ok_z ok_300 _ _
theorem ok_302 : ok_c c_302 := ok_r ok_301 _ (by decide)
theorem ok_303 : ok_c c_303 := ok_z ok_302 _ _
theorem ok_304 : ok_c c_304 := ok_r ok_303 _ (by decide)
theorem ok_305 : ok_c c_305 := ok_z ok_304 _ _
theorem ok_306 : ok_c c_306 := ok_r ok_305 _ (by decide)
theorem ok_307 : ok_c c_307 := ok_i ok_306 _ (by decide)
def mI : Nat → Nat → Int32 := hw (hw (hw (fun _ _ => 0) 3 1 2) 7 1 2) 101 1 2
def pm0 : Nat → Option Nat := fun k => bif Nat.ble k 9 then some (24 + 5 * k) else none
theorem fz_0 : ∀ c, c < 16 → ∀ k, k < 24 → c_307.1 (0 + c) k = mI (0 + c) k ∧ c_307.2.2.1 (0 + c) k = xm pm0 (0 + c) k := by decide +kernel
theorem fz_1 : ∀ c, c < 16 → ∀ k, k < 24 → c_307.1 (16 + c) k = mI (16 + c) k ∧ c_307.2.2.1 (16 + c) k = xm pm0 (16 + c) k := by decide +kernel
theorem fz_2 : ∀ c, c < 16 → ∀ k, k < 24 → c_307.1 (32 + c) k = mI (32 + c) k ∧ c_307.2.2.1 (32 + c) k = xm pm0 (32 + c) k := by decide +kernel
theorem fz_3 : ∀ c, c < 16 → ∀ k, k < 24 → c_307.1 (48 + c) k = mI (48 + c) k ∧ c_307.2.2.1 (48 + c) k = xm pm0 (48 + c) k := by decide +kernel
theorem fz_4 : ∀ c, c < 16 → ∀ k, k < 24 → c_307.1 (64 + c) k = mI (64 + c) k ∧ c_307.2.2.1 (64 + c) k = xm pm0 (64 + c) k := by decide +kernel
theorem fz_5 : ∀ c, c < 16 → ∀ k, k < 24 → c_307.1 (80 + c) k = mI (80 + c) k ∧ c_307.2.2.1 (80 + c) k = xm pm0 (80 + c) k := by decide +kernel
theorem fz_6 : ∀ c, c < 16 → ∀ k, k < 24 → c_307.1 (96 + c) k = mI (96 + c) k ∧ c_307.2.2.1 (96 + c) k = xm pm0 (96 + c) k := by decide +kernel
theorem fz_7 : ∀ c, c < 1 → ∀ k, k < 24 → c_307.1 (112 + c) k = mI (112 + c) k ∧ c_307.2.2.1 (112 + c) k = xm pm0 (112 + c) k := by decide +kernel
theorem fz : ∀ c k, c < 113 → k < 24 → c_307.1 c k = mI c k ∧ c_307.2.2.1 c k = xm pm0 c k := by
  intro c k hc hk
  rcases Nat.lt_or_ge c 16 with q | q0
  · have := fz_0 (c - 0) (by omega) k hk
    rw [show 0 + (c - 0) = c by omega] at this
    exact this
  rcases Nat.lt_or_ge c 32 with q | q16
  · have := fz_1 (c - 16) (by omega) k hk
    rw [show 16 + (c - 16) = c by omega] at this
    exact this
  rcases Nat.lt_or_ge c 48 with q | q32
  · have := fz_2 (c - 32) (by omega) k hk
    rw [show 32 + (c - 32) = c by omega] at this
    exact this
  rcases Nat.lt_or_ge c 64 with q | q48
  · have := fz_3 (c - 48) (by omega) k hk
    rw [show 48 + (c - 48) = c by omega] at this
    exact this
  rcases Nat.lt_or_ge c 80 with q | q64
  · have := fz_4 (c - 64) (by omega) k hk
    rw [show 64 + (c - 64) = c by omega] at this
    exact this
  rcases Nat.lt_or_ge c 96 with q | q80
  · have := fz_5 (c - 80) (by omega) k hk
    rw [show 80 + (c - 80) = c by omega] at this
    exact this
  rcases Nat.lt_or_ge c 112 with q | q96
  · have := fz_6 (c - 96) (by omega) k hk
    rw [show 96 + (c - 96) = c by omega] at this
    exact this
  rcases Nat.lt_or_ge c 113 with q | q112
  · have := fz_7 (c - 112) (by omega) k hk
    rw [show 112 + (c - 112) = c by omega] at this
    exact this
  omega
theorem xm0_out : ∀ c k, (113 ≤ c ∨ 24 ≤ k) → xm pm0 c k = none := by
  intro c k h
  have hble : ∀ a, a ≤ 23 → 24 ≤ k → Nat.ble k a = false := by
    intro a ha hk
    cases q : Nat.ble k a with
    | false => rfl
    | true => exact absurd (Nat.le_of_ble_eq_true q) (by omega)
  have hbeq : ∀ a, a ≤ 23 → 24 ≤ k → Nat.beq k a = false := by
    intro a ha hk
    cases q : Nat.beq k a with
    | false => rfl
    | true => exact absurd (Nat.eq_of_beq_eq_true q) (by omega)
  rcases h with h | h
  · have hb : Nat.beq c 16 = false := by
      cases q : Nat.beq c 16 with
      | false => rfl
      | true => exact absurd (Nat.eq_of_beq_eq_true q) (by omega)
    have hs : hp_sh c = (1, 8) := by
      have hb : ∀ m, m ≤ 113 → Nat.blt c m = false := by
        intro m hm
        cases hq : Nat.blt c m with
        | false => rfl
        | true => exact absurd (Nat.le_of_ble_eq_true hq) (by omega)
      simp [hp_sh, hb]
    simp [xm, hb, xn, hs]
  · simp only [xm, pm0, hble 9 (by omega) h, cond_false]
    cases Nat.beq c 16 with
    | true => rfl
    | false =>
      simp only [cond_false, xn]
      split <;> simp [hble, hbeq, h, xm5, xm6]
theorem init_G : c_307 = hG mI (fun _ _ => 0) pm0 := by
  have hml : c_307.2.1 = fun _ _ => 0 := by funext c k; exact ok_307.2 c k
  have hmi : c_307.1 = mI := by
    funext c k
    by_cases h : c < 113 ∧ k < 24
    · exact (fz c k h.1 h.2).1
    · have h' : 113 ≤ c ∨ 24 ≤ k := by omega
      rw [(ok_307.1 c k h').1]
      have : ¬ (c = 101 ∧ k = 1) ∧ ¬ (c = 7 ∧ k = 1) ∧ ¬ (c = 3 ∧ k = 1) := by omega
      simp only [mI, hw]
      split
      · split
        · omega
        · split
          · omega
          · split
            · omega
            · rfl
      · split
        · split
          · omega
          · split
            · omega
            · rfl
        · split
          · split
            · omega
            · rfl
          · rfl
  have hmr : c_307.2.2.1 = xm pm0 := by
    funext c k
    by_cases h : c < 113 ∧ k < 24
    · exact (fz c k h.1 h.2).2
    · have h' : 113 ≤ c ∨ 24 ≤ k := by omega
      rw [(ok_307.1 c k h').2, xm0_out c k h']
  show (c_307.1, c_307.2.1, c_307.2.2.1, 113) = _
  rw [hmi, hml, hmr]
  rfl
