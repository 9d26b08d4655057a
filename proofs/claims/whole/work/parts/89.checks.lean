/-! Every instruction of the tables is what the class files have. Ours, written by ops.py -/
theorem ok_0 : o_0.all (fun q => q_okB q_mt 0 q.1 q.2) = true := by decide +kernel
theorem ok_1 : o_1.all (fun q => q_okB q_mt 1 q.1 q.2) = true := by decide +kernel
theorem ok_2 : o_2.all (fun q => q_okB q_mt 2 q.1 q.2) = true := by decide +kernel
theorem ok_3 : o_3.all (fun q => q_okB q_mt 3 q.1 q.2) = true := by decide +kernel
theorem ok_4 : o_4.all (fun q => q_okB q_mt 4 q.1 q.2) = true := by decide +kernel
theorem ok_5 : o_5.all (fun q => q_okB q_mt 5 q.1 q.2) = true := by decide +kernel
theorem ok_6 : o_6.all (fun q => q_okB q_mt 6 q.1 q.2) = true := by decide +kernel
theorem ok_7 : o_7.all (fun q => q_okB q_mt 7 q.1 q.2) = true := by decide +kernel
theorem ok_8 : o_8.all (fun q => q_okB q_mt 8 q.1 q.2) = true := by decide +kernel
theorem ok_9 : o_9.all (fun q => q_okB q_mt 9 q.1 q.2) = true := by decide +kernel
theorem ok_10 : o_10.all (fun q => q_okB q_mt 10 q.1 q.2) = true := by decide +kernel
theorem ok_11 : o_11.all (fun q => q_okB q_mt 11 q.1 q.2) = true := by decide +kernel
theorem ok_12 : o_12.all (fun q => q_okB q_mt 12 q.1 q.2) = true := by decide +kernel
theorem ok_13 : o_13.all (fun q => q_okB q_mt 13 q.1 q.2) = true := by decide +kernel
theorem ok_14 : o_14.all (fun q => q_okB q_mt 14 q.1 q.2) = true := by decide +kernel
theorem ok_15 : o_15.all (fun q => q_okB q_mt 15 q.1 q.2) = true := by decide +kernel
theorem ok_16 : o_16.all (fun q => q_okB q_mt 16 q.1 q.2) = true := by decide +kernel
theorem ok_17 : o_17.all (fun q => q_okB q_mt 17 q.1 q.2) = true := by decide +kernel
theorem ok_18 : o_18.all (fun q => q_okB q_mt 18 q.1 q.2) = true := by decide +kernel
theorem ok_19 : o_19.all (fun q => q_okB q_mt 19 q.1 q.2) = true := by decide +kernel
theorem ok_20 : o_20.all (fun q => q_okB q_mt 20 q.1 q.2) = true := by decide +kernel
theorem ok_21 : o_21.all (fun q => q_okB q_mt 21 q.1 q.2) = true := by decide +kernel
theorem ok_22 : o_22.all (fun q => q_okB q_mt 22 q.1 q.2) = true := by decide +kernel
theorem ok_23 : o_23.all (fun q => q_okB q_mt 23 q.1 q.2) = true := by decide +kernel
theorem ok_24 : o_24.all (fun q => q_okB q_mt 24 q.1 q.2) = true := by decide +kernel
theorem ok_25 : o_25.all (fun q => q_okB q_mt 25 q.1 q.2) = true := by decide +kernel
theorem ok_26 : o_26.all (fun q => q_okB q_mt 26 q.1 q.2) = true := by decide +kernel
theorem ok_27 : o_27.all (fun q => q_okB q_mt 27 q.1 q.2) = true := by decide +kernel
theorem ok_28 : o_28.all (fun q => q_okB q_mt 28 q.1 q.2) = true := by decide +kernel
theorem ok_29 : o_29.all (fun q => q_okB q_mt 29 q.1 q.2) = true := by decide +kernel
theorem ok_30 : o_30.all (fun q => q_okB q_mt 30 q.1 q.2) = true := by decide +kernel
theorem ok_31 : o_31.all (fun q => q_okB q_mt 31 q.1 q.2) = true := by decide +kernel
theorem ok_32 : o_32.all (fun q => q_okB q_mt 32 q.1 q.2) = true := by decide +kernel
theorem ok_33 : o_33.all (fun q => q_okB q_mt 33 q.1 q.2) = true := by decide +kernel
theorem ok_34 : o_34.all (fun q => q_okB q_mt 34 q.1 q.2) = true := by decide +kernel
theorem ok_35 : o_35.all (fun q => q_okB q_mt 35 q.1 q.2) = true := by decide +kernel
theorem ok_36 : o_36.all (fun q => q_okB q_mt 36 q.1 q.2) = true := by decide +kernel
theorem ok_37 : o_37.all (fun q => q_okB q_mt 37 q.1 q.2) = true := by decide +kernel
theorem ok_38 : o_38.all (fun q => q_okB q_mt 38 q.1 q.2) = true := by decide +kernel
theorem ok_39 : o_39.all (fun q => q_okB q_mt 39 q.1 q.2) = true := by decide +kernel
theorem ok_40 : o_40.all (fun q => q_okB q_mt 40 q.1 q.2) = true := by decide +kernel
theorem ok_41 : o_41.all (fun q => q_okB q_mt 41 q.1 q.2) = true := by decide +kernel
theorem ok_42 : o_42.all (fun q => q_okB q_mt 42 q.1 q.2) = true := by decide +kernel
theorem ok_43 : o_43.all (fun q => q_okB q_mt 43 q.1 q.2) = true := by decide +kernel
theorem ok_44 : o_44.all (fun q => q_okB q_mt 44 q.1 q.2) = true := by decide +kernel
theorem ok_45 : o_45.all (fun q => q_okB q_mt 45 q.1 q.2) = true := by decide +kernel
theorem ok_46 : o_46.all (fun q => q_okB q_mt 46 q.1 q.2) = true := by decide +kernel
theorem ok_47 : o_47.all (fun q => q_okB q_mt 47 q.1 q.2) = true := by decide +kernel
theorem ok_48 : o_48.all (fun q => q_okB q_mt 48 q.1 q.2) = true := by decide +kernel
theorem ok_49 : o_49.all (fun q => q_okB q_mt 49 q.1 q.2) = true := by decide +kernel
theorem ok_50 : o_50.all (fun q => q_okB q_mt 50 q.1 q.2) = true := by decide +kernel
theorem ok_51 : o_51.all (fun q => q_okB q_mt 51 q.1 q.2) = true := by decide +kernel
theorem ok_52 : o_52.all (fun q => q_okB q_mt 52 q.1 q.2) = true := by decide +kernel
theorem ok_53 : o_53.all (fun q => q_okB q_mt 53 q.1 q.2) = true := by decide +kernel
theorem ok_54 : o_54.all (fun q => q_okB q_mt 54 q.1 q.2) = true := by decide +kernel
theorem ok_55 : o_55.all (fun q => q_okB q_mt 55 q.1 q.2) = true := by decide +kernel
theorem ok_56 : o_56.all (fun q => q_okB q_mt 56 q.1 q.2) = true := by decide +kernel
theorem ok_57 : o_57.all (fun q => q_okB q_mt 57 q.1 q.2) = true := by decide +kernel
theorem ok_58 : o_58.all (fun q => q_okB q_mt 58 q.1 q.2) = true := by decide +kernel
theorem ok_59 : o_59.all (fun q => q_okB q_mt 59 q.1 q.2) = true := by decide +kernel
theorem ok_60 : o_60.all (fun q => q_okB q_mt 60 q.1 q.2) = true := by decide +kernel
theorem ok_61 : o_61.all (fun q => q_okB q_mt 61 q.1 q.2) = true := by decide +kernel
theorem ok_62 : o_62.all (fun q => q_okB q_mt 62 q.1 q.2) = true := by decide +kernel
theorem ok_63 : o_63.all (fun q => q_okB q_mt 63 q.1 q.2) = true := by decide +kernel
theorem ok_64 : o_64.all (fun q => q_okB q_mt 64 q.1 q.2) = true := by decide +kernel
theorem ok_65 : o_65.all (fun q => q_okB q_mt 65 q.1 q.2) = true := by decide +kernel
theorem ok_66 : o_66.all (fun q => q_okB q_mt 66 q.1 q.2) = true := by decide +kernel
theorem ok_67 : o_67.all (fun q => q_okB q_mt 67 q.1 q.2) = true := by decide +kernel
theorem ok_68 : o_68.all (fun q => q_okB q_mt 68 q.1 q.2) = true := by decide +kernel
theorem ok_69 : o_69.all (fun q => q_okB q_mt 69 q.1 q.2) = true := by decide +kernel
theorem ok_70 : o_70.all (fun q => q_okB q_mt 70 q.1 q.2) = true := by decide +kernel
theorem ok_71 : o_71.all (fun q => q_okB q_mt 71 q.1 q.2) = true := by decide +kernel
theorem ok_72 : o_72.all (fun q => q_okB q_mt 72 q.1 q.2) = true := by decide +kernel
theorem ok_73 : o_73.all (fun q => q_okB q_mt 73 q.1 q.2) = true := by decide +kernel
theorem ok_74 : o_74.all (fun q => q_okB q_mt 74 q.1 q.2) = true := by decide +kernel
theorem ok_75 : o_75.all (fun q => q_okB q_mt 75 q.1 q.2) = true := by decide +kernel
theorem ok_76 : o_76.all (fun q => q_okB q_mt 76 q.1 q.2) = true := by decide +kernel
theorem ok_77 : o_77.all (fun q => q_okB q_mt 77 q.1 q.2) = true := by decide +kernel
theorem ok_78 : o_78.all (fun q => q_okB q_mt 78 q.1 q.2) = true := by decide +kernel
theorem ok_79 : o_79.all (fun q => q_okB q_mt 79 q.1 q.2) = true := by decide +kernel
theorem ok_80 : o_80.all (fun q => q_okB q_mt 80 q.1 q.2) = true := by decide +kernel
theorem ok_81 : o_81.all (fun q => q_okB q_mt 81 q.1 q.2) = true := by decide +kernel
theorem ok_82 : o_82.all (fun q => q_okB q_mt 82 q.1 q.2) = true := by decide +kernel
theorem ok_83 : o_83.all (fun q => q_okB q_mt 83 q.1 q.2) = true := by decide +kernel
theorem ok_84 : o_84.all (fun q => q_okB q_mt 84 q.1 q.2) = true := by decide +kernel
theorem ok_85 : o_85.all (fun q => q_okB q_mt 85 q.1 q.2) = true := by decide +kernel
theorem ok_86 : o_86.all (fun q => q_okB q_mt 86 q.1 q.2) = true := by decide +kernel
theorem ok_87 : o_87.all (fun q => q_okB q_mt 87 q.1 q.2) = true := by decide +kernel
theorem ok_88 : o_88.all (fun q => q_okB q_mt 88 q.1 q.2) = true := by decide +kernel
theorem ok_89 : o_89.all (fun q => q_okB q_mt 89 q.1 q.2) = true := by decide +kernel
theorem ok_90 : o_90.all (fun q => q_okB q_mt 90 q.1 q.2) = true := by decide +kernel
theorem ok_91 : o_91.all (fun q => q_okB q_mt 91 q.1 q.2) = true := by decide +kernel
theorem ok_92 : o_92.all (fun q => q_okB q_mt 92 q.1 q.2) = true := by decide +kernel
theorem ok_93 : o_93.all (fun q => q_okB q_mt 93 q.1 q.2) = true := by decide +kernel
theorem ok_94 : o_94.all (fun q => q_okB q_mt 94 q.1 q.2) = true := by decide +kernel
theorem ok_95 : o_95.all (fun q => q_okB q_mt 95 q.1 q.2) = true := by decide +kernel
theorem ok_96 : o_96.all (fun q => q_okB q_mt 96 q.1 q.2) = true := by decide +kernel
theorem ok_97 : o_97.all (fun q => q_okB q_mt 97 q.1 q.2) = true := by decide +kernel
theorem ok_98 : o_98.all (fun q => q_okB q_mt 98 q.1 q.2) = true := by decide +kernel
theorem ok_99 : o_99.all (fun q => q_okB q_mt 99 q.1 q.2) = true := by decide +kernel
theorem ok_100 : o_100.all (fun q => q_okB q_mt 100 q.1 q.2) = true := by decide +kernel
theorem ok_101 : o_101.all (fun q => q_okB q_mt 101 q.1 q.2) = true := by decide +kernel
theorem ok_102 : o_102.all (fun q => q_okB q_mt 102 q.1 q.2) = true := by decide +kernel
theorem ok_103 : o_103.all (fun q => q_okB q_mt 103 q.1 q.2) = true := by decide +kernel
theorem ok_104 : o_104.all (fun q => q_okB q_mt 104 q.1 q.2) = true := by decide +kernel
theorem ok_105 : o_105.all (fun q => q_okB q_mt 105 q.1 q.2) = true := by decide +kernel
theorem ok_106 : o_106.all (fun q => q_okB q_mt 106 q.1 q.2) = true := by decide +kernel
theorem ok_107 : o_107.all (fun q => q_okB q_mt 107 q.1 q.2) = true := by decide +kernel
theorem ok_108 : o_108.all (fun q => q_okB q_mt 108 q.1 q.2) = true := by decide +kernel
theorem ok_109 : o_109.all (fun q => q_okB q_mt 109 q.1 q.2) = true := by decide +kernel
theorem ok_110 : o_110.all (fun q => q_okB q_mt 110 q.1 q.2) = true := by decide +kernel
theorem ok_111 : o_111.all (fun q => q_okB q_mt 111 q.1 q.2) = true := by decide +kernel
theorem ok_112 : o_112.all (fun q => q_okB q_mt 112 q.1 q.2) = true := by decide +kernel
theorem ok_113 : o_113.all (fun q => q_okB q_mt 113 q.1 q.2) = true := by decide +kernel
theorem ok_114 : o_114.all (fun q => q_okB q_mt 114 q.1 q.2) = true := by decide +kernel
theorem ok_115 : o_115.all (fun q => q_okB q_mt 115 q.1 q.2) = true := by decide +kernel
theorem ok_116 : o_116.all (fun q => q_okB q_mt 116 q.1 q.2) = true := by decide +kernel
theorem ok_117 : o_117.all (fun q => q_okB q_mt 117 q.1 q.2) = true := by decide +kernel
theorem ok_118 : o_118.all (fun q => q_okB q_mt 118 q.1 q.2) = true := by decide +kernel
theorem ok_119 : o_119.all (fun q => q_okB q_mt 119 q.1 q.2) = true := by decide +kernel
theorem ok_120 : o_120.all (fun q => q_okB q_mt 120 q.1 q.2) = true := by decide +kernel
theorem ok_121 : o_121.all (fun q => q_okB q_mt 121 q.1 q.2) = true := by decide +kernel
theorem ok_122 : o_122.all (fun q => q_okB q_mt 122 q.1 q.2) = true := by decide +kernel
theorem ok_123 : o_123.all (fun q => q_okB q_mt 123 q.1 q.2) = true := by decide +kernel
theorem ok_124 : o_124.all (fun q => q_okB q_mt 124 q.1 q.2) = true := by decide +kernel
theorem ok_125 : o_125.all (fun q => q_okB q_mt 125 q.1 q.2) = true := by decide +kernel
theorem ok_126 : o_126.all (fun q => q_okB q_mt 126 q.1 q.2) = true := by decide +kernel
theorem ok_127 : o_127.all (fun q => q_okB q_mt 127 q.1 q.2) = true := by decide +kernel
theorem ok_128 : o_128.all (fun q => q_okB q_mt 128 q.1 q.2) = true := by decide +kernel
theorem ok_129 : o_129.all (fun q => q_okB q_mt 129 q.1 q.2) = true := by decide +kernel
theorem ok_130 : o_130.all (fun q => q_okB q_mt 130 q.1 q.2) = true := by decide +kernel
theorem ok_131 : o_131.all (fun q => q_okB q_mt 131 q.1 q.2) = true := by decide +kernel
theorem ok_132 : o_132.all (fun q => q_okB q_mt 132 q.1 q.2) = true := by decide +kernel
theorem ok_133 : o_133.all (fun q => q_okB q_mt 133 q.1 q.2) = true := by decide +kernel
theorem ok_134 : o_134.all (fun q => q_okB q_mt 134 q.1 q.2) = true := by decide +kernel
theorem ok_135 : o_135.all (fun q => q_okB q_mt 135 q.1 q.2) = true := by decide +kernel
theorem ok_136 : o_136.all (fun q => q_okB q_mt 136 q.1 q.2) = true := by decide +kernel
theorem ok_137 : o_137.all (fun q => q_okB q_mt 137 q.1 q.2) = true := by decide +kernel
theorem ok_138 : o_138.all (fun q => q_okB q_mt 138 q.1 q.2) = true := by decide +kernel
theorem ok_139 : o_139.all (fun q => q_okB q_mt 139 q.1 q.2) = true := by decide +kernel
theorem ok_140 : o_140.all (fun q => q_okB q_mt 140 q.1 q.2) = true := by decide +kernel
theorem all_cut {α : Type} {f : α → Bool} {l : List α} {k : Nat} (h1 : (l.take k).all f = true) (h2 : (l.drop k).all f = true) : l.all f = true := by
  rw [← List.take_append_drop k l, List.all_append, h1, h2]
  rfl
theorem ok_141_0 : ((o_141.drop 0).take 48).all (fun q => q_okB q_mt 141 q.1 q.2) = true := by decide +kernel
theorem ok_141_1 : ((o_141.drop 48).take 48).all (fun q => q_okB q_mt 141 q.1 q.2) = true := by decide +kernel
theorem ok_141_2 : ((o_141.drop 96).take 48).all (fun q => q_okB q_mt 141 q.1 q.2) = true := by decide +kernel
theorem ok_141_3 : ((o_141.drop 144).take 48).all (fun q => q_okB q_mt 141 q.1 q.2) = true := by decide +kernel
theorem ok_141_4 : ((o_141.drop 192).take 48).all (fun q => q_okB q_mt 141 q.1 q.2) = true := by decide +kernel
theorem ok_141_5 : ((o_141.drop 240).take 48).all (fun q => q_okB q_mt 141 q.1 q.2) = true := by decide +kernel
theorem ok_141_6 : ((o_141.drop 288).take 48).all (fun q => q_okB q_mt 141 q.1 q.2) = true := by decide +kernel
theorem ok_141_7 : ((o_141.drop 336).take 48).all (fun q => q_okB q_mt 141 q.1 q.2) = true := by decide +kernel
theorem ok_141_8 : ((o_141.drop 384).take 48).all (fun q => q_okB q_mt 141 q.1 q.2) = true := by decide +kernel
theorem ok_141_9 : ((o_141.drop 432).take 48).all (fun q => q_okB q_mt 141 q.1 q.2) = true := by decide +kernel
theorem ok_141_10 : ((o_141.drop 480).take 48).all (fun q => q_okB q_mt 141 q.1 q.2) = true := by decide +kernel
theorem ok_141_11 : ((o_141.drop 528).take 48).all (fun q => q_okB q_mt 141 q.1 q.2) = true := by decide +kernel
theorem ok_141_12 : ((o_141.drop 576).take 48).all (fun q => q_okB q_mt 141 q.1 q.2) = true := by decide +kernel
theorem ok_141_13 : ((o_141.drop 624).take 48).all (fun q => q_okB q_mt 141 q.1 q.2) = true := by decide +kernel
theorem ok_141_14 : ((o_141.drop 672).take 48).all (fun q => q_okB q_mt 141 q.1 q.2) = true := by decide +kernel
theorem ok_141_15 : ((o_141.drop 720).take 48).all (fun q => q_okB q_mt 141 q.1 q.2) = true := by decide +kernel
theorem ok_141_16 : ((o_141.drop 768).take 48).all (fun q => q_okB q_mt 141 q.1 q.2) = true := by decide +kernel
theorem ok_141_17 : ((o_141.drop 816).take 48).all (fun q => q_okB q_mt 141 q.1 q.2) = true := by decide +kernel
theorem ok_141_18 : ((o_141.drop 864).take 48).all (fun q => q_okB q_mt 141 q.1 q.2) = true := by decide +kernel
theorem ok_141_19 : ((o_141.drop 912).take 48).all (fun q => q_okB q_mt 141 q.1 q.2) = true := by decide +kernel
theorem ok_141_d20 : (o_141.drop 960).all (fun q => q_okB q_mt 141 q.1 q.2) = true := by decide +kernel
theorem ok_141_d19 : (o_141.drop 912).all (fun q => q_okB q_mt 141 q.1 q.2) = true := all_cut (k := 48) ok_141_19 (by rw [List.drop_drop]; exact ok_141_d20)
theorem ok_141_d18 : (o_141.drop 864).all (fun q => q_okB q_mt 141 q.1 q.2) = true := all_cut (k := 48) ok_141_18 (by rw [List.drop_drop]; exact ok_141_d19)
theorem ok_141_d17 : (o_141.drop 816).all (fun q => q_okB q_mt 141 q.1 q.2) = true := all_cut (k := 48) ok_141_17 (by rw [List.drop_drop]; exact ok_141_d18)
theorem ok_141_d16 : (o_141.drop 768).all (fun q => q_okB q_mt 141 q.1 q.2) = true := all_cut (k := 48) ok_141_16 (by rw [List.drop_drop]; exact ok_141_d17)
theorem ok_141_d15 : (o_141.drop 720).all (fun q => q_okB q_mt 141 q.1 q.2) = true := all_cut (k := 48) ok_141_15 (by rw [List.drop_drop]; exact ok_141_d16)
theorem ok_141_d14 : (o_141.drop 672).all (fun q => q_okB q_mt 141 q.1 q.2) = true := all_cut (k := 48) ok_141_14 (by rw [List.drop_drop]; exact ok_141_d15)
theorem ok_141_d13 : (o_141.drop 624).all (fun q => q_okB q_mt 141 q.1 q.2) = true := all_cut (k := 48) ok_141_13 (by rw [List.drop_drop]; exact ok_141_d14)
theorem ok_141_d12 : (o_141.drop 576).all (fun q => q_okB q_mt 141 q.1 q.2) = true := all_cut (k := 48) ok_141_12 (by rw [List.drop_drop]; exact ok_141_d13)
theorem ok_141_d11 : (o_141.drop 528).all (fun q => q_okB q_mt 141 q.1 q.2) = true := all_cut (k := 48) ok_141_11 (by rw [List.drop_drop]; exact ok_141_d12)
theorem ok_141_d10 : (o_141.drop 480).all (fun q => q_okB q_mt 141 q.1 q.2) = true := all_cut (k := 48) ok_141_10 (by rw [List.drop_drop]; exact ok_141_d11)
theorem ok_141_d9 : (o_141.drop 432).all (fun q => q_okB q_mt 141 q.1 q.2) = true := all_cut (k := 48) ok_141_9 (by rw [List.drop_drop]; exact ok_141_d10)
theorem ok_141_d8 : (o_141.drop 384).all (fun q => q_okB q_mt 141 q.1 q.2) = true := all_cut (k := 48) ok_141_8 (by rw [List.drop_drop]; exact ok_141_d9)
theorem ok_141_d7 : (o_141.drop 336).all (fun q => q_okB q_mt 141 q.1 q.2) = true := all_cut (k := 48) ok_141_7 (by rw [List.drop_drop]; exact ok_141_d8)
theorem ok_141_d6 : (o_141.drop 288).all (fun q => q_okB q_mt 141 q.1 q.2) = true := all_cut (k := 48) ok_141_6 (by rw [List.drop_drop]; exact ok_141_d7)
theorem ok_141_d5 : (o_141.drop 240).all (fun q => q_okB q_mt 141 q.1 q.2) = true := all_cut (k := 48) ok_141_5 (by rw [List.drop_drop]; exact ok_141_d6)
theorem ok_141_d4 : (o_141.drop 192).all (fun q => q_okB q_mt 141 q.1 q.2) = true := all_cut (k := 48) ok_141_4 (by rw [List.drop_drop]; exact ok_141_d5)
theorem ok_141_d3 : (o_141.drop 144).all (fun q => q_okB q_mt 141 q.1 q.2) = true := all_cut (k := 48) ok_141_3 (by rw [List.drop_drop]; exact ok_141_d4)
theorem ok_141_d2 : (o_141.drop 96).all (fun q => q_okB q_mt 141 q.1 q.2) = true := all_cut (k := 48) ok_141_2 (by rw [List.drop_drop]; exact ok_141_d3)
theorem ok_141_d1 : (o_141.drop 48).all (fun q => q_okB q_mt 141 q.1 q.2) = true := all_cut (k := 48) ok_141_1 (by rw [List.drop_drop]; exact ok_141_d2)
theorem ok_141_d0 : (o_141.drop 0).all (fun q => q_okB q_mt 141 q.1 q.2) = true := all_cut (k := 48) ok_141_0 (by rw [List.drop_drop]; exact ok_141_d1)
theorem ok_141 : o_141.all (fun q => q_okB q_mt 141 q.1 q.2) = true := ok_141_d0
theorem q_prg_ok (k : Nat) : (q_prg.getD k []).all (fun q => q_okB q_mt k q.1 q.2) = true := by
  match k with
  | 0 => exact ok_0
  | 1 => exact ok_1
  | 2 => exact ok_2
  | 3 => exact ok_3
  | 4 => exact ok_4
  | 5 => exact ok_5
  | 6 => exact ok_6
  | 7 => exact ok_7
  | 8 => exact ok_8
  | 9 => exact ok_9
  | 10 => exact ok_10
  | 11 => exact ok_11
  | 12 => exact ok_12
  | 13 => exact ok_13
  | 14 => exact ok_14
  | 15 => exact ok_15
  | 16 => exact ok_16
  | 17 => exact ok_17
  | 18 => exact ok_18
  | 19 => exact ok_19
  | 20 => exact ok_20
  | 21 => exact ok_21
  | 22 => exact ok_22
  | 23 => exact ok_23
  | 24 => exact ok_24
  | 25 => exact ok_25
  | 26 => exact ok_26
  | 27 => exact ok_27
  | 28 => exact ok_28
  | 29 => exact ok_29
  | 30 => exact ok_30
  | 31 => exact ok_31
  | 32 => exact ok_32
  | 33 => exact ok_33
  | 34 => exact ok_34
  | 35 => exact ok_35
  | 36 => exact ok_36
  | 37 => exact ok_37
  | 38 => exact ok_38
  | 39 => exact ok_39
  | 40 => exact ok_40
  | 41 => exact ok_41
  | 42 => exact ok_42
  | 43 => exact ok_43
  | 44 => exact ok_44
  | 45 => exact ok_45
  | 46 => exact ok_46
  | 47 => exact ok_47
  | 48 => exact ok_48
  | 49 => exact ok_49
  | 50 => exact ok_50
  | 51 => exact ok_51
  | 52 => exact ok_52
  | 53 => exact ok_53
  | 54 => exact ok_54
  | 55 => exact ok_55
  | 56 => exact ok_56
  | 57 => exact ok_57
  | 58 => exact ok_58
  | 59 => exact ok_59
  | 60 => exact ok_60
  | 61 => exact ok_61
  | 62 => exact ok_62
  | 63 => exact ok_63
  | 64 => exact ok_64
  | 65 => exact ok_65
  | 66 => exact ok_66
  | 67 => exact ok_67
  | 68 => exact ok_68
  | 69 => exact ok_69
  | 70 => exact ok_70
  | 71 => exact ok_71
  | 72 => exact ok_72
  | 73 => exact ok_73
  | 74 => exact ok_74
  | 75 => exact ok_75
  | 76 => exact ok_76
  | 77 => exact ok_77
  | 78 => exact ok_78
  | 79 => exact ok_79
  | 80 => exact ok_80
  | 81 => exact ok_81
  | 82 => exact ok_82
  | 83 => exact ok_83
  | 84 => exact ok_84
  | 85 => exact ok_85
  | 86 => exact ok_86
  | 87 => exact ok_87
  | 88 => exact ok_88
  | 89 => exact ok_89
  | 90 => exact ok_90
  | 91 => exact ok_91
  | 92 => exact ok_92
  | 93 => exact ok_93
  | 94 => exact ok_94
  | 95 => exact ok_95
  | 96 => exact ok_96
  | 97 => exact ok_97
  | 98 => exact ok_98
  | 99 => exact ok_99
  | 100 => exact ok_100
  | 101 => exact ok_101
  | 102 => exact ok_102
  | 103 => exact ok_103
  | 104 => exact ok_104
  | 105 => exact ok_105
  | 106 => exact ok_106
  | 107 => exact ok_107
  | 108 => exact ok_108
  | 109 => exact ok_109
  | 110 => exact ok_110
  | 111 => exact ok_111
  | 112 => exact ok_112
  | 113 => exact ok_113
  | 114 => exact ok_114
  | 115 => exact ok_115
  | 116 => exact ok_116
  | 117 => exact ok_117
  | 118 => exact ok_118
  | 119 => exact ok_119
  | 120 => exact ok_120
  | 121 => exact ok_121
  | 122 => exact ok_122
  | 123 => exact ok_123
  | 124 => exact ok_124
  | 125 => exact ok_125
  | 126 => exact ok_126
  | 127 => exact ok_127
  | 128 => exact ok_128
  | 129 => exact ok_129
  | 130 => exact ok_130
  | 131 => exact ok_131
  | 132 => exact ok_132
  | 133 => exact ok_133
  | 134 => exact ok_134
  | 135 => exact ok_135
  | 136 => exact ok_136
  | 137 => exact ok_137
  | 138 => exact ok_138
  | 139 => exact ok_139
  | 140 => exact ok_140
  | 141 => exact ok_141
  | k + 142 => rfl
theorem q_pr_ok : ∀ k pc o, q_pr k pc = some o → q_okB q_mt k pc o = true := fun k _ _ h => List.all_eq_true.mp (q_prg_ok k) _ (q_fd_in h)
theorem q_mt_pl (k : Nat) : plainName (q_mt k).1.cls = true := by
  have h : q_mtl.all (fun r => plainName r.1.cls) = true := by decide +kernel
  unfold q_mt
  rw [List.getD_eq_getElem?_getD]
  cases hk : q_mtl[k]? with
  | none => decide
  | some r => exact List.all_eq_true.mp h r (List.mem_of_getElem? hk)
