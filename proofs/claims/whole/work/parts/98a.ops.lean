/-! LAYER 3: the law: its operations, one by one (gen/gen_law.py). -/
theorem oL_352 : opOk 352 [(1, false), (2, false), (3, false), (4, false), (5, false)] 13 17 = true := by decide +kernel
theorem oL_415 : opOk 415 [(1, false)] 18 22 = true := by decide +kernel
theorem oL_438 : opOk 438 [] 23 27 = true := by decide +kernel
theorem oL_451 : opOk 451 [(1, false)] 28 31 = true := by decide +kernel
theorem oL_474 : opOk 474 [(1, false)] 32 35 = true := by decide +kernel
theorem oL_497 : opOk 497 [(1, false), (2, false)] 36 40 = true := by decide +kernel
theorem oL_530 : opOk 530 [(1, false), (2, true)] 41 45 = true := by decide +kernel
theorem oL_579 : opOk 579 [(1, false)] 46 49 = true := by decide +kernel
theorem oL_602 : opOk 602 [(1, false)] 50 53 = true := by decide +kernel
theorem oL_625 : opOk 625 [] 54 57 = true := by decide +kernel
theorem oL_638 : opOk 638 [(1, false), (2, false)] 58 61 = true := by decide +kernel
theorem oL_671 : opOk 671 [] 62 65 = true := by decide +kernel
theorem oL_684 : opOk 684 [(1, false), (2, false)] 66 70 = true := by decide +kernel
theorem oL_717 : opOk 717 [(1, false)] 71 74 = true := by decide +kernel
theorem oL_740 : opOk 740 [(1, false), (2, false), (3, false)] 75 79 = true := by decide +kernel
theorem oL_783 : opOk 783 [(1, false)] 80 84 = true := by decide +kernel
theorem oL_806 : opOk 806 [(1, false)] 85 88 = true := by decide +kernel
theorem oL_829 : opOk 829 [] 89 92 = true := by decide +kernel
theorem oL_842 : opOk 842 [(1, false)] 93 96 = true := by decide +kernel
theorem oL_865 : opOk 865 [(1, false)] 97 100 = true := by decide +kernel
theorem oL_888 : opOk 888 [(1, false)] 101 104 = true := by decide +kernel
theorem oL_911 : opOk 911 [(1, false)] 105 108 = true := by decide +kernel
theorem oL_934 : opOk 934 [(1, false)] 109 112 = true := by decide +kernel
theorem oL_957 : opOk 957 [(1, false), (2, false)] 113 116 = true := by decide +kernel
theorem oL_990 : opOk 990 [(1, false), (2, false)] 117 120 = true := by decide +kernel
theorem oL_1023 : opOk 1023 [(1, false), (2, false), (3, false)] 121 124 = true := by decide +kernel
theorem oL_1066 : opOk 1066 [(1, false)] 125 128 = true := by decide +kernel
theorem oL_1089 : opOk 1089 [(1, false)] 129 132 = true := by decide +kernel
theorem oL_1112 : opOk 1112 [(1, false)] 133 136 = true := by decide +kernel
theorem oL_1135 : opOk 1135 [(1, false)] 137 140 = true := by decide +kernel
theorem oL_1158 : opOk 1158 [(1, false), (2, false)] 141 144 = true := by decide +kernel
theorem oL_1191 : opOk 1191 [] 145 148 = true := by decide +kernel
theorem oL_1204 : opOk 1204 [(1, false), (2, false)] 149 152 = true := by decide +kernel
theorem oL_1237 : opOk 1237 [(1, false)] 153 156 = true := by decide +kernel
theorem oL_1260 : opOk 1260 [(1, false), (2, false)] 157 160 = true := by decide +kernel
theorem oL_1293 : opOk 1293 [(1, false), (2, false)] 161 164 = true := by decide +kernel
theorem oL_1326 : opOk 1326 [(1, false), (2, false), (3, false), (4, false)] 165 169 = true := by decide +kernel
theorem oL_1379 : opOk 1379 [(1, false)] 170 173 = true := by decide +kernel
