abbrev gw_K : Type := (FieldType × Nat) ⊕ ((FieldType × List Nat) ⊕ (Nat × List (Option Nat)))
def gw_sh0 : List gw_K := [.inr (.inr (8, [some 2, some 4, some 6, some 17, some 22, some 26, some 36, some 44, some 34, some 35, none, none, none, none])), .inr (.inr (9, [some 140, some 141, none, some 142, some 143, some 144, some 145, none, some 146, none, none, some 147, none, some 148, some 149, some 150, some 151, none, some 152, none, some 153, some 154, some 155, some 156, some 157, some 158, some 159, some 160, some 161, some 162, none, none, none, none, none, some 163, none, some 164, some 165, some 166, some 167, some 168, some 169, some 170, some 171, some 172, none])), .inr (.inr (5, [some 3, none, none])), .inl (.int, 47), .inr (.inr (5, [some 5, none, none])), .inl (.int, 47), .inr (.inr (6, [some 7, some 11, some 16, none, none])), .inr (.inr (4, [some 8, some 9, some 10, none, none])), .inl (.int, 8), .inl (.int, 8), .inl (.int, 8), .inr (.inr (0, [some 12, some 13, some 14, some 15, none])), .inl (.int, 16), .inl (.int, 16), .inl (.int, 16), .inl (.int, 16), .inl (.int, 8), .inr (.inr (2, [some 18, some 19, some 20, some 21, none, none])), .inl (.int, 8), .inl (.int, 8), .inl (.int, 64), .inl (.int, 256), .inr (.inr (7, [some 23, some 24, some 25, none])), .inl (.int, 8), .inl (.int, 8), .inl (.int, 8), .inr (.inr (1, [some 27, some 32, some 33])), .inr (.inl (.array .int, [28, 29, 30, 31])), .inl (.int, 60), .inl (.int, 60), .inl (.int, 60), .inl (.int, 60), .inl (.int, 4), .inl (.int, 4), .inr (.inl (.object "BreathSold$State", [52, 60, 68, 76, 84, 92, 100, 108, 116, 124, 132])), .inl (.int, 128), .inr (.inr (3, [some 37, some 38, some 39, some 40, some 41, some 42, some 43, none, none, none, none, none, none])), .inl (.int, 8), .inl (.int, 8), .inl (.int, 8), .inl (.int, 8), .inl (.int, 8), .inl (.int, 8), .inl (.int, 8), .inr (.inr (3, [some 45, some 46, some 47, some 48, some 49, some 50, some 51, none, none, none, none, none, none]))]
def gw_sh1 : List gw_K := [.inl (.int, 8), .inl (.int, 8), .inl (.int, 8), .inl (.int, 8), .inl (.int, 8), .inl (.int, 8), .inl (.int, 8), .inr (.inr (3, [some 53, some 54, some 55, some 56, some 57, some 58, some 59, none, none, none, none, none, none])), .inl (.int, 8), .inl (.int, 8), .inl (.int, 8), .inl (.int, 8), .inl (.int, 8), .inl (.int, 8), .inl (.int, 8), .inr (.inr (3, [some 61, some 62, some 63, some 64, some 65, some 66, some 67, none, none, none, none, none, none])), .inl (.int, 8), .inl (.int, 8), .inl (.int, 8), .inl (.int, 8), .inl (.int, 8), .inl (.int, 8), .inl (.int, 8), .inr (.inr (3, [some 69, some 70, some 71, some 72, some 73, some 74, some 75, none, none, none, none, none, none])), .inl (.int, 8), .inl (.int, 8), .inl (.int, 8), .inl (.int, 8), .inl (.int, 8), .inl (.int, 8), .inl (.int, 8), .inr (.inr (3, [some 77, some 78, some 79, some 80, some 81, some 82, some 83, none, none, none, none, none, none])), .inl (.int, 8), .inl (.int, 8), .inl (.int, 8), .inl (.int, 8), .inl (.int, 8), .inl (.int, 8), .inl (.int, 8), .inr (.inr (3, [some 85, some 86, some 87, some 88, some 89, some 90, some 91, none, none, none, none, none, none])), .inl (.int, 8), .inl (.int, 8), .inl (.int, 8), .inl (.int, 8), .inl (.int, 8)]
def gw_sh2 : List gw_K := [.inl (.int, 8), .inl (.int, 8), .inr (.inr (3, [some 93, some 94, some 95, some 96, some 97, some 98, some 99, none, none, none, none, none, none])), .inl (.int, 8), .inl (.int, 8), .inl (.int, 8), .inl (.int, 8), .inl (.int, 8), .inl (.int, 8), .inl (.int, 8), .inr (.inr (3, [some 101, some 102, some 103, some 104, some 105, some 106, some 107, none, none, none, none, none, none])), .inl (.int, 8), .inl (.int, 8), .inl (.int, 8), .inl (.int, 8), .inl (.int, 8), .inl (.int, 8), .inl (.int, 8), .inr (.inr (3, [some 109, some 110, some 111, some 112, some 113, some 114, some 115, none, none, none, none, none, none])), .inl (.int, 8), .inl (.int, 8), .inl (.int, 8), .inl (.int, 8), .inl (.int, 8), .inl (.int, 8), .inl (.int, 8), .inr (.inr (3, [some 117, some 118, some 119, some 120, some 121, some 122, some 123, none, none, none, none, none, none])), .inl (.int, 8), .inl (.int, 8), .inl (.int, 8), .inl (.int, 8), .inl (.int, 8), .inl (.int, 8), .inl (.int, 8), .inr (.inr (3, [some 125, some 126, some 127, some 128, some 129, some 130, some 131, none, none, none, none, none, none])), .inl (.int, 8), .inl (.int, 8), .inl (.int, 8), .inl (.int, 8), .inl (.int, 8), .inl (.int, 8), .inl (.int, 8), .inr (.inr (3, [some 133, some 134, some 135, some 136, some 137, some 138, some 139, none, none, none, none, none, none])), .inl (.int, 8), .inl (.int, 8)]
def gw_sh3 : List gw_K := [.inl (.int, 8), .inl (.int, 8), .inl (.int, 8), .inl (.int, 8), .inl (.int, 8), .inl (.int, 2), .inl (.int, 94), .inl (.int, 9), .inl (.int, 9), .inl (.int, 9), .inl (.int, 9), .inl (.int, 8), .inl (.int, 8), .inl (.int, 16), .inl (.int, 16), .inl (.int, 16), .inl (.int, 16), .inl (.int, 3), .inl (.int, 40), .inl (.int, 40), .inl (.int, 64), .inl (.int, 8), .inl (.int, 8), .inl (.boolean, 8), .inl (.boolean, 40), .inl (.boolean, 16), .inl (.int, 8), .inl (.int, 8), .inl (.int, 2304), .inl (.int, 8), .inl (.int, 8), .inl (.int, 8), .inl (.int, 128), .inl (.boolean, 4), .inl (.int, 4), .inl (.int, 4), .inl (.int, 240), .inl (.int, 60)]
/-- the cells of the world, by number: arrays, rows of references, objects -/
def gw_sh : List gw_K := gw_sh0 ++ (gw_sh1 ++ (gw_sh2 ++ (gw_sh3)))
def gw_k (k : Nat) : Option gw_K := gw_sh[k]?
theorem gw_len : gw_sh.length = 173 := by decide +kernel
theorem gk_0 : gw_k 0 = some (.inr (.inr (8, [some 2, some 4, some 6, some 17, some 22, some 26, some 36, some 44, some 34, some 35, none, none, none, none]))) := rfl
theorem gk_1 : gw_k 1 = some (.inr (.inr (9, [some 140, some 141, none, some 142, some 143, some 144, some 145, none, some 146, none, none, some 147, none, some 148, some 149, some 150, some 151, none, some 152, none, some 153, some 154, some 155, some 156, some 157, some 158, some 159, some 160, some 161, some 162, none, none, none, none, none, some 163, none, some 164, some 165, some 166, some 167, some 168, some 169, some 170, some 171, some 172, none]))) := rfl
theorem gk_2 : gw_k 2 = some (.inr (.inr (5, [some 3, none, none]))) := rfl
theorem gk_3 : gw_k 3 = some (.inl (.int, 47)) := rfl
theorem gk_4 : gw_k 4 = some (.inr (.inr (5, [some 5, none, none]))) := rfl
theorem gk_5 : gw_k 5 = some (.inl (.int, 47)) := rfl
theorem gk_6 : gw_k 6 = some (.inr (.inr (6, [some 7, some 11, some 16, none, none]))) := rfl
theorem gk_7 : gw_k 7 = some (.inr (.inr (4, [some 8, some 9, some 10, none, none]))) := rfl
theorem gk_8 : gw_k 8 = some (.inl (.int, 8)) := rfl
theorem gk_9 : gw_k 9 = some (.inl (.int, 8)) := rfl
theorem gk_10 : gw_k 10 = some (.inl (.int, 8)) := rfl
theorem gk_11 : gw_k 11 = some (.inr (.inr (0, [some 12, some 13, some 14, some 15, none]))) := rfl
theorem gk_12 : gw_k 12 = some (.inl (.int, 16)) := rfl
theorem gk_13 : gw_k 13 = some (.inl (.int, 16)) := rfl
theorem gk_14 : gw_k 14 = some (.inl (.int, 16)) := rfl
theorem gk_15 : gw_k 15 = some (.inl (.int, 16)) := rfl
theorem gk_16 : gw_k 16 = some (.inl (.int, 8)) := rfl
theorem gk_17 : gw_k 17 = some (.inr (.inr (2, [some 18, some 19, some 20, some 21, none, none]))) := rfl
theorem gk_18 : gw_k 18 = some (.inl (.int, 8)) := rfl
theorem gk_19 : gw_k 19 = some (.inl (.int, 8)) := rfl
theorem gk_20 : gw_k 20 = some (.inl (.int, 64)) := rfl
theorem gk_21 : gw_k 21 = some (.inl (.int, 256)) := rfl
theorem gk_22 : gw_k 22 = some (.inr (.inr (7, [some 23, some 24, some 25, none]))) := rfl
theorem gk_23 : gw_k 23 = some (.inl (.int, 8)) := rfl
theorem gk_24 : gw_k 24 = some (.inl (.int, 8)) := rfl
theorem gk_25 : gw_k 25 = some (.inl (.int, 8)) := rfl
theorem gk_26 : gw_k 26 = some (.inr (.inr (1, [some 27, some 32, some 33]))) := rfl
theorem gk_27 : gw_k 27 = some (.inr (.inl (.array .int, [28, 29, 30, 31]))) := rfl
theorem gk_28 : gw_k 28 = some (.inl (.int, 60)) := rfl
theorem gk_29 : gw_k 29 = some (.inl (.int, 60)) := rfl
theorem gk_30 : gw_k 30 = some (.inl (.int, 60)) := rfl
theorem gk_31 : gw_k 31 = some (.inl (.int, 60)) := rfl
theorem gk_32 : gw_k 32 = some (.inl (.int, 4)) := rfl
theorem gk_33 : gw_k 33 = some (.inl (.int, 4)) := rfl
theorem gk_34 : gw_k 34 = some (.inr (.inl (.object "BreathSold$State", [52, 60, 68, 76, 84, 92, 100, 108, 116, 124, 132]))) := rfl
theorem gk_35 : gw_k 35 = some (.inl (.int, 128)) := rfl
theorem gk_36 : gw_k 36 = some (.inr (.inr (3, [some 37, some 38, some 39, some 40, some 41, some 42, some 43, none, none, none, none, none, none]))) := rfl
theorem gk_37 : gw_k 37 = some (.inl (.int, 8)) := rfl
theorem gk_38 : gw_k 38 = some (.inl (.int, 8)) := rfl
theorem gk_39 : gw_k 39 = some (.inl (.int, 8)) := rfl
theorem gk_40 : gw_k 40 = some (.inl (.int, 8)) := rfl
theorem gk_41 : gw_k 41 = some (.inl (.int, 8)) := rfl
theorem gk_42 : gw_k 42 = some (.inl (.int, 8)) := rfl
theorem gk_43 : gw_k 43 = some (.inl (.int, 8)) := rfl
theorem gk_44 : gw_k 44 = some (.inr (.inr (3, [some 45, some 46, some 47, some 48, some 49, some 50, some 51, none, none, none, none, none, none]))) := rfl
theorem gk_45 : gw_k 45 = some (.inl (.int, 8)) := rfl
theorem gk_46 : gw_k 46 = some (.inl (.int, 8)) := rfl
theorem gk_47 : gw_k 47 = some (.inl (.int, 8)) := rfl
theorem gk_48 : gw_k 48 = some (.inl (.int, 8)) := rfl
theorem gk_49 : gw_k 49 = some (.inl (.int, 8)) := rfl
theorem gk_50 : gw_k 50 = some (.inl (.int, 8)) := rfl
theorem gk_51 : gw_k 51 = some (.inl (.int, 8)) := rfl
theorem gk_52 : gw_k 52 = some (.inr (.inr (3, [some 53, some 54, some 55, some 56, some 57, some 58, some 59, none, none, none, none, none, none]))) := rfl
theorem gk_53 : gw_k 53 = some (.inl (.int, 8)) := rfl
theorem gk_54 : gw_k 54 = some (.inl (.int, 8)) := rfl
theorem gk_55 : gw_k 55 = some (.inl (.int, 8)) := rfl
theorem gk_56 : gw_k 56 = some (.inl (.int, 8)) := rfl
theorem gk_57 : gw_k 57 = some (.inl (.int, 8)) := rfl
theorem gk_58 : gw_k 58 = some (.inl (.int, 8)) := rfl
theorem gk_59 : gw_k 59 = some (.inl (.int, 8)) := rfl
theorem gk_60 : gw_k 60 = some (.inr (.inr (3, [some 61, some 62, some 63, some 64, some 65, some 66, some 67, none, none, none, none, none, none]))) := rfl
theorem gk_61 : gw_k 61 = some (.inl (.int, 8)) := rfl
theorem gk_62 : gw_k 62 = some (.inl (.int, 8)) := rfl
theorem gk_63 : gw_k 63 = some (.inl (.int, 8)) := rfl
theorem gk_64 : gw_k 64 = some (.inl (.int, 8)) := rfl
theorem gk_65 : gw_k 65 = some (.inl (.int, 8)) := rfl
theorem gk_66 : gw_k 66 = some (.inl (.int, 8)) := rfl
theorem gk_67 : gw_k 67 = some (.inl (.int, 8)) := rfl
theorem gk_68 : gw_k 68 = some (.inr (.inr (3, [some 69, some 70, some 71, some 72, some 73, some 74, some 75, none, none, none, none, none, none]))) := rfl
theorem gk_69 : gw_k 69 = some (.inl (.int, 8)) := rfl
theorem gk_70 : gw_k 70 = some (.inl (.int, 8)) := rfl
theorem gk_71 : gw_k 71 = some (.inl (.int, 8)) := rfl
theorem gk_72 : gw_k 72 = some (.inl (.int, 8)) := rfl
theorem gk_73 : gw_k 73 = some (.inl (.int, 8)) := rfl
theorem gk_74 : gw_k 74 = some (.inl (.int, 8)) := rfl
theorem gk_75 : gw_k 75 = some (.inl (.int, 8)) := rfl
theorem gk_76 : gw_k 76 = some (.inr (.inr (3, [some 77, some 78, some 79, some 80, some 81, some 82, some 83, none, none, none, none, none, none]))) := rfl
theorem gk_77 : gw_k 77 = some (.inl (.int, 8)) := rfl
theorem gk_78 : gw_k 78 = some (.inl (.int, 8)) := rfl
theorem gk_79 : gw_k 79 = some (.inl (.int, 8)) := rfl
theorem gk_80 : gw_k 80 = some (.inl (.int, 8)) := rfl
theorem gk_81 : gw_k 81 = some (.inl (.int, 8)) := rfl
theorem gk_82 : gw_k 82 = some (.inl (.int, 8)) := rfl
theorem gk_83 : gw_k 83 = some (.inl (.int, 8)) := rfl
theorem gk_84 : gw_k 84 = some (.inr (.inr (3, [some 85, some 86, some 87, some 88, some 89, some 90, some 91, none, none, none, none, none, none]))) := rfl
theorem gk_85 : gw_k 85 = some (.inl (.int, 8)) := rfl
theorem gk_86 : gw_k 86 = some (.inl (.int, 8)) := rfl
theorem gk_87 : gw_k 87 = some (.inl (.int, 8)) := rfl
theorem gk_88 : gw_k 88 = some (.inl (.int, 8)) := rfl
theorem gk_89 : gw_k 89 = some (.inl (.int, 8)) := rfl
theorem gk_90 : gw_k 90 = some (.inl (.int, 8)) := rfl
theorem gk_91 : gw_k 91 = some (.inl (.int, 8)) := rfl
theorem gk_92 : gw_k 92 = some (.inr (.inr (3, [some 93, some 94, some 95, some 96, some 97, some 98, some 99, none, none, none, none, none, none]))) := rfl
theorem gk_93 : gw_k 93 = some (.inl (.int, 8)) := rfl
theorem gk_94 : gw_k 94 = some (.inl (.int, 8)) := rfl
theorem gk_95 : gw_k 95 = some (.inl (.int, 8)) := rfl
theorem gk_96 : gw_k 96 = some (.inl (.int, 8)) := rfl
theorem gk_97 : gw_k 97 = some (.inl (.int, 8)) := rfl
theorem gk_98 : gw_k 98 = some (.inl (.int, 8)) := rfl
theorem gk_99 : gw_k 99 = some (.inl (.int, 8)) := rfl
theorem gk_100 : gw_k 100 = some (.inr (.inr (3, [some 101, some 102, some 103, some 104, some 105, some 106, some 107, none, none, none, none, none, none]))) := rfl
theorem gk_101 : gw_k 101 = some (.inl (.int, 8)) := rfl
theorem gk_102 : gw_k 102 = some (.inl (.int, 8)) := rfl
theorem gk_103 : gw_k 103 = some (.inl (.int, 8)) := rfl
theorem gk_104 : gw_k 104 = some (.inl (.int, 8)) := rfl
theorem gk_105 : gw_k 105 = some (.inl (.int, 8)) := rfl
theorem gk_106 : gw_k 106 = some (.inl (.int, 8)) := rfl
theorem gk_107 : gw_k 107 = some (.inl (.int, 8)) := rfl
theorem gk_108 : gw_k 108 = some (.inr (.inr (3, [some 109, some 110, some 111, some 112, some 113, some 114, some 115, none, none, none, none, none, none]))) := rfl
theorem gk_109 : gw_k 109 = some (.inl (.int, 8)) := rfl
theorem gk_110 : gw_k 110 = some (.inl (.int, 8)) := rfl
theorem gk_111 : gw_k 111 = some (.inl (.int, 8)) := rfl
theorem gk_112 : gw_k 112 = some (.inl (.int, 8)) := rfl
theorem gk_113 : gw_k 113 = some (.inl (.int, 8)) := rfl
theorem gk_114 : gw_k 114 = some (.inl (.int, 8)) := rfl
theorem gk_115 : gw_k 115 = some (.inl (.int, 8)) := rfl
theorem gk_116 : gw_k 116 = some (.inr (.inr (3, [some 117, some 118, some 119, some 120, some 121, some 122, some 123, none, none, none, none, none, none]))) := rfl
theorem gk_117 : gw_k 117 = some (.inl (.int, 8)) := rfl
theorem gk_118 : gw_k 118 = some (.inl (.int, 8)) := rfl
theorem gk_119 : gw_k 119 = some (.inl (.int, 8)) := rfl
theorem gk_120 : gw_k 120 = some (.inl (.int, 8)) := rfl
theorem gk_121 : gw_k 121 = some (.inl (.int, 8)) := rfl
theorem gk_122 : gw_k 122 = some (.inl (.int, 8)) := rfl
theorem gk_123 : gw_k 123 = some (.inl (.int, 8)) := rfl
theorem gk_124 : gw_k 124 = some (.inr (.inr (3, [some 125, some 126, some 127, some 128, some 129, some 130, some 131, none, none, none, none, none, none]))) := rfl
theorem gk_125 : gw_k 125 = some (.inl (.int, 8)) := rfl
theorem gk_126 : gw_k 126 = some (.inl (.int, 8)) := rfl
theorem gk_127 : gw_k 127 = some (.inl (.int, 8)) := rfl
theorem gk_128 : gw_k 128 = some (.inl (.int, 8)) := rfl
theorem gk_129 : gw_k 129 = some (.inl (.int, 8)) := rfl
theorem gk_130 : gw_k 130 = some (.inl (.int, 8)) := rfl
theorem gk_131 : gw_k 131 = some (.inl (.int, 8)) := rfl
theorem gk_132 : gw_k 132 = some (.inr (.inr (3, [some 133, some 134, some 135, some 136, some 137, some 138, some 139, none, none, none, none, none, none]))) := rfl
theorem gk_133 : gw_k 133 = some (.inl (.int, 8)) := rfl
theorem gk_134 : gw_k 134 = some (.inl (.int, 8)) := rfl
theorem gk_135 : gw_k 135 = some (.inl (.int, 8)) := rfl
theorem gk_136 : gw_k 136 = some (.inl (.int, 8)) := rfl
theorem gk_137 : gw_k 137 = some (.inl (.int, 8)) := rfl
theorem gk_138 : gw_k 138 = some (.inl (.int, 8)) := rfl
theorem gk_139 : gw_k 139 = some (.inl (.int, 8)) := rfl
theorem gk_140 : gw_k 140 = some (.inl (.int, 2)) := rfl
theorem gk_141 : gw_k 141 = some (.inl (.int, 94)) := rfl
theorem gk_142 : gw_k 142 = some (.inl (.int, 9)) := rfl
theorem gk_143 : gw_k 143 = some (.inl (.int, 9)) := rfl
theorem gk_144 : gw_k 144 = some (.inl (.int, 9)) := rfl
theorem gk_145 : gw_k 145 = some (.inl (.int, 9)) := rfl
theorem gk_146 : gw_k 146 = some (.inl (.int, 8)) := rfl
theorem gk_147 : gw_k 147 = some (.inl (.int, 8)) := rfl
theorem gk_148 : gw_k 148 = some (.inl (.int, 16)) := rfl
theorem gk_149 : gw_k 149 = some (.inl (.int, 16)) := rfl
theorem gk_150 : gw_k 150 = some (.inl (.int, 16)) := rfl
theorem gk_151 : gw_k 151 = some (.inl (.int, 16)) := rfl
theorem gk_152 : gw_k 152 = some (.inl (.int, 3)) := rfl
theorem gk_153 : gw_k 153 = some (.inl (.int, 40)) := rfl
theorem gk_154 : gw_k 154 = some (.inl (.int, 40)) := rfl
theorem gk_155 : gw_k 155 = some (.inl (.int, 64)) := rfl
theorem gk_156 : gw_k 156 = some (.inl (.int, 8)) := rfl
theorem gk_157 : gw_k 157 = some (.inl (.int, 8)) := rfl
theorem gk_158 : gw_k 158 = some (.inl (.boolean, 8)) := rfl
theorem gk_159 : gw_k 159 = some (.inl (.boolean, 40)) := rfl
theorem gk_160 : gw_k 160 = some (.inl (.boolean, 16)) := rfl
theorem gk_161 : gw_k 161 = some (.inl (.int, 8)) := rfl
theorem gk_162 : gw_k 162 = some (.inl (.int, 8)) := rfl
theorem gk_163 : gw_k 163 = some (.inl (.int, 2304)) := rfl
theorem gk_164 : gw_k 164 = some (.inl (.int, 8)) := rfl
theorem gk_165 : gw_k 165 = some (.inl (.int, 8)) := rfl
theorem gk_166 : gw_k 166 = some (.inl (.int, 8)) := rfl
theorem gk_167 : gw_k 167 = some (.inl (.int, 128)) := rfl
theorem gk_168 : gw_k 168 = some (.inl (.boolean, 4)) := rfl
theorem gk_169 : gw_k 169 = some (.inl (.int, 4)) := rfl
theorem gk_170 : gw_k 170 = some (.inl (.int, 4)) := rfl
theorem gk_171 : gw_k 171 = some (.inl (.int, 240)) := rfl
theorem gk_172 : gw_k 172 = some (.inl (.int, 60)) := rfl
