/-! ===== the cells behind the constructors: their shape and references never change after ===== -/
def xG : List (Nat × Nat) := [(7, 7), (6, 10), (103, 6), (101, 100), (5, 7), (100, 10), (100, 10), (100, 100), (100, 6), (4, 4), (100, 8), (100, 8), (100, 8), (4, 4), (100, 8), (100, 8), (100, 8), (4, 4), (100, 8), (100, 8), (100, 8), (1, 9), (100, 4), (1, 9), (100, 4), (1, 9), (100, 4), (1, 9), (100, 4), (1, 9), (100, 4), (1, 9), (100, 4), (6, 10), (103, 6), (101, 100), (5, 7), (100, 10), (100, 10), (100, 100), (100, 6), (4, 4), (100, 8), (100, 8), (100, 8), (4, 4), (100, 8), (100, 8), (100, 8), (4, 4), (100, 8), (100, 8), (100, 8), (1, 9), (100, 4), (1, 9), (100, 4), (1, 9), (100, 4), (1, 9), (100, 4), (1, 9), (100, 4), (1, 9), (100, 4), (1, 9), (100, 4), (3, 5), (5, 7), (100, 10), (100, 10), (100, 100), (100, 6), (101, 100), (0, 2), (100, 20), (2, 1), (100, 64), (8, 20), (100, 931), (100, 931), (100, 31), (100, 6), (102, 64), (100, 6), (100, 6), (100, 20)]
def xRt : List (List Value) := [[.ref 65, .ref 97, .null, .ref 129, .ref 131, .ref 138, .ref 140], [.ref 66, .null, .null, .ref 67, .null, .ref 68, .null, .ref 73, .ref 77, .ref 81], [.ref 85, .ref 87, .ref 89, .ref 91, .ref 93, .ref 95], [], [.null, .null, .ref 69, .ref 70, .ref 71, .null, .ref 72], [], [], [], [], [.ref 74, .ref 75, .ref 76], [], [], [], [.ref 78, .ref 79, .ref 80], [], [], [], [.ref 82, .ref 83, .ref 84], [], [], [], [.null, .null, .null, .null, .null, .null, .null, .null, .ref 86], [], [.null, .null, .null, .null, .null, .null, .null, .null, .ref 88], [], [.null, .null, .null, .null, .null, .null, .null, .null, .ref 90], [], [.null, .null, .null, .null, .null, .null, .null, .null, .ref 92], [], [.null, .null, .null, .null, .null, .null, .null, .null, .ref 94], [], [.null, .null, .null, .null, .null, .null, .null, .null, .ref 96], [], [.ref 98, .null, .null, .ref 99, .null, .ref 100, .null, .ref 105, .ref 109, .ref 113], [.ref 117, .ref 119, .ref 121, .ref 123, .ref 125, .ref 127], [], [.null, .null, .ref 101, .ref 102, .ref 103, .null, .ref 104], [], [], [], [], [.ref 106, .ref 107, .ref 108], [], [], [], [.ref 110, .ref 111, .ref 112], [], [], [], [.ref 114, .ref 115, .ref 116], [], [], [], [.null, .null, .null, .null, .null, .null, .null, .null, .ref 118], [], [.null, .null, .null, .null, .null, .null, .null, .null, .ref 120], [], [.null, .null, .null, .null, .null, .null, .null, .null, .ref 122], [], [.null, .null, .null, .null, .null, .null, .null, .null, .ref 124], [], [.null, .null, .null, .null, .null, .null, .null, .null, .ref 126], [], [.null, .null, .null, .null, .null, .null, .null, .null, .ref 128], [], [.null, .null, .null, .null, .null, .null, .null, .null, .ref 130], [], [.ref 132, .ref 137], [.null, .null, .ref 133, .ref 134, .ref 135, .null, .ref 136], [], [], [], [], [], [.ref 139], [], [.ref 141], [], [.null, .ref 143, .ref 144, .ref 145, .null, .null, .null, .null, .null, .null, .ref 146, .ref 147, .ref 148, .ref 149, .null, .ref 150], [], [], [], [], [], [], [], []]
def xR (q b : Nat) : Value := if q < 64 then .null else (xRt.getD (q - 64) []).getD b .null
abbrev x_mk (I : Nat → Nat → Int32) : XM := (xG, xR, I)
theorem kd_64 (I : Nat → Nat → Int32) : x_kd (x_mk I) 64 = some (7, 7) := rfl
theorem kd_65 (I : Nat → Nat → Int32) : x_kd (x_mk I) 65 = some (6, 10) := rfl
theorem kd_66 (I : Nat → Nat → Int32) : x_kd (x_mk I) 66 = some (103, 6) := rfl
theorem kd_67 (I : Nat → Nat → Int32) : x_kd (x_mk I) 67 = some (101, 100) := rfl
theorem kd_68 (I : Nat → Nat → Int32) : x_kd (x_mk I) 68 = some (5, 7) := rfl
theorem kd_69 (I : Nat → Nat → Int32) : x_kd (x_mk I) 69 = some (100, 10) := rfl
theorem kd_70 (I : Nat → Nat → Int32) : x_kd (x_mk I) 70 = some (100, 10) := rfl
theorem kd_71 (I : Nat → Nat → Int32) : x_kd (x_mk I) 71 = some (100, 100) := rfl
theorem kd_72 (I : Nat → Nat → Int32) : x_kd (x_mk I) 72 = some (100, 6) := rfl
theorem kd_73 (I : Nat → Nat → Int32) : x_kd (x_mk I) 73 = some (4, 4) := rfl
theorem kd_74 (I : Nat → Nat → Int32) : x_kd (x_mk I) 74 = some (100, 8) := rfl
theorem kd_75 (I : Nat → Nat → Int32) : x_kd (x_mk I) 75 = some (100, 8) := rfl
theorem kd_76 (I : Nat → Nat → Int32) : x_kd (x_mk I) 76 = some (100, 8) := rfl
theorem kd_77 (I : Nat → Nat → Int32) : x_kd (x_mk I) 77 = some (4, 4) := rfl
theorem kd_78 (I : Nat → Nat → Int32) : x_kd (x_mk I) 78 = some (100, 8) := rfl
theorem kd_79 (I : Nat → Nat → Int32) : x_kd (x_mk I) 79 = some (100, 8) := rfl
theorem kd_80 (I : Nat → Nat → Int32) : x_kd (x_mk I) 80 = some (100, 8) := rfl
theorem kd_81 (I : Nat → Nat → Int32) : x_kd (x_mk I) 81 = some (4, 4) := rfl
theorem kd_82 (I : Nat → Nat → Int32) : x_kd (x_mk I) 82 = some (100, 8) := rfl
theorem kd_83 (I : Nat → Nat → Int32) : x_kd (x_mk I) 83 = some (100, 8) := rfl
theorem kd_84 (I : Nat → Nat → Int32) : x_kd (x_mk I) 84 = some (100, 8) := rfl
theorem kd_85 (I : Nat → Nat → Int32) : x_kd (x_mk I) 85 = some (1, 9) := rfl
theorem kd_86 (I : Nat → Nat → Int32) : x_kd (x_mk I) 86 = some (100, 4) := rfl
theorem kd_87 (I : Nat → Nat → Int32) : x_kd (x_mk I) 87 = some (1, 9) := rfl
theorem kd_88 (I : Nat → Nat → Int32) : x_kd (x_mk I) 88 = some (100, 4) := rfl
theorem kd_89 (I : Nat → Nat → Int32) : x_kd (x_mk I) 89 = some (1, 9) := rfl
theorem kd_90 (I : Nat → Nat → Int32) : x_kd (x_mk I) 90 = some (100, 4) := rfl
theorem kd_91 (I : Nat → Nat → Int32) : x_kd (x_mk I) 91 = some (1, 9) := rfl
theorem kd_92 (I : Nat → Nat → Int32) : x_kd (x_mk I) 92 = some (100, 4) := rfl
theorem kd_93 (I : Nat → Nat → Int32) : x_kd (x_mk I) 93 = some (1, 9) := rfl
theorem kd_94 (I : Nat → Nat → Int32) : x_kd (x_mk I) 94 = some (100, 4) := rfl
theorem kd_95 (I : Nat → Nat → Int32) : x_kd (x_mk I) 95 = some (1, 9) := rfl
theorem kd_96 (I : Nat → Nat → Int32) : x_kd (x_mk I) 96 = some (100, 4) := rfl
theorem kd_97 (I : Nat → Nat → Int32) : x_kd (x_mk I) 97 = some (6, 10) := rfl
theorem kd_98 (I : Nat → Nat → Int32) : x_kd (x_mk I) 98 = some (103, 6) := rfl
theorem kd_99 (I : Nat → Nat → Int32) : x_kd (x_mk I) 99 = some (101, 100) := rfl
theorem kd_100 (I : Nat → Nat → Int32) : x_kd (x_mk I) 100 = some (5, 7) := rfl
theorem kd_101 (I : Nat → Nat → Int32) : x_kd (x_mk I) 101 = some (100, 10) := rfl
theorem kd_102 (I : Nat → Nat → Int32) : x_kd (x_mk I) 102 = some (100, 10) := rfl
theorem kd_103 (I : Nat → Nat → Int32) : x_kd (x_mk I) 103 = some (100, 100) := rfl
theorem kd_104 (I : Nat → Nat → Int32) : x_kd (x_mk I) 104 = some (100, 6) := rfl
theorem kd_105 (I : Nat → Nat → Int32) : x_kd (x_mk I) 105 = some (4, 4) := rfl
theorem kd_106 (I : Nat → Nat → Int32) : x_kd (x_mk I) 106 = some (100, 8) := rfl
theorem kd_107 (I : Nat → Nat → Int32) : x_kd (x_mk I) 107 = some (100, 8) := rfl
theorem kd_108 (I : Nat → Nat → Int32) : x_kd (x_mk I) 108 = some (100, 8) := rfl
theorem kd_109 (I : Nat → Nat → Int32) : x_kd (x_mk I) 109 = some (4, 4) := rfl
theorem kd_110 (I : Nat → Nat → Int32) : x_kd (x_mk I) 110 = some (100, 8) := rfl
theorem kd_111 (I : Nat → Nat → Int32) : x_kd (x_mk I) 111 = some (100, 8) := rfl
theorem kd_112 (I : Nat → Nat → Int32) : x_kd (x_mk I) 112 = some (100, 8) := rfl
theorem kd_113 (I : Nat → Nat → Int32) : x_kd (x_mk I) 113 = some (4, 4) := rfl
theorem kd_114 (I : Nat → Nat → Int32) : x_kd (x_mk I) 114 = some (100, 8) := rfl
theorem kd_115 (I : Nat → Nat → Int32) : x_kd (x_mk I) 115 = some (100, 8) := rfl
theorem kd_116 (I : Nat → Nat → Int32) : x_kd (x_mk I) 116 = some (100, 8) := rfl
theorem kd_117 (I : Nat → Nat → Int32) : x_kd (x_mk I) 117 = some (1, 9) := rfl
theorem kd_118 (I : Nat → Nat → Int32) : x_kd (x_mk I) 118 = some (100, 4) := rfl
theorem kd_119 (I : Nat → Nat → Int32) : x_kd (x_mk I) 119 = some (1, 9) := rfl
theorem kd_120 (I : Nat → Nat → Int32) : x_kd (x_mk I) 120 = some (100, 4) := rfl
theorem kd_121 (I : Nat → Nat → Int32) : x_kd (x_mk I) 121 = some (1, 9) := rfl
theorem kd_122 (I : Nat → Nat → Int32) : x_kd (x_mk I) 122 = some (100, 4) := rfl
theorem kd_123 (I : Nat → Nat → Int32) : x_kd (x_mk I) 123 = some (1, 9) := rfl
theorem kd_124 (I : Nat → Nat → Int32) : x_kd (x_mk I) 124 = some (100, 4) := rfl
theorem kd_125 (I : Nat → Nat → Int32) : x_kd (x_mk I) 125 = some (1, 9) := rfl
theorem kd_126 (I : Nat → Nat → Int32) : x_kd (x_mk I) 126 = some (100, 4) := rfl
theorem kd_127 (I : Nat → Nat → Int32) : x_kd (x_mk I) 127 = some (1, 9) := rfl
theorem kd_128 (I : Nat → Nat → Int32) : x_kd (x_mk I) 128 = some (100, 4) := rfl
theorem kd_129 (I : Nat → Nat → Int32) : x_kd (x_mk I) 129 = some (1, 9) := rfl
theorem kd_130 (I : Nat → Nat → Int32) : x_kd (x_mk I) 130 = some (100, 4) := rfl
theorem kd_131 (I : Nat → Nat → Int32) : x_kd (x_mk I) 131 = some (3, 5) := rfl
theorem kd_132 (I : Nat → Nat → Int32) : x_kd (x_mk I) 132 = some (5, 7) := rfl
theorem kd_133 (I : Nat → Nat → Int32) : x_kd (x_mk I) 133 = some (100, 10) := rfl
theorem kd_134 (I : Nat → Nat → Int32) : x_kd (x_mk I) 134 = some (100, 10) := rfl
theorem kd_135 (I : Nat → Nat → Int32) : x_kd (x_mk I) 135 = some (100, 100) := rfl
theorem kd_136 (I : Nat → Nat → Int32) : x_kd (x_mk I) 136 = some (100, 6) := rfl
theorem kd_137 (I : Nat → Nat → Int32) : x_kd (x_mk I) 137 = some (101, 100) := rfl
theorem kd_138 (I : Nat → Nat → Int32) : x_kd (x_mk I) 138 = some (0, 2) := rfl
theorem kd_139 (I : Nat → Nat → Int32) : x_kd (x_mk I) 139 = some (100, 20) := rfl
theorem kd_140 (I : Nat → Nat → Int32) : x_kd (x_mk I) 140 = some (2, 1) := rfl
theorem kd_141 (I : Nat → Nat → Int32) : x_kd (x_mk I) 141 = some (100, 64) := rfl
theorem kd_142 (I : Nat → Nat → Int32) : x_kd (x_mk I) 142 = some (8, 20) := rfl
theorem kd_143 (I : Nat → Nat → Int32) : x_kd (x_mk I) 143 = some (100, 931) := rfl
theorem kd_144 (I : Nat → Nat → Int32) : x_kd (x_mk I) 144 = some (100, 931) := rfl
theorem kd_145 (I : Nat → Nat → Int32) : x_kd (x_mk I) 145 = some (100, 31) := rfl
theorem kd_146 (I : Nat → Nat → Int32) : x_kd (x_mk I) 146 = some (100, 6) := rfl
theorem kd_147 (I : Nat → Nat → Int32) : x_kd (x_mk I) 147 = some (102, 64) := rfl
theorem kd_148 (I : Nat → Nat → Int32) : x_kd (x_mk I) 148 = some (100, 6) := rfl
theorem kd_149 (I : Nat → Nat → Int32) : x_kd (x_mk I) 149 = some (100, 6) := rfl
theorem kd_150 (I : Nat → Nat → Int32) : x_kd (x_mk I) 150 = some (100, 20) := rfl
theorem kr_64_0 (I : Nat → Nat → Int32) : (x_mk I).2.1 64 0 = .ref 65 := rfl
theorem kr_64_1 (I : Nat → Nat → Int32) : (x_mk I).2.1 64 1 = .ref 97 := rfl
theorem kr_64_3 (I : Nat → Nat → Int32) : (x_mk I).2.1 64 3 = .ref 129 := rfl
theorem kr_64_4 (I : Nat → Nat → Int32) : (x_mk I).2.1 64 4 = .ref 131 := rfl
theorem kr_64_5 (I : Nat → Nat → Int32) : (x_mk I).2.1 64 5 = .ref 138 := rfl
theorem kr_64_6 (I : Nat → Nat → Int32) : (x_mk I).2.1 64 6 = .ref 140 := rfl
theorem kr_65_0 (I : Nat → Nat → Int32) : (x_mk I).2.1 65 0 = .ref 66 := rfl
theorem kr_65_3 (I : Nat → Nat → Int32) : (x_mk I).2.1 65 3 = .ref 67 := rfl
theorem kr_65_5 (I : Nat → Nat → Int32) : (x_mk I).2.1 65 5 = .ref 68 := rfl
theorem kr_65_7 (I : Nat → Nat → Int32) : (x_mk I).2.1 65 7 = .ref 73 := rfl
theorem kr_65_8 (I : Nat → Nat → Int32) : (x_mk I).2.1 65 8 = .ref 77 := rfl
theorem kr_65_9 (I : Nat → Nat → Int32) : (x_mk I).2.1 65 9 = .ref 81 := rfl
theorem kr_66_0 (I : Nat → Nat → Int32) : (x_mk I).2.1 66 0 = .ref 85 := rfl
theorem kr_66_1 (I : Nat → Nat → Int32) : (x_mk I).2.1 66 1 = .ref 87 := rfl
theorem kr_66_2 (I : Nat → Nat → Int32) : (x_mk I).2.1 66 2 = .ref 89 := rfl
theorem kr_66_3 (I : Nat → Nat → Int32) : (x_mk I).2.1 66 3 = .ref 91 := rfl
theorem kr_66_4 (I : Nat → Nat → Int32) : (x_mk I).2.1 66 4 = .ref 93 := rfl
theorem kr_66_5 (I : Nat → Nat → Int32) : (x_mk I).2.1 66 5 = .ref 95 := rfl
theorem kr_68_2 (I : Nat → Nat → Int32) : (x_mk I).2.1 68 2 = .ref 69 := rfl
theorem kr_68_3 (I : Nat → Nat → Int32) : (x_mk I).2.1 68 3 = .ref 70 := rfl
theorem kr_68_4 (I : Nat → Nat → Int32) : (x_mk I).2.1 68 4 = .ref 71 := rfl
theorem kr_68_6 (I : Nat → Nat → Int32) : (x_mk I).2.1 68 6 = .ref 72 := rfl
theorem kr_73_0 (I : Nat → Nat → Int32) : (x_mk I).2.1 73 0 = .ref 74 := rfl
theorem kr_73_1 (I : Nat → Nat → Int32) : (x_mk I).2.1 73 1 = .ref 75 := rfl
theorem kr_73_2 (I : Nat → Nat → Int32) : (x_mk I).2.1 73 2 = .ref 76 := rfl
theorem kr_77_0 (I : Nat → Nat → Int32) : (x_mk I).2.1 77 0 = .ref 78 := rfl
theorem kr_77_1 (I : Nat → Nat → Int32) : (x_mk I).2.1 77 1 = .ref 79 := rfl
theorem kr_77_2 (I : Nat → Nat → Int32) : (x_mk I).2.1 77 2 = .ref 80 := rfl
theorem kr_81_0 (I : Nat → Nat → Int32) : (x_mk I).2.1 81 0 = .ref 82 := rfl
theorem kr_81_1 (I : Nat → Nat → Int32) : (x_mk I).2.1 81 1 = .ref 83 := rfl
theorem kr_81_2 (I : Nat → Nat → Int32) : (x_mk I).2.1 81 2 = .ref 84 := rfl
theorem kr_85_8 (I : Nat → Nat → Int32) : (x_mk I).2.1 85 8 = .ref 86 := rfl
theorem kr_87_8 (I : Nat → Nat → Int32) : (x_mk I).2.1 87 8 = .ref 88 := rfl
theorem kr_89_8 (I : Nat → Nat → Int32) : (x_mk I).2.1 89 8 = .ref 90 := rfl
theorem kr_91_8 (I : Nat → Nat → Int32) : (x_mk I).2.1 91 8 = .ref 92 := rfl
theorem kr_93_8 (I : Nat → Nat → Int32) : (x_mk I).2.1 93 8 = .ref 94 := rfl
theorem kr_95_8 (I : Nat → Nat → Int32) : (x_mk I).2.1 95 8 = .ref 96 := rfl
theorem kr_97_0 (I : Nat → Nat → Int32) : (x_mk I).2.1 97 0 = .ref 98 := rfl
theorem kr_97_3 (I : Nat → Nat → Int32) : (x_mk I).2.1 97 3 = .ref 99 := rfl
theorem kr_97_5 (I : Nat → Nat → Int32) : (x_mk I).2.1 97 5 = .ref 100 := rfl
theorem kr_97_7 (I : Nat → Nat → Int32) : (x_mk I).2.1 97 7 = .ref 105 := rfl
theorem kr_97_8 (I : Nat → Nat → Int32) : (x_mk I).2.1 97 8 = .ref 109 := rfl
theorem kr_97_9 (I : Nat → Nat → Int32) : (x_mk I).2.1 97 9 = .ref 113 := rfl
theorem kr_98_0 (I : Nat → Nat → Int32) : (x_mk I).2.1 98 0 = .ref 117 := rfl
theorem kr_98_1 (I : Nat → Nat → Int32) : (x_mk I).2.1 98 1 = .ref 119 := rfl
theorem kr_98_2 (I : Nat → Nat → Int32) : (x_mk I).2.1 98 2 = .ref 121 := rfl
theorem kr_98_3 (I : Nat → Nat → Int32) : (x_mk I).2.1 98 3 = .ref 123 := rfl
theorem kr_98_4 (I : Nat → Nat → Int32) : (x_mk I).2.1 98 4 = .ref 125 := rfl
theorem kr_98_5 (I : Nat → Nat → Int32) : (x_mk I).2.1 98 5 = .ref 127 := rfl
theorem kr_100_2 (I : Nat → Nat → Int32) : (x_mk I).2.1 100 2 = .ref 101 := rfl
theorem kr_100_3 (I : Nat → Nat → Int32) : (x_mk I).2.1 100 3 = .ref 102 := rfl
theorem kr_100_4 (I : Nat → Nat → Int32) : (x_mk I).2.1 100 4 = .ref 103 := rfl
theorem kr_100_6 (I : Nat → Nat → Int32) : (x_mk I).2.1 100 6 = .ref 104 := rfl
theorem kr_105_0 (I : Nat → Nat → Int32) : (x_mk I).2.1 105 0 = .ref 106 := rfl
theorem kr_105_1 (I : Nat → Nat → Int32) : (x_mk I).2.1 105 1 = .ref 107 := rfl
theorem kr_105_2 (I : Nat → Nat → Int32) : (x_mk I).2.1 105 2 = .ref 108 := rfl
theorem kr_109_0 (I : Nat → Nat → Int32) : (x_mk I).2.1 109 0 = .ref 110 := rfl
theorem kr_109_1 (I : Nat → Nat → Int32) : (x_mk I).2.1 109 1 = .ref 111 := rfl
theorem kr_109_2 (I : Nat → Nat → Int32) : (x_mk I).2.1 109 2 = .ref 112 := rfl
theorem kr_113_0 (I : Nat → Nat → Int32) : (x_mk I).2.1 113 0 = .ref 114 := rfl
theorem kr_113_1 (I : Nat → Nat → Int32) : (x_mk I).2.1 113 1 = .ref 115 := rfl
theorem kr_113_2 (I : Nat → Nat → Int32) : (x_mk I).2.1 113 2 = .ref 116 := rfl
theorem kr_117_8 (I : Nat → Nat → Int32) : (x_mk I).2.1 117 8 = .ref 118 := rfl
theorem kr_119_8 (I : Nat → Nat → Int32) : (x_mk I).2.1 119 8 = .ref 120 := rfl
theorem kr_121_8 (I : Nat → Nat → Int32) : (x_mk I).2.1 121 8 = .ref 122 := rfl
theorem kr_123_8 (I : Nat → Nat → Int32) : (x_mk I).2.1 123 8 = .ref 124 := rfl
theorem kr_125_8 (I : Nat → Nat → Int32) : (x_mk I).2.1 125 8 = .ref 126 := rfl
theorem kr_127_8 (I : Nat → Nat → Int32) : (x_mk I).2.1 127 8 = .ref 128 := rfl
theorem kr_129_8 (I : Nat → Nat → Int32) : (x_mk I).2.1 129 8 = .ref 130 := rfl
theorem kr_131_0 (I : Nat → Nat → Int32) : (x_mk I).2.1 131 0 = .ref 132 := rfl
theorem kr_131_1 (I : Nat → Nat → Int32) : (x_mk I).2.1 131 1 = .ref 137 := rfl
theorem kr_132_2 (I : Nat → Nat → Int32) : (x_mk I).2.1 132 2 = .ref 133 := rfl
theorem kr_132_3 (I : Nat → Nat → Int32) : (x_mk I).2.1 132 3 = .ref 134 := rfl
theorem kr_132_4 (I : Nat → Nat → Int32) : (x_mk I).2.1 132 4 = .ref 135 := rfl
theorem kr_132_6 (I : Nat → Nat → Int32) : (x_mk I).2.1 132 6 = .ref 136 := rfl
theorem kr_138_0 (I : Nat → Nat → Int32) : (x_mk I).2.1 138 0 = .ref 139 := rfl
theorem kr_140_0 (I : Nat → Nat → Int32) : (x_mk I).2.1 140 0 = .ref 141 := rfl
theorem kr_142_1 (I : Nat → Nat → Int32) : (x_mk I).2.1 142 1 = .ref 143 := rfl
theorem kr_142_2 (I : Nat → Nat → Int32) : (x_mk I).2.1 142 2 = .ref 144 := rfl
theorem kr_142_3 (I : Nat → Nat → Int32) : (x_mk I).2.1 142 3 = .ref 145 := rfl
theorem kr_142_10 (I : Nat → Nat → Int32) : (x_mk I).2.1 142 10 = .ref 146 := rfl
theorem kr_142_11 (I : Nat → Nat → Int32) : (x_mk I).2.1 142 11 = .ref 147 := rfl
theorem kr_142_12 (I : Nat → Nat → Int32) : (x_mk I).2.1 142 12 = .ref 148 := rfl
theorem kr_142_13 (I : Nat → Nat → Int32) : (x_mk I).2.1 142 13 = .ref 149 := rfl
theorem kr_142_15 (I : Nat → Nat → Int32) : (x_mk I).2.1 142 15 = .ref 150 := rfl
/-- r is the number of a man's cell -/
def x_man (r : Nat) : Prop := (∀ I, x_kd (x_mk I) r = some (1, 9)) ∧ xR r 8 = .ref (r + 1) ∧ (∀ I, x_kd (x_mk I) (r + 1) = some (100, 4)) ∧ ¬ r < 64
theorem x_man_now {j : Nat} (h : j < 6) : x_man (85 + 2 * j) ∧ xR 66 j = .ref (85 + 2 * j) := by
  match j, h with
  | 0, _ => exact ⟨⟨fun _ => rfl, rfl, fun _ => rfl, by decide⟩, rfl⟩
  | 1, _ => exact ⟨⟨fun _ => rfl, rfl, fun _ => rfl, by decide⟩, rfl⟩
  | 2, _ => exact ⟨⟨fun _ => rfl, rfl, fun _ => rfl, by decide⟩, rfl⟩
  | 3, _ => exact ⟨⟨fun _ => rfl, rfl, fun _ => rfl, by decide⟩, rfl⟩
  | 4, _ => exact ⟨⟨fun _ => rfl, rfl, fun _ => rfl, by decide⟩, rfl⟩
  | 5, _ => exact ⟨⟨fun _ => rfl, rfl, fun _ => rfl, by decide⟩, rfl⟩
theorem x_man_img {j : Nat} (h : j < 6) : x_man (117 + 2 * j) ∧ xR 98 j = .ref (117 + 2 * j) := by
  match j, h with
  | 0, _ => exact ⟨⟨fun _ => rfl, rfl, fun _ => rfl, by decide⟩, rfl⟩
  | 1, _ => exact ⟨⟨fun _ => rfl, rfl, fun _ => rfl, by decide⟩, rfl⟩
  | 2, _ => exact ⟨⟨fun _ => rfl, rfl, fun _ => rfl, by decide⟩, rfl⟩
  | 3, _ => exact ⟨⟨fun _ => rfl, rfl, fun _ => rfl, by decide⟩, rfl⟩
  | 4, _ => exact ⟨⟨fun _ => rfl, rfl, fun _ => rfl, by decide⟩, rfl⟩
  | 5, _ => exact ⟨⟨fun _ => rfl, rfl, fun _ => rfl, by decide⟩, rfl⟩
theorem x_man_129 : x_man 129 := ⟨fun _ => rfl, rfl, fun _ => rfl, by decide⟩
theorem x_in_lt {j : Int32} {N : Nat} (h : vp_in j N) : j.toNatClampNeg < N := Nat.not_le.mp fun z => h (Or.inr z)
/-! ===== the calculus over the ints alone: nothing is made ===== -/
abbrev x_Q (Q : Option Value → (Nat → Nat → Int32) → Prop) : Option Value → XM → Prop := fun v M => ∃ I, M = x_mk I ∧ Q v I
abbrev x_P (E : XE) (d mi i : Nat) (L S : List Value) (I : Nat → Nat → Int32) (Q : Option Value → (Nat → Nat → Int32) → Prop) : Prop := x_WP E d mi i L S (x_mk I) 0 0 0 0 (x_Q Q)
abbrev x_K (E : XE) (d mi : Nat) (As : List Value) (I : Nat → Nat → Int32) (Q : Option Value → (Nat → Nat → Int32) → Prop) : Prop := x_C E d mi As (x_mk I) 0 0 (x_Q Q)
/-- a truth as the machine has it -/
def x_bi (c : Prop) [Decidable c] : Int32 := if c then 1 else 0
theorem x_bi_t {c : Prop} [Decidable c] (h : c) : x_bi c = 1 := if_pos h
theorem x_bi_f {c : Prop} [Decidable c] (h : ¬ c) : x_bi c = 0 := if_neg h
theorem x_bi_c {c c' : Prop} [Decidable c] [Decidable c'] (h : c ↔ c') : x_bi c = x_bi c' := by
  by_cases hc : c
  · rw [x_bi_t hc, x_bi_t (h.mp hc)]
  · rw [x_bi_f hc, x_bi_f (fun z => hc (h.mpr z))]
theorem x_bi_nar {c : Prop} [Decidable c] : narrow .boolean (.int (x_bi c)) = .int (x_bi c) := by
  by_cases h : c
  · rw [x_bi_t h]; rfl
  · rw [x_bi_f h]; rfl
section XS
variable {E : XE} {d mi i nx a b pc : Nat} {ps : List Nat} {L S : List Value} {I : Nat → Nat → Int32} {Q : Option Value → (Nat → Nat → Int32) → Prop}
theorem x_P.mono {Q' : Option Value → (Nat → Nat → Int32) → Prop} (h : x_P E d mi i L S I Q') (hq : ∀ v I', Q' v I' → Q v I') : x_P E d mi i L S I Q :=
  x_WP.mono h (fun v M' ⟨I', h1, h2⟩ => ⟨I', h1, hq v I' h2⟩)
theorem x_K.mono {As : List Value} {Q' : Option Value → (Nat → Nat → Int32) → Prop} (h : x_K E d mi As I Q') (hq : ∀ v I', Q' v I' → Q v I') : x_K E d mi As I Q :=
  x_C.mono h (fun v M' ⟨I', h1, h2⟩ => ⟨I', h1, hq v I' h2⟩)
theorem x_K.of {As L : List Value} (ha : 0 < mi ∧ mi < 192) (hM : ¬ (x_m mi).1.cls = "java/lang/Math") (hL : x_ent (x_m mi).2.2.1 As = L) (hl : L.length = (x_m mi).2.2.1) (hpc : x_pc mi 0 = 0) (h : x_P E d mi 0 L [] I Q) : x_K E d mi As I Q :=
  x_C.of ha hM hL hl h hpc
theorem s_bi_ne {c : Prop} [Decidable c] {off : Int} (ho : x_op mi i = some (pc, 3, .ifCond .ne off, nx, a, b, ps)) (kt : c → x_P E d mi a L S I Q) (kf : ¬ c → x_P E d mi nx L S I Q) : x_P E d mi i L (.int (x_bi c) :: S) I Q :=
  wp_if_ne ho (fun h => kt (Decidable.byContradiction fun z => h (x_bi_f z))) (fun h => kf (fun z => by rw [x_bi_t z] at h; exact absurd h (by decide)))
theorem s_bi_eq {c : Prop} [Decidable c] {off : Int} (ho : x_op mi i = some (pc, 3, .ifCond .eq off, nx, a, b, ps)) (kt : ¬ c → x_P E d mi a L S I Q) (kf : c → x_P E d mi nx L S I Q) : x_P E d mi i L (.int (x_bi c) :: S) I Q :=
  wp_if_eq ho (fun h => kt (fun z => by rw [x_bi_t z] at h; exact absurd h (by decide))) (fun h => kf (Decidable.byContradiction fun z => h (x_bi_f z)))
theorem s_putI {idx q N : Nat} {x : Int32} (ho : x_op mi i = some (pc, 3, .putfield idx, nx, a, b, ps)) (ha : a < 9) (hq : x_kd (x_mk I) q = some (a, N)) (hR : x_isR a b = false) (hfin : x_fin a b = false) (hfit : x_fit (x_ty a b) x)
    (kk : x_P E d mi nx L S (x_up I q b x) Q) : x_P E d mi i L (.int x :: .ref q :: S) I Q := wp_putI ho ha hq hR hfin hfit kk
theorem s_iast {q N : Nat} {j x : Int32} (ho : x_op mi i = some (pc, 1, .iastore, nx, a, b, ps)) (hq : x_kd (x_mk I) q = some (100, N)) (hin : vp_in j N) (kk : x_P E d mi nx L S (x_up I q j.toNatClampNeg x) Q) : x_P E d mi i L (.int x :: .int j :: .ref q :: S) I Q := wp_iast ho hq hin kk
theorem s_bast {q N : Nat} {j x : Int32} (ho : x_op mi i = some (pc, 1, .bastore, nx, a, b, ps)) (hq : x_kd (x_mk I) q = some (101, N)) (hin : vp_in j N) (kk : x_P E d mi nx L S (x_up I q j.toNatClampNeg x.toInt8.toInt32) Q) : x_P E d mi i L (.int x :: .int j :: .ref q :: S) I Q := wp_bast ho hq hin kk
theorem s_zast {q N : Nat} {j x : Int32} (ho : x_op mi i = some (pc, 1, .bastore, nx, a, b, ps)) (hq : x_kd (x_mk I) q = some (102, N)) (hin : vp_in j N) (hx1 : narrow .boolean (.int x) = .int x) (kk : x_P E d mi nx L S (x_up I q j.toNatClampNeg x) Q) : x_P E d mi i L (.int x :: .int j :: .ref q :: S) I Q := wp_zast ho hq hin hx1 kk
/-- an array's first n taken from another -/
def x_cp (I : Nat → Nat → Int32) (qs qd n : Nat) : Nat → Nat → Int32 := fun i j => if i = qd ∧ j < n then I qs j else I i j
theorem s_copy {idx qs qd kd N1 N2 : Nat} {n0 : Int32} (ho : x_op mi i = some (pc, 3, .invokestatic idx, nx, 1001, b, ps)) (hp1 : ps = [ps.getD 0 0, ps.getD 1 0, ps.getD 2 0, ps.getD 3 0]) (hs1 : x_kd (x_mk I) qs = some (kd, N1)) (hs2 : x_kd (x_mk I) qd = some (kd, N2)) (hkd : kd = 100 ∨ kd = 101)
    (h3 : ¬ n0 < 0) (h4 : n0.toNatClampNeg ≤ N1) (h5 : n0.toNatClampNeg ≤ N2) (hfit : kd = 101 → ∀ j, j < N1 → fits .byte (.int (I qs j)) = true) (hcat : (S.map fun v => v.category).sum ≤ 8) (hd1 : 1 ≤ d)
    (kk : x_P E d mi nx L S (x_cp I qs qd n0.toNatClampNeg) Q) : x_P E d mi i L (.int n0 :: .int 0 :: .ref qd :: .int 0 :: .ref qs :: S) I Q := by
  refine wp_copy ho hp1 hs1 hs2 hkd (by decide) (by decide) h3 ?_ ?_ hfit hcat hd1 ?_
  · rw [show (0 : Int32).toNatClampNeg = 0 from rfl]; omega
  · rw [show (0 : Int32).toNatClampNeg = 0 from rfl]; omega
  · have e : x_cpy (x_mk I) qs qd (0 : Int32).toNatClampNeg (0 : Int32).toNatClampNeg n0.toNatClampNeg = x_mk (x_cp I qs qd n0.toNatClampNeg) := by
      unfold x_cpy x_cp va_cpy
      rw [show (0 : Int32).toNatClampNeg = 0 from rfl]
      refine Prod.ext rfl (Prod.ext rfl ?_)
      funext i' j'
      dsimp only
      by_cases h1 : i' = qd
      · subst h1
        by_cases h2 : j' < n0.toNatClampNeg <;> simp [h2]
      · simp [h1]
    rw [e]
    exact kk
theorem s_iret {x : Int32} {ty : FieldType} (ho : x_op mi i = some (pc, 1, .ireturn, nx, a, b, ps)) (hr : (x_m mi).2.2.2.1 = some ty) (hn : narrow ty (.int x) = .int x) (hQ : Q (some (.int x)) I) : x_P E d mi i L [.int x] I Q := wp_iret ho hr hn (Nat.le_refl 0) (Nat.le_refl 0) ⟨I, rfl, hQ⟩
theorem s_lret {x : Int64} (ho : x_op mi i = some (pc, 1, .lreturn, nx, a, b, ps)) (hr : (x_m mi).2.2.2.1 = some .long) (hQ : Q (some (.long x)) I) : x_P E d mi i L [.long x] I Q := wp_lret ho hr (Nat.le_refl 0) (Nat.le_refl 0) ⟨I, rfl, hQ⟩
theorem s_vret (ho : x_op mi i = some (pc, 1, .return_, nx, a, b, ps)) (hr : (x_m mi).2.2.2.1 = none) (hQ : Q none I) : x_P E d mi i L [] I Q := wp_vret ho hr (Nat.le_refl 0) (Nat.le_refl 0) ⟨I, rfl, hQ⟩
theorem s_aret {v : Value} {C : String} (ho : x_op mi i = some (pc, 1, .areturn, nx, a, b, ps)) (hr : (x_m mi).2.2.2.1 = some (.object C)) (hv : v = .null ∨ ∃ r, v = .ref r) (hQ : Q (some v) I) : x_P E d mi i L [v] I Q := wp_aret ho hr hv (Nat.le_refl 0) (Nat.le_refl 0) ⟨I, rfl, hQ⟩
theorem s_invV {idx q c1 N : Nat} {r1 : vw_C} {As S0 : List Value} {d1 : Nat} {Q1 : Option Value → (Nat → Nat → Int32) → Prop} (ho : x_op mi i = some (pc, 3, .invokevirtual idx, nx, a, b, ps)) (ha : 0 < a ∧ a < 192) (hp1 : ps = [ps.getD 0 0, ps.getD 1 0, ps.getD 2 0, ps.getD 3 0, ps.getD 4 0]) (hb1 : As.length = b) (hst : S0 = As.reverse ++ .ref q :: S) (hcat : (S.map fun v => v.category).sum ≤ 8) (hd1 : d1 + 1 ≤ d)
    (hq : x_kd (x_mk I) q = some (c1, N)) (hc9 : c1 < 9) (hr1 : vwCl[c1]? = some r1) (hcls : r1.1 = (x_m a).1.cls)
    (hC : x_K E d1 a (.ref q :: As) I Q1) (kk : ∀ v I', Q1 v I' → x_P E d mi nx L (v.toList ++ S) I' Q) : x_P E d mi i L S0 I Q :=
  wp_invV ho ha hp1 hb1 hst hcat hd1 (Nat.le_refl 0) (Nat.le_refl 0) hq hc9 hr1 hcls hC (fun v M' ⟨I', h1, h2⟩ => by subst h1; exact kk v I' h2)
theorem s_invS {idx e0 : Nat} {As S0 : List Value} {d1 : Nat} {Q1 : Option Value → (Nat → Nat → Int32) → Prop} (ho : x_op mi i = some (pc, 3, .invokevirtual idx, nx, a, b, ps)) (ha : 0 < a ∧ a < 192) (hp1 : ps = [ps.getD 0 0, ps.getD 1 0, ps.getD 2 0, ps.getD 3 0, ps.getD 4 0]) (hb1 : As.length = b) (hst : S0 = As.reverse ++ .ref (8 + e0) :: S) (hcat : (S.map fun v => v.category).sum ≤ 8) (hd1 : d1 + 1 ≤ d)
    (he : e0 < 8) (hcls : (x_m a).1.cls = "java/lang/String")
    (hC : x_K E d1 a (.ref (8 + e0) :: As) I Q1) (kk : ∀ v I', Q1 v I' → x_P E d mi nx L (v.toList ++ S) I' Q) : x_P E d mi i L S0 I Q :=
  wp_invS ho ha hp1 hb1 hst hcat hd1 (Nat.le_refl 0) (Nat.le_refl 0) he hcls hC (fun v M' ⟨I', h1, h2⟩ => by subst h1; exact kk v I' h2)
theorem s_invSt {idx : Nat} {As S0 : List Value} {d1 : Nat} {Q1 : Option Value → (Nat → Nat → Int32) → Prop} (ho : x_op mi i = some (pc, 3, .invokestatic idx, nx, a, b, ps)) (ha : 0 < a ∧ a < 192) (hp1 : ps = [ps.getD 0 0, ps.getD 1 0, ps.getD 2 0, ps.getD 3 0]) (hb1 : As.length = b) (hst : S0 = As.reverse ++ S) (hcat : (S.map fun v => v.category).sum ≤ 8) (hd1 : d1 + 1 ≤ d)
    (hC : x_K E d1 a As I Q1) (kk : ∀ v I', Q1 v I' → x_P E d mi nx L (v.toList ++ S) I' Q) : x_P E d mi i L S0 I Q :=
  wp_invSt ho ha hp1 hb1 hst hcat hd1 (Nat.le_refl 0) (Nat.le_refl 0) hC (fun v M' ⟨I', h1, h2⟩ => by subst h1; exact kk v I' h2)
theorem s_mmax {idx : Nat} {x y : Int32} (ho : x_op mi i = some (pc, 3, .invokestatic idx, nx, 4, b, ps)) (hp1 : ps = [ps.getD 0 0, ps.getD 1 0, ps.getD 2 0, ps.getD 3 0]) (hcat : (S.map fun v => v.category).sum ≤ 8) (hd1 : 1 ≤ d) (kk : x_P E d mi nx L (.int (if x < y then y else x) :: S) I Q) : x_P E d mi i L (.int y :: .int x :: S) I Q := wp_mmax ho hp1 hcat hd1 (Nat.le_refl 0) (Nat.le_refl 0) kk
theorem s_mmin {idx : Nat} {x y : Int32} (ho : x_op mi i = some (pc, 3, .invokestatic idx, nx, 5, b, ps)) (hp1 : ps = [ps.getD 0 0, ps.getD 1 0, ps.getD 2 0, ps.getD 3 0]) (hcat : (S.map fun v => v.category).sum ≤ 8) (hd1 : 1 ≤ d) (kk : x_P E d mi nx L (.int (if y < x then y else x) :: S) I Q) : x_P E d mi i L (.int y :: .int x :: S) I Q := wp_mmin ho hp1 hcat hd1 (Nat.le_refl 0) (Nat.le_refl 0) kk
theorem s_mabs {idx : Nat} {x : Int32} (ho : x_op mi i = some (pc, 3, .invokestatic idx, nx, 3, b, ps)) (hp1 : ps = [ps.getD 0 0, ps.getD 1 0, ps.getD 2 0, ps.getD 3 0]) (hcat : (S.map fun v => v.category).sum ≤ 8) (hd1 : 1 ≤ d) (kk : x_P E d mi nx L (.int (if 0 ≤ x then x else 0 - x) :: S) I Q) : x_P E d mi i L (.int x :: S) I Q := wp_mabs ho hp1 hcat hd1 (Nat.le_refl 0) (Nat.le_refl 0) kk
end XS
