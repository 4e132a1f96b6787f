/-! checks, on -/
set_option maxRecDepth 100000 in
theorem zk_80 : zchk 80 = true := by decide +kernel
set_option maxRecDepth 100000 in
theorem zw_80 : zMPw 80 (zmp 80) = true := by decide +kernel
set_option maxRecDepth 100000 in
theorem zk_81 : zchk 81 = true := by decide +kernel
set_option maxRecDepth 100000 in
theorem zw_81 : zMPw 81 (zmp 81) = true := by decide +kernel
set_option maxRecDepth 100000 in
theorem zk_82 : zchk 82 = true := by decide +kernel
set_option maxRecDepth 100000 in
theorem zw_82 : zMPw 82 (zmp 82) = true := by decide +kernel
set_option maxRecDepth 100000 in
theorem zk_83 : zchk 83 = true := by decide +kernel
set_option maxRecDepth 100000 in
theorem zw_83 : zMPw 83 (zmp 83) = true := by decide +kernel
set_option maxRecDepth 100000 in
theorem zk_84 : zchk 84 = true := by decide +kernel
set_option maxRecDepth 100000 in
theorem zw_84 : zMPw 84 (zmp 84) = true := by decide +kernel
set_option maxRecDepth 100000 in
theorem zk_85 : zchk 85 = true := by decide +kernel
set_option maxRecDepth 100000 in
theorem zw_85 : zMPw 85 (zmp 85) = true := by decide +kernel
set_option maxRecDepth 100000 in
theorem zk_86 : zchk 86 = true := by decide +kernel
set_option maxRecDepth 100000 in
theorem zw_86 : zMPw 86 (zmp 86) = true := by decide +kernel
set_option maxRecDepth 100000 in
theorem zk_87 : zchk 87 = true := by decide +kernel
set_option maxRecDepth 100000 in
theorem zw_87 : zMPw 87 (zmp 87) = true := by decide +kernel
set_option maxRecDepth 100000 in
theorem zk_88 : zchk 88 = true := by decide +kernel
set_option maxRecDepth 100000 in
theorem zw_88 : zMPw 88 (zmp 88) = true := by decide +kernel
set_option maxRecDepth 100000 in
theorem zk_89 : zchk 89 = true := by decide +kernel
set_option maxRecDepth 100000 in
theorem zw_89 : zMPw 89 (zmp 89) = true := by decide +kernel
set_option maxRecDepth 100000 in
theorem zk_90 : zchk 90 = true := by decide +kernel
set_option maxRecDepth 100000 in
theorem zw_90 : zMPw 90 (zmp 90) = true := by decide +kernel
set_option maxRecDepth 100000 in
theorem zk_91 : zchk 91 = true := by decide +kernel
set_option maxRecDepth 100000 in
theorem zw_91 : zMPw 91 (zmp 91) = true := by decide +kernel
set_option maxRecDepth 100000 in
theorem zk_92 : zchk 92 = true := by decide +kernel
set_option maxRecDepth 100000 in
theorem zw_92 : zMPw 92 (zmp 92) = true := by decide +kernel
set_option maxRecDepth 100000 in
theorem zk_93 : zchk 93 = true := by decide +kernel
set_option maxRecDepth 100000 in
theorem zw_93 : zMPw 93 (zmp 93) = true := by decide +kernel
set_option maxRecDepth 100000 in
theorem zk_94 : zchk 94 = true := by decide +kernel
set_option maxRecDepth 100000 in
theorem zw_94 : zMPw 94 (zmp 94) = true := by decide +kernel
set_option maxRecDepth 100000 in
theorem zk_95 : zchk 95 = true := by decide +kernel
set_option maxRecDepth 100000 in
theorem zw_95 : zMPw 95 (zmp 95) = true := by decide +kernel
set_option maxRecDepth 100000 in
theorem zk_96 : zchk 96 = true := by decide +kernel
set_option maxRecDepth 100000 in
theorem zw_96 : zMPw 96 (zmp 96) = true := by decide +kernel
set_option maxRecDepth 100000 in
theorem zk_97 : zchk 97 = true := by decide +kernel
set_option maxRecDepth 100000 in
theorem zw_97 : zMPw 97 (zmp 97) = true := by decide +kernel
set_option maxRecDepth 100000 in
theorem zk_98 : zchk 98 = true := by decide +kernel
set_option maxRecDepth 100000 in
theorem zw_98 : zMPw 98 (zmp 98) = true := by decide +kernel
set_option maxRecDepth 100000 in
theorem zk_99 : zchk 99 = true := by decide +kernel
set_option maxRecDepth 100000 in
theorem zw_99 : zMPw 99 (zmp 99) = true := by decide +kernel
set_option maxRecDepth 100000 in
theorem zk_100 : zchk 100 = true := by decide +kernel
set_option maxRecDepth 100000 in
theorem zw_100 : zMPw 100 (zmp 100) = true := by decide +kernel
set_option maxRecDepth 100000 in
theorem zk_101 : zchk 101 = true := by decide +kernel
set_option maxRecDepth 100000 in
theorem zw_101 : zMPw 101 (zmp 101) = true := by decide +kernel
set_option maxRecDepth 100000 in
theorem zk_102 : zchk 102 = true := by decide +kernel
set_option maxRecDepth 100000 in
theorem zw_102 : zMPw 102 (zmp 102) = true := by decide +kernel
set_option maxRecDepth 100000 in
theorem zk_103 : zchk 103 = true := by decide +kernel
set_option maxRecDepth 100000 in
theorem zw_103 : zMPw 103 (zmp 103) = true := by decide +kernel
set_option maxRecDepth 100000 in
theorem zk_104 : zchk 104 = true := by decide +kernel
set_option maxRecDepth 100000 in
theorem zw_104 : zMPw 104 (zmp 104) = true := by decide +kernel
set_option maxRecDepth 100000 in
theorem zk_105 : zchk 105 = true := by decide +kernel
set_option maxRecDepth 100000 in
theorem zw_105 : zMPw 105 (zmp 105) = true := by decide +kernel
set_option maxRecDepth 100000 in
theorem zk_106 : zchk 106 = true := by decide +kernel
set_option maxRecDepth 100000 in
theorem zw_106 : zMPw 106 (zmp 106) = true := by decide +kernel
set_option maxRecDepth 100000 in
theorem zk_107 : zchk 107 = true := by decide +kernel
set_option maxRecDepth 100000 in
theorem zw_107 : zMPw 107 (zmp 107) = true := by decide +kernel
set_option maxRecDepth 100000 in
theorem zk_108 : zchk 108 = true := by decide +kernel
set_option maxRecDepth 100000 in
theorem zw_108 : zMPw 108 (zmp 108) = true := by decide +kernel
set_option maxRecDepth 100000 in
theorem zk_109 : zchk 109 = true := by decide +kernel
set_option maxRecDepth 100000 in
theorem zw_109 : zMPw 109 (zmp 109) = true := by decide +kernel
set_option maxRecDepth 100000 in
theorem zk_110 : zchk 110 = true := by decide +kernel
set_option maxRecDepth 100000 in
theorem zw_110 : zMPw 110 (zmp 110) = true := by decide +kernel
set_option maxRecDepth 100000 in
theorem zk_111 : zchk 111 = true := by decide +kernel
set_option maxRecDepth 100000 in
theorem zw_111 : zMPw 111 (zmp 111) = true := by decide +kernel
set_option maxRecDepth 100000 in
theorem zk_112 : zchk 112 = true := by decide +kernel
set_option maxRecDepth 100000 in
theorem zw_112 : zMPw 112 (zmp 112) = true := by decide +kernel
set_option maxRecDepth 100000 in
theorem zk_113 : zchk 113 = true := by decide +kernel
set_option maxRecDepth 100000 in
theorem zw_113 : zMPw 113 (zmp 113) = true := by decide +kernel
set_option maxRecDepth 100000 in
theorem zk_114 : zchk 114 = true := by decide +kernel
set_option maxRecDepth 100000 in
theorem zw_114 : zMPw 114 (zmp 114) = true := by decide +kernel
set_option maxRecDepth 100000 in
theorem zk_115 : zchk 115 = true := by decide +kernel
set_option maxRecDepth 100000 in
theorem zw_115 : zMPw 115 (zmp 115) = true := by decide +kernel
set_option maxRecDepth 100000 in
theorem zk_116 : zchk 116 = true := by decide +kernel
set_option maxRecDepth 100000 in
theorem zw_116 : zMPw 116 (zmp 116) = true := by decide +kernel
set_option maxRecDepth 100000 in
theorem zk_117 : zchk 117 = true := by decide +kernel
set_option maxRecDepth 100000 in
theorem zw_117 : zMPw 117 (zmp 117) = true := by decide +kernel
set_option maxRecDepth 100000 in
theorem zk_118 : zchk 118 = true := by decide +kernel
set_option maxRecDepth 100000 in
theorem zw_118 : zMPw 118 (zmp 118) = true := by decide +kernel
set_option maxRecDepth 100000 in
theorem zk_119 : zchk 119 = true := by decide +kernel
set_option maxRecDepth 100000 in
theorem zw_119 : zMPw 119 (zmp 119) = true := by decide +kernel
set_option maxRecDepth 100000 in
theorem zk_120 : zchk 120 = true := by decide +kernel
set_option maxRecDepth 100000 in
theorem zw_120 : zMPw 120 (zmp 120) = true := by decide +kernel
set_option maxRecDepth 100000 in
theorem zk_121 : zchk 121 = true := by decide +kernel
set_option maxRecDepth 100000 in
theorem zw_121 : zMPw 121 (zmp 121) = true := by decide +kernel
set_option maxRecDepth 100000 in
theorem zk_122 : zchk 122 = true := by decide +kernel
set_option maxRecDepth 100000 in
theorem zw_122 : zMPw 122 (zmp 122) = true := by decide +kernel
set_option maxRecDepth 100000 in
theorem zk_123 : zchk 123 = true := by decide +kernel
set_option maxRecDepth 100000 in
theorem zw_123 : zMPw 123 (zmp 123) = true := by decide +kernel
set_option maxRecDepth 100000 in
theorem zk_124 : zchk 124 = true := by decide +kernel
set_option maxRecDepth 100000 in
theorem zw_124 : zMPw 124 (zmp 124) = true := by decide +kernel
set_option maxRecDepth 100000 in
theorem zk_125 : zchk 125 = true := by decide +kernel
set_option maxRecDepth 100000 in
theorem zw_125 : zMPw 125 (zmp 125) = true := by decide +kernel
set_option maxRecDepth 100000 in
theorem zk_126 : zchk 126 = true := by decide +kernel
set_option maxRecDepth 100000 in
theorem zw_126 : zMPw 126 (zmp 126) = true := by decide +kernel
set_option maxRecDepth 100000 in
theorem zk_127 : zchk 127 = true := by decide +kernel
set_option maxRecDepth 100000 in
theorem zw_127 : zMPw 127 (zmp 127) = true := by decide +kernel
set_option maxRecDepth 100000 in
theorem zk_128 : zchk 128 = true := by decide +kernel
set_option maxRecDepth 100000 in
theorem zw_128 : zMPw 128 (zmp 128) = true := by decide +kernel
set_option maxRecDepth 100000 in
theorem zk_129 : zchk 129 = true := by decide +kernel
set_option maxRecDepth 100000 in
theorem zw_129 : zMPw 129 (zmp 129) = true := by decide +kernel
set_option maxRecDepth 100000 in
theorem zk_130 : zchk 130 = true := by decide +kernel
set_option maxRecDepth 100000 in
theorem zw_130 : zMPw 130 (zmp 130) = true := by decide +kernel
set_option maxRecDepth 100000 in
theorem zk_131 : zchk 131 = true := by decide +kernel
set_option maxRecDepth 100000 in
theorem zw_131 : zMPw 131 (zmp 131) = true := by decide +kernel
