set_option maxRecDepth 100000 in
theorem okM_105 : okM 105 = true := by decide +kernel
set_option maxRecDepth 100000 in
theorem okY_105 : okY 105 = true := by decide +kernel
set_option maxRecDepth 100000 in
theorem okM_106 : okM 106 = true := by decide +kernel
set_option maxRecDepth 100000 in
theorem okY_106 : okY 106 = true := by decide +kernel
set_option maxRecDepth 100000 in
theorem okM_107 : okM 107 = true := by decide +kernel
set_option maxRecDepth 100000 in
theorem okY_107 : okY 107 = true := by decide +kernel
set_option maxRecDepth 100000 in
theorem okM_108 : okM 108 = true := by decide +kernel
set_option maxRecDepth 100000 in
theorem okY_108 : okY 108 = true := by decide +kernel
set_option maxRecDepth 100000 in
theorem okM_109 : okM 109 = true := by decide +kernel
set_option maxRecDepth 100000 in
theorem okY_109 : okY 109 = true := by decide +kernel
set_option maxRecDepth 100000 in
theorem okM_110 : okM 110 = true := by decide +kernel
set_option maxRecDepth 100000 in
theorem okY_110 : okY 110 = true := by decide +kernel
set_option maxRecDepth 100000 in
theorem okM_111 : okM 111 = true := by decide +kernel
set_option maxRecDepth 100000 in
theorem okY_111 : okY 111 = true := by decide +kernel
set_option maxRecDepth 100000 in
theorem okM_112 : okM 112 = true := by decide +kernel
set_option maxRecDepth 100000 in
theorem okY_112 : okY 112 = true := by decide +kernel
set_option maxRecDepth 100000 in
theorem okM_114 : okM 114 = true := by decide +kernel
set_option maxRecDepth 100000 in
theorem okY_114 : okY 114 = true := by decide +kernel
set_option maxRecDepth 100000 in
theorem okM_115 : okM 115 = true := by decide +kernel
set_option maxRecDepth 100000 in
theorem okY_115 : okY 115 = true := by decide +kernel
set_option maxRecDepth 100000 in
theorem okM_116 : okM 116 = true := by decide +kernel
set_option maxRecDepth 100000 in
theorem okY_116 : okY 116 = true := by decide +kernel
set_option maxRecDepth 100000 in
theorem okM_117 : okM 117 = true := by decide +kernel
set_option maxRecDepth 100000 in
theorem okY_117 : okY 117 = true := by decide +kernel
set_option maxRecDepth 100000 in
theorem okM_119 : okM 119 = true := by decide +kernel
set_option maxRecDepth 100000 in
theorem okY_119 : okY 119 = true := by decide +kernel
set_option maxRecDepth 100000 in
theorem okM_120 : okM 120 = true := by decide +kernel
set_option maxRecDepth 100000 in
theorem okY_120 : okY 120 = true := by decide +kernel
set_option maxRecDepth 100000 in
theorem okM_121 : okM 121 = true := by decide +kernel
set_option maxRecDepth 100000 in
theorem okY_121 : okY 121 = true := by decide +kernel
set_option maxRecDepth 100000 in
theorem okM_122 : okM 122 = true := by decide +kernel
set_option maxRecDepth 100000 in
theorem okY_122 : okY 122 = true := by decide +kernel
set_option maxRecDepth 100000 in
theorem okM_123 : okM 123 = true := by decide +kernel
set_option maxRecDepth 100000 in
theorem okY_123 : okY 123 = true := by decide +kernel
set_option maxRecDepth 100000 in
theorem okM_124 : okM 124 = true := by decide +kernel
set_option maxRecDepth 100000 in
theorem okY_124 : okY 124 = true := by decide +kernel
set_option maxRecDepth 100000 in
theorem okM_125 : okM 125 = true := by decide +kernel
set_option maxRecDepth 100000 in
theorem okY_125 : okY 125 = true := by decide +kernel
set_option maxRecDepth 100000 in
theorem okM_126 : okM 126 = true := by decide +kernel
set_option maxRecDepth 100000 in
theorem okY_126 : okY 126 = true := by decide +kernel
set_option maxRecDepth 100000 in
theorem okM_127 : okM 127 = true := by decide +kernel
set_option maxRecDepth 100000 in
theorem okY_127 : okY 127 = true := by decide +kernel
set_option maxRecDepth 100000 in
theorem okM_128 : okM 128 = true := by decide +kernel
set_option maxRecDepth 100000 in
theorem okY_128 : okY 128 = true := by decide +kernel
set_option maxRecDepth 100000 in
theorem okM_129 : okM 129 = true := by decide +kernel
set_option maxRecDepth 100000 in
theorem okY_129 : okY 129 = true := by decide +kernel
set_option maxRecDepth 100000 in
theorem okM_130 : okM 130 = true := by decide +kernel
set_option maxRecDepth 100000 in
theorem okY_130 : okY 130 = true := by decide +kernel
set_option maxRecDepth 100000 in
theorem okM_131 : okM 131 = true := by decide +kernel
set_option maxRecDepth 100000 in
theorem okY_131 : okY 131 = true := by decide +kernel
set_option maxRecDepth 100000 in
theorem okM_132 : okM 132 = true := by decide +kernel
set_option maxRecDepth 100000 in
theorem okY_132 : okY 132 = true := by decide +kernel
set_option maxRecDepth 100000 in
theorem okM_133 : okM 133 = true := by decide +kernel
set_option maxRecDepth 100000 in
theorem okY_133 : okY 133 = true := by decide +kernel
set_option maxRecDepth 100000 in
theorem okM_134 : okM 134 = true := by decide +kernel
set_option maxRecDepth 100000 in
theorem okY_134 : okY 134 = true := by decide +kernel
set_option maxRecDepth 100000 in
theorem okM_135 : okM 135 = true := by decide +kernel
set_option maxRecDepth 100000 in
theorem okY_135 : okY 135 = true := by decide +kernel
set_option maxRecDepth 100000 in
theorem okM_136 : okM 136 = true := by decide +kernel
set_option maxRecDepth 100000 in
theorem okY_136 : okY 136 = true := by decide +kernel
set_option maxRecDepth 100000 in
theorem okM_137 : okM 137 = true := by decide +kernel
set_option maxRecDepth 100000 in
theorem okY_137 : okY 137 = true := by decide +kernel
set_option maxRecDepth 100000 in
theorem okM_138 : okM 138 = true := by decide +kernel
set_option maxRecDepth 100000 in
theorem okY_138 : okY 138 = true := by decide +kernel
set_option maxRecDepth 100000 in
theorem okM_139 : okM 139 = true := by decide +kernel
set_option maxRecDepth 100000 in
theorem okY_139 : okY 139 = true := by decide +kernel
set_option maxRecDepth 100000 in
theorem okM_140 : okM 140 = true := by decide +kernel
set_option maxRecDepth 100000 in
theorem okY_140 : okY 140 = true := by decide +kernel
set_option maxRecDepth 100000 in
theorem okM_141 : okM 141 = true := by decide +kernel
set_option maxRecDepth 100000 in
theorem okY_141 : okY 141 = true := by decide +kernel
