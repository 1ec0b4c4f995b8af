/-! more checks -/
set_option maxRecDepth 100000 in
theorem tn_80 : tx_chkM lw_tbl "ContentRulesModel" tm_80 = true := by decide +kernel
set_option maxRecDepth 100000 in
theorem tn_81 : tx_chkM lw_tbl "ContentRulesModel" tm_81 = true := by decide +kernel
set_option maxRecDepth 100000 in
theorem tn_82 : tx_chkM lw_tbl "ContentRulesModel" tm_82 = true := by decide +kernel
set_option maxRecDepth 100000 in
theorem tn_83 : tx_chkM lw_tbl "ContentRulesModel" tm_83 = true := by decide +kernel
set_option maxRecDepth 100000 in
theorem tn_84 : tx_chkM lw_tbl "ContentRulesModel" tm_84 = true := by decide +kernel
set_option maxRecDepth 100000 in
theorem tn_85 : tx_chkM lw_tbl "ContentRulesModel" tm_85 = true := by decide +kernel
set_option maxRecDepth 100000 in
theorem tn_86 : tx_chkM lw_tbl "ContentRulesModel" tm_86 = true := by decide +kernel
set_option maxRecDepth 100000 in
theorem tn_87 : tx_chkM lw_tbl "ContentRulesModel" tm_87 = true := by decide +kernel
set_option maxRecDepth 100000 in
theorem tn_88 : tx_chkM lw_tbl "ContentRulesModel" tm_88 = true := by decide +kernel
set_option maxRecDepth 100000 in
theorem tn_89 : tx_chkM lw_tbl "ContentRulesModel" tm_89 = true := by decide +kernel
set_option maxRecDepth 100000 in
theorem tn_90 : tx_chkM lw_tbl "ContentRulesModel" tm_90 = true := by decide +kernel
set_option maxRecDepth 100000 in
theorem tn_91 : tx_chkM lw_tbl "ContentRulesModel" tm_91 = true := by decide +kernel
set_option maxRecDepth 100000 in
theorem tn_92 : tx_chkM lw_tbl "ContentRulesModel" tm_92 = true := by decide +kernel
set_option maxRecDepth 100000 in
theorem tn_93 : tx_chkM lw_tbl "ContentRulesModel" tm_93 = true := by decide +kernel
set_option maxRecDepth 100000 in
theorem tn_94 : tx_chkM lw_tbl "ContentRulesModel" tm_94 = true := by decide +kernel
set_option maxRecDepth 100000 in
theorem tn_95 : tx_chkM lw_tbl "ContentRulesModel" tm_95 = true := by decide +kernel
set_option maxRecDepth 100000 in
theorem tn_96 : tx_chkM lw_tbl "ContentRulesModel" tm_96 = true := by decide +kernel
set_option maxRecDepth 100000 in
theorem tn_97 : tx_chkM lw_tbl "ContentRulesModel" tm_97 = true := by decide +kernel
set_option maxRecDepth 100000 in
theorem tn_98 : tx_chkM lw_tbl "ContentRulesModel" tm_98 = true := by decide +kernel
set_option maxRecDepth 100000 in
theorem tn_99 : tx_chkM lw_tbl "ContentRulesModel" tm_99 = true := by decide +kernel
set_option maxRecDepth 100000 in
theorem tn_100 : tx_chkM lw_tbl "ContentRulesModel" tm_100 = true := by decide +kernel
set_option maxRecDepth 100000 in
theorem tn_101 : tx_chkM lw_tbl "ContentRulesModel" tm_101 = true := by decide +kernel
set_option maxRecDepth 100000 in
theorem tn_102 : tx_chkM lw_tbl "ContentRulesModel" tm_102 = true := by decide +kernel
set_option maxRecDepth 100000 in
theorem tn_103 : tx_chkM lw_tbl "ContentRulesModel" tm_103 = true := by decide +kernel
set_option maxRecDepth 100000 in
theorem tn_104 : tx_chkM lw_tbl "ContentRulesModel" tm_104 = true := by decide +kernel
set_option maxRecDepth 100000 in
theorem tn_105 : tx_chkM lw_tbl "ContentRulesModel" tm_105 = true := by decide +kernel
set_option maxRecDepth 100000 in
theorem tn_106 : tx_chkM lw_tbl "ContentRulesModel" tm_106 = true := by decide +kernel
set_option maxRecDepth 100000 in
theorem tn_107 : tx_chkM lw_tbl "ContentRulesModel" tm_107 = true := by decide +kernel
set_option maxRecDepth 100000 in
theorem tn_108 : tx_chkM lw_tbl "ContentRulesModel" tm_108 = true := by decide +kernel
set_option maxRecDepth 100000 in
theorem tn_109 : tx_chkM lw_tbl "ContentRulesModel" tm_109 = true := by decide +kernel
set_option maxRecDepth 100000 in
theorem tn_110 : tx_chkM lw_tbl "ContentRulesModel" tm_110 = true := by decide +kernel
set_option maxRecDepth 100000 in
theorem tn_111 : tx_chkM lw_tbl "ContentRulesModel" tm_111 = true := by decide +kernel
set_option maxRecDepth 100000 in
theorem tn_112 : tx_chkM lw_tbl "ContentRulesModel" tm_112 = true := by decide +kernel
set_option maxRecDepth 100000 in
theorem tn_113 : tx_chkM lw_tbl "ContentRulesModel" tm_113 = true := by decide +kernel
set_option maxRecDepth 100000 in
theorem tn_114 : tx_chkM lw_tbl "ContentRulesModel" tm_114 = true := by decide +kernel
set_option maxRecDepth 100000 in
theorem tn_115 : tx_chkM lw_tbl "ContentRulesModel" tm_115 = true := by decide +kernel
set_option maxRecDepth 100000 in
theorem tn_116 : tx_chkM lw_tbl "ContentRulesModel" tm_116 = true := by decide +kernel
set_option maxRecDepth 100000 in
theorem tn_117 : tx_chkM lw_tbl "ContentRulesModel" tm_117 = true := by decide +kernel
set_option maxRecDepth 100000 in
theorem tn_118 : tx_chkM lw_tbl "ContentRulesModel" tm_118 = true := by decide +kernel
set_option maxRecDepth 100000 in
theorem tn_119 : tx_chkM lw_tbl "ContentRulesModel" tm_119 = true := by decide +kernel
set_option maxRecDepth 100000 in
theorem tn_120 : tx_chkM lw_tbl "ContentRulesModel" tm_120 = true := by decide +kernel
set_option maxRecDepth 100000 in
theorem tn_121 : tx_chkM lw_tbl "ContentRulesModel" tm_121 = true := by decide +kernel
set_option maxRecDepth 100000 in
theorem tn_122 : tx_chkM lw_tbl "ContentRulesModel" tm_122 = true := by decide +kernel
set_option maxRecDepth 100000 in
theorem tn_123 : tx_chkM lw_tbl "ContentRulesModel" tm_123 = true := by decide +kernel
set_option maxRecDepth 100000 in
theorem tn_124 : tx_chkM lw_tbl "ContentRulesModel" tm_124 = true := by decide +kernel
set_option maxRecDepth 100000 in
theorem tn_125 : tx_chkM lw_tbl "ContentRulesModel" tm_125 = true := by decide +kernel
set_option maxRecDepth 100000 in
theorem tn_126 : tx_chkM lw_tbl "ContentRulesModel" tm_126 = true := by decide +kernel
set_option maxRecDepth 100000 in
theorem tn_127 : tx_chkM lw_tbl "ContentRulesModel" tm_127 = true := by decide +kernel
set_option maxRecDepth 100000 in
theorem tn_128 : tx_chkM lw_tbl "ContentRulesModel" tm_128 = true := by decide +kernel
set_option maxRecDepth 100000 in
theorem tn_129 : tx_chkM lw_tbl "ContentRulesModel" tm_129 = true := by decide +kernel
set_option maxRecDepth 100000 in
theorem tn_130 : tx_chkM lw_tbl "ContentRulesModel" tm_130 = true := by decide +kernel
set_option maxRecDepth 100000 in
theorem tn_131 : tx_chkM lw_tbl "ContentRulesModel" tm_131 = true := by decide +kernel
set_option maxRecDepth 100000 in
theorem tn_132 : tx_chkM lw_tbl "ContentRules$Difference" tm_132 = true := by decide +kernel
set_option maxRecDepth 100000 in
theorem tn_133 : tx_chkM lw_tbl "ContentRules$Difference" tm_133 = true := by decide +kernel
set_option maxRecDepth 100000 in
theorem tn_134 : tx_chkM lw_tbl "ContentRules$Difference" tm_134 = true := by decide +kernel
set_option maxRecDepth 100000 in
theorem tn_135 : tx_chkM lw_tbl "ContentRules$Difference" tm_135 = true := by decide +kernel
set_option maxRecDepth 100000 in
theorem tn_136 : tx_chkM lw_tbl "ContentRules$Difference" tm_136 = true := by decide +kernel
set_option maxRecDepth 100000 in
theorem tn_137 : tx_chkM lw_tbl "ContentRules$Difference" tm_137 = true := by decide +kernel
set_option maxRecDepth 100000 in
theorem tn_138 : tx_chkM lw_tbl "ContentRules$Difference" tm_138 = true := by decide +kernel
set_option maxRecDepth 100000 in
theorem tn_139 : tx_chkM lw_tbl "ContentRules$Difference" tm_139 = true := by decide +kernel
set_option maxRecDepth 100000 in
theorem tn_140 : tx_chkM lw_tbl "ContentRules$Difference" tm_140 = true := by decide +kernel
set_option maxRecDepth 100000 in
theorem tn_141 : tx_chkM lw_tbl "ContentRules$Difference" tm_141 = true := by decide +kernel
set_option maxRecDepth 100000 in
theorem tn_142 : tx_chkM lw_tbl "ContentRules$Difference" tm_142 = true := by decide +kernel
set_option maxRecDepth 100000 in
theorem tn_143 : tx_chkM lw_tbl "ContentRules$Difference" tm_143 = true := by decide +kernel
set_option maxRecDepth 100000 in
theorem tn_144 : tx_chkM lw_tbl "ContentRules$Document" tm_144 = true := by decide +kernel
set_option maxRecDepth 100000 in
theorem tn_145 : tx_chkM lw_tbl "ContentRules$Document" tm_145 = true := by decide +kernel
set_option maxRecDepth 100000 in
theorem tn_146 : tx_chkM lw_tbl "ContentRules$Document" tm_146 = true := by decide +kernel
set_option maxRecDepth 100000 in
theorem tn_147 : tx_chkM lw_tbl "ContentRules$Document" tm_147 = true := by decide +kernel
set_option maxRecDepth 100000 in
theorem tn_148 : tx_chkM lw_tbl "ContentRules$Document" tm_148 = true := by decide +kernel
set_option maxRecDepth 100000 in
theorem tn_149 : tx_chkM lw_tbl "ContentRules$Document" tm_149 = true := by decide +kernel
set_option maxRecDepth 100000 in
theorem tn_150 : tx_chkM lw_tbl "ContentRules$Document" tm_150 = true := by decide +kernel
set_option maxRecDepth 100000 in
theorem tn_151 : tx_chkM lw_tbl "ContentRules$Document" tm_151 = true := by decide +kernel
set_option maxRecDepth 100000 in
theorem tn_152 : tx_chkM lw_tbl "ContentRules$Document" tm_152 = true := by decide +kernel
set_option maxRecDepth 100000 in
theorem tn_153 : tx_chkM lw_tbl "ContentRules$Document" tm_153 = true := by decide +kernel
set_option maxRecDepth 100000 in
theorem tn_154 : tx_chkM lw_tbl "ContentRules$Document" tm_154 = true := by decide +kernel
set_option maxRecDepth 100000 in
theorem tn_155 : tx_chkM lw_tbl "ContentRules$Document" tm_155 = true := by decide +kernel
set_option maxRecDepth 100000 in
theorem tn_156 : tx_chkM lw_tbl "ContentRules$Document" tm_156 = true := by decide +kernel
set_option maxRecDepth 100000 in
theorem tn_157 : tx_chkM lw_tbl "ContentRules$Document" tm_157 = true := by decide +kernel
set_option maxRecDepth 100000 in
theorem tn_158 : tx_chkM lw_tbl "ContentRules$Document" tm_158 = true := by decide +kernel
set_option maxRecDepth 100000 in
theorem tn_159 : tx_chkM lw_tbl "ContentRules$Document" tm_159 = true := by decide +kernel
