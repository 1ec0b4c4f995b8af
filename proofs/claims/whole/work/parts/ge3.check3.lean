/-! more checks -/
set_option maxRecDepth 100000 in
theorem tn_160 : tx_chkM lw_tbl "ContentRules$Document" tm_160 = true := by decide +kernel
set_option maxRecDepth 100000 in
theorem tn_161 : tx_chkM lw_tbl "ContentRules$Learner" tm_161 = true := by decide +kernel
set_option maxRecDepth 100000 in
theorem tn_162 : tx_chkM lw_tbl "ContentRules$Learner" tm_162 = true := by decide +kernel
set_option maxRecDepth 100000 in
theorem tn_163 : tx_chkM lw_tbl "ContentRules$Learner" tm_163 = true := by decide +kernel
set_option maxRecDepth 100000 in
theorem tn_164 : tx_chkM lw_tbl "ContentRules$Learner" tm_164 = true := by decide +kernel
set_option maxRecDepth 100000 in
theorem tn_165 : tx_chkM lw_tbl "ContentRules$Learner" tm_165 = true := by decide +kernel
set_option maxRecDepth 100000 in
theorem tn_166 : tx_chkM lw_tbl "ContentRules$Learner" tm_166 = true := by decide +kernel
set_option maxRecDepth 100000 in
theorem tn_167 : tx_chkM lw_tbl "ContentRules$Learner" tm_167 = true := by decide +kernel
set_option maxRecDepth 100000 in
theorem tn_168 : tx_chkM lw_tbl "ContentRules$Learner" tm_168 = true := by decide +kernel
set_option maxRecDepth 100000 in
theorem tn_169 : tx_chkM lw_tbl "ContentRules$Learner" tm_169 = true := by decide +kernel
set_option maxRecDepth 100000 in
theorem tn_170 : tx_chkM lw_tbl "ContentRules$Learner" tm_170 = true := by decide +kernel
set_option maxRecDepth 100000 in
theorem tn_171 : tx_chkM lw_tbl "ContentRules$Learner" tm_171 = true := by decide +kernel
set_option maxRecDepth 100000 in
theorem tn_172 : tx_chkM lw_tbl "ContentRules$Learner" tm_172 = true := by decide +kernel
set_option maxRecDepth 100000 in
theorem tn_173 : tx_chkM lw_tbl "ContentRules$Learner" tm_173 = true := by decide +kernel
set_option maxRecDepth 100000 in
theorem tn_174 : tx_chkM lw_tbl "ContentRules$Learner" tm_174 = true := by decide +kernel
set_option maxRecDepth 100000 in
theorem tn_175 : tx_chkM lw_tbl "ContentRules$Learner" tm_175 = true := by decide +kernel
set_option maxRecDepth 100000 in
theorem tn_176 : tx_chkM lw_tbl "ContentRules$Learner" tm_176 = true := by decide +kernel
set_option maxRecDepth 100000 in
theorem tn_177 : tx_chkM lw_tbl "ContentRules$Node" tm_177 = true := by decide +kernel
set_option maxRecDepth 100000 in
theorem tn_178 : tx_chkM lw_tbl "ContentRules$Node" tm_178 = true := by decide +kernel
set_option maxRecDepth 100000 in
theorem tn_179 : tx_chkM lw_tbl "ContentRules$Node" tm_179 = true := by decide +kernel
set_option maxRecDepth 100000 in
theorem tn_180 : tx_chkM lw_tbl "ContentRules$Node" tm_180 = true := by decide +kernel
set_option maxRecDepth 100000 in
theorem tn_181 : tx_chkM lw_tbl "ContentRules$Node" tm_181 = true := by decide +kernel
set_option maxRecDepth 100000 in
theorem tn_182 : tx_chkM lw_tbl "ContentRules$Reading" tm_182 = true := by decide +kernel
set_option maxRecDepth 100000 in
theorem tn_183 : tx_chkM lw_tbl "ContentRules$Reading" tm_183 = true := by decide +kernel
set_option maxRecDepth 100000 in
theorem tn_184 : tx_chkM lw_tbl "ContentRules$Reading" tm_184 = true := by decide +kernel
set_option maxRecDepth 100000 in
theorem tn_185 : tx_chkM lw_tbl "ContentRules$Reading" tm_185 = true := by decide +kernel
set_option maxRecDepth 100000 in
theorem tn_186 : tx_chkM lw_tbl "ContentRules$Reading" tm_186 = true := by decide +kernel
set_option maxRecDepth 100000 in
theorem tn_187 : tx_chkM lw_tbl "ContentRules$Reading" tm_187 = true := by decide +kernel
set_option maxRecDepth 100000 in
theorem tn_188 : tx_chkM lw_tbl "ContentRules$Reading" tm_188 = true := by decide +kernel
set_option maxRecDepth 100000 in
theorem tn_189 : tx_chkM lw_tbl "ContentRules$Reading" tm_189 = true := by decide +kernel
set_option maxRecDepth 100000 in
theorem tn_190 : tx_chkM lw_tbl "ContentRules$Reading" tm_190 = true := by decide +kernel
set_option maxRecDepth 100000 in
theorem tn_191 : tx_chkM lw_tbl "ContentRules$Reading" tm_191 = true := by decide +kernel
set_option maxRecDepth 100000 in
theorem tn_192 : tx_chkM lw_tbl "ContentRules$Rule" tm_192 = true := by decide +kernel
set_option maxRecDepth 100000 in
theorem tn_193 : tx_chkM lw_tbl "ContentRules$Rule" tm_193 = true := by decide +kernel
set_option maxRecDepth 100000 in
theorem tn_194 : tx_chkM lw_tbl "ContentRules$Rule" tm_194 = true := by decide +kernel
set_option maxRecDepth 100000 in
theorem tn_195 : tx_chkM lw_tbl "ContentRules$Rule" tm_195 = true := by decide +kernel
set_option maxRecDepth 100000 in
theorem tn_196 : tx_chkM lw_tbl "ContentRules$Rule" tm_196 = true := by decide +kernel
set_option maxRecDepth 100000 in
theorem tn_197 : tx_chkM lw_tbl "ContentRules$Rule" tm_197 = true := by decide +kernel
set_option maxRecDepth 100000 in
theorem tn_198 : tx_chkM lw_tbl "ContentRules$RuleSet" tm_198 = true := by decide +kernel
set_option maxRecDepth 100000 in
theorem tn_199 : tx_chkM lw_tbl "ContentRules$RuleSet" tm_199 = true := by decide +kernel
set_option maxRecDepth 100000 in
theorem tn_200 : tx_chkM lw_tbl "ContentRules$RuleSet" tm_200 = true := by decide +kernel
set_option maxRecDepth 100000 in
theorem tn_201 : tx_chkM lw_tbl "ContentRules$RuleSet" tm_201 = true := by decide +kernel
set_option maxRecDepth 100000 in
theorem tn_202 : tx_chkM lw_tbl "ContentRules$RuleSet" tm_202 = true := by decide +kernel
set_option maxRecDepth 100000 in
theorem tn_203 : tx_chkM lw_tbl "ContentRules$RuleSet" tm_203 = true := by decide +kernel
set_option maxRecDepth 100000 in
theorem tn_204 : tx_chkM lw_tbl "ContentRules$RuleSet" tm_204 = true := by decide +kernel
set_option maxRecDepth 100000 in
theorem tn_205 : tx_chkM lw_tbl "ContentRules$RuleSet" tm_205 = true := by decide +kernel
set_option maxRecDepth 100000 in
theorem tn_206 : tx_chkM lw_tbl "ContentRules$RuleSet" tm_206 = true := by decide +kernel
set_option maxRecDepth 100000 in
theorem tn_207 : tx_chkM lw_tbl "ContentRules$RuleSet" tm_207 = true := by decide +kernel
set_option maxRecDepth 100000 in
theorem tn_208 : tx_chkM lw_tbl "ContentRules$RuleSet" tm_208 = true := by decide +kernel
set_option maxRecDepth 100000 in
theorem tn_209 : tx_chkM lw_tbl "ContentRules$RuleSet" tm_209 = true := by decide +kernel
set_option maxRecDepth 100000 in
theorem tn_210 : tx_chkM lw_tbl "ContentRules$RuleSet" tm_210 = true := by decide +kernel
set_option maxRecDepth 100000 in
theorem tn_211 : tx_chkM lw_tbl "ContentRules$RuleSet" tm_211 = true := by decide +kernel
set_option maxRecDepth 100000 in
theorem tn_212 : tx_chkM lw_tbl "ContentRules$RuleSet" tm_212 = true := by decide +kernel
set_option maxRecDepth 100000 in
theorem tn_213 : tx_chkM lw_tbl "ContentRules$RuleSet" tm_213 = true := by decide +kernel
set_option maxRecDepth 100000 in
theorem tn_214 : tx_chkM lw_tbl "ContentRules$RuleSet" tm_214 = true := by decide +kernel
set_option maxRecDepth 100000 in
theorem tn_215 : tx_chkM lw_tbl "ContentRules$RuleSet" tm_215 = true := by decide +kernel
set_option maxRecDepth 100000 in
theorem tn_216 : tx_chkM lw_tbl "ContentRules$RuleSet" tm_216 = true := by decide +kernel
set_option maxRecDepth 100000 in
theorem tn_217 : tx_chkM lw_tbl "ContentRules$RuleSet" tm_217 = true := by decide +kernel
set_option maxRecDepth 100000 in
theorem tn_218 : tx_chkM lw_tbl "ContentRules$RuleSet" tm_218 = true := by decide +kernel
set_option maxRecDepth 100000 in
theorem tn_219 : tx_chkM lw_tbl "ContentRules$RuleSet" tm_219 = true := by decide +kernel
set_option maxRecDepth 100000 in
theorem tn_220 : tx_chkM lw_tbl "ContentRules$RuleSet" tm_220 = true := by decide +kernel
set_option maxRecDepth 100000 in
theorem tn_221 : tx_chkM lw_tbl "ContentRules$RuleSet" tm_221 = true := by decide +kernel
set_option maxRecDepth 100000 in
theorem tn_222 : tx_chkM lw_tbl "ContentRules$Speller" tm_222 = true := by decide +kernel
set_option maxRecDepth 100000 in
theorem tn_223 : tx_chkM lw_tbl "ContentRules$Speller" tm_223 = true := by decide +kernel
set_option maxRecDepth 100000 in
theorem tn_224 : tx_chkM lw_tbl "ContentRules$Speller" tm_224 = true := by decide +kernel
set_option maxRecDepth 100000 in
theorem tn_225 : tx_chkM lw_tbl "ContentRules$Speller" tm_225 = true := by decide +kernel
set_option maxRecDepth 100000 in
theorem tn_226 : tx_chkM lw_tbl "ContentRules$Speller" tm_226 = true := by decide +kernel
set_option maxRecDepth 100000 in
theorem tn_227 : tx_chkM lw_tbl "ContentRules$Speller" tm_227 = true := by decide +kernel
set_option maxRecDepth 100000 in
theorem tn_228 : tx_chkM lw_tbl "ContentRules$Speller" tm_228 = true := by decide +kernel
set_option maxRecDepth 100000 in
theorem tn_229 : tx_chkM lw_tbl "ContentRules$Speller" tm_229 = true := by decide +kernel
set_option maxRecDepth 100000 in
theorem tn_230 : tx_chkM lw_tbl "ContentRules$Speller" tm_230 = true := by decide +kernel
set_option maxRecDepth 100000 in
theorem tn_231 : tx_chkM lw_tbl "ContentRules$Speller" tm_231 = true := by decide +kernel
set_option maxRecDepth 100000 in
theorem tn_232 : tx_chkM lw_tbl "ContentRules$Speller" tm_232 = true := by decide +kernel
set_option maxRecDepth 100000 in
theorem tn_233 : tx_chkM lw_tbl "ContentRules$Speller" tm_233 = true := by decide +kernel
set_option maxRecDepth 100000 in
theorem tn_234 : tx_chkM lw_tbl "ContentRules$Speller" tm_234 = true := by decide +kernel
set_option maxRecDepth 100000 in
theorem tn_235 : tx_chkM lw_tbl "ContentRules$Speller" tm_235 = true := by decide +kernel
set_option maxRecDepth 100000 in
theorem tn_236 : tx_chkM lw_tbl "ContentRules$Speller" tm_236 = true := by decide +kernel
set_option maxRecDepth 100000 in
theorem tn_237 : tx_chkM lw_tbl "ContentRules$Speller" tm_237 = true := by decide +kernel
set_option maxRecDepth 100000 in
theorem tn_238 : tx_chkM lw_tbl "ContentRules$Speller" tm_238 = true := by decide +kernel
set_option maxRecDepth 100000 in
theorem tn_239 : tx_chkM lw_tbl "ContentRules$Speller" tm_239 = true := by decide +kernel
