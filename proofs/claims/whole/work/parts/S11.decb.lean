set_option maxRecDepth 100000 in
theorem am_ok134 : am_decs 5 1 prog_7_method_3_code am_p134 am_p134 am_c134 = true := by decide +kernel
set_option maxRecDepth 100000 in
theorem am_ok135 : am_decs 5 1 prog_7_method_4_code am_p135 am_p135 am_c135 = true := by decide +kernel
set_option maxRecDepth 100000 in
theorem am_ok136 : am_decs 5 0 prog_7_method_5_code am_p136 am_p136 am_c136 = true := by decide +kernel
set_option maxRecDepth 100000 in
theorem am_ok137 : am_decs 5 1 prog_7_method_6_code am_p137 am_p137 am_c137 = true := by decide +kernel
set_option maxRecDepth 100000 in
theorem am_ok138 : am_decs 5 1 prog_7_method_7_code am_p138 am_p138 am_c138 = true := by decide +kernel
set_option maxRecDepth 100000 in
theorem am_ok139 : am_decs 5 1 prog_7_method_8_code am_p139 am_p139 am_c139 = true := by decide +kernel
set_option maxRecDepth 100000 in
theorem am_ok140 : am_decs 5 0 prog_7_method_9_code am_p140 am_p140 am_c140 = true := by decide +kernel
set_option maxRecDepth 100000 in
theorem am_ok141 : am_decs 5 0 prog_7_method_10_code am_p141 am_p141 am_c141 = true := by decide +kernel
set_option maxRecDepth 100000 in
theorem am_ok142 : am_decs 5 0 prog_7_method_11_code am_p142 am_p142 am_c142 = true := by decide +kernel
set_option maxRecDepth 100000 in
theorem am_ok143 : am_decs 5 0 prog_7_method_12_code am_p143 am_p143 am_c143 = true := by decide +kernel
set_option maxRecDepth 100000 in
theorem am_ok144 : am_decs 5 0 prog_7_method_13_code am_p144 am_p144 am_c144 = true := by decide +kernel
set_option maxRecDepth 100000 in
theorem am_ok145 : am_decs 5 9 prog_7_method_14_code am_p145 am_p145 am_c145 = true := by decide +kernel
set_option maxRecDepth 100000 in
theorem am_ok146 : am_decs 5 9 prog_7_method_15_code am_p146 am_p146 am_c146 = true := by decide +kernel
set_option maxRecDepth 100000 in
theorem am_ok147 : am_decs 5 0 prog_7_method_16_code am_p147 am_p147 am_c147 = true := by decide +kernel
set_option maxRecDepth 100000 in
theorem am_ok148 : am_decs 5 0 prog_7_method_17_code am_p148 am_p148 am_c148 = true := by decide +kernel
set_option maxRecDepth 100000 in
theorem am_ok149 : am_decs 5 9 prog_7_method_18_code am_p149 am_p149 am_c149 = true := by decide +kernel
set_option maxRecDepth 100000 in
theorem am_ok150 : am_decs 5 9 prog_7_method_19_code am_p150 am_p150 am_c150 = true := by decide +kernel
set_option maxRecDepth 100000 in
theorem am_ok151 : am_decs 5 9 prog_7_method_20_code am_p151 am_p151 am_c151 = true := by decide +kernel
set_option maxRecDepth 100000 in
theorem am_ok152 : am_decs 1 9 prog_3_method_2_code am_p152 am_p152 am_c152 = true := by decide +kernel
set_option maxRecDepth 100000 in
theorem am_ok153 : am_decs 1 9 prog_3_method_3_code am_p153 am_p153 am_c153 = true := by decide +kernel
set_option maxRecDepth 100000 in
theorem am_ok154 : am_decs 1 0 prog_3_method_4_code am_p154 am_p154 am_c154 = true := by decide +kernel
set_option maxRecDepth 100000 in
theorem am_ok155 : am_decs 1 0 prog_3_method_5_code am_p155 am_p155 am_c155 = true := by decide +kernel
set_option maxRecDepth 100000 in
theorem am_ok156 : am_decs 1 0 prog_3_method_6_code am_p156 am_p156 am_c156 = true := by decide +kernel
set_option maxRecDepth 100000 in
theorem am_ok157 : am_decs 3 0 prog_5_method_2_code am_p157 am_p157 am_c157 = true := by decide +kernel
set_option maxRecDepth 100000 in
theorem am_ok158 : am_decs 3 9 prog_5_method_3_code am_p158 am_p158 am_c158 = true := by decide +kernel
set_option maxRecDepth 100000 in
theorem am_ok159 : am_decs 4 9 prog_6_method_2_code am_p159 am_p159 am_c159 = true := by decide +kernel
set_option maxRecDepth 100000 in
theorem am_ok160 : am_decs 2 9 prog_4_method_2_code am_p160 am_p160 am_c160 = true := by decide +kernel
set_option maxRecDepth 100000 in
theorem am_ok161 : am_decs 2 0 prog_4_method_3_code am_p161 am_p161 am_c161 = true := by decide +kernel
set_option maxRecDepth 100000 in
theorem am_ok162 : am_decs 2 9 prog_4_method_4_code am_p162 am_p162 am_c162 = true := by decide +kernel
set_option maxRecDepth 100000 in
theorem am_ok163 : am_decs 2 1 prog_4_method_5_code am_p163 am_p163 am_c163 = true := by decide +kernel
set_option maxRecDepth 100000 in
theorem am_ok164 : am_decs 2 1 prog_4_method_6_code am_p164 am_p164 am_c164 = true := by decide +kernel
set_option maxRecDepth 100000 in
theorem am_ok165 : am_decs 2 1 prog_4_method_7_code am_p165 am_p165 am_c165 = true := by decide +kernel
set_option maxRecDepth 100000 in
theorem am_ok166 : am_decs 2 0 prog_4_method_8_code am_p166 am_p166 am_c166 = true := by decide +kernel
set_option maxRecDepth 100000 in
theorem am_ok167 : am_decs 2 1 prog_4_method_9_code am_p167 am_p167 am_c167 = true := by decide +kernel
set_option maxRecDepth 100000 in
theorem am_ok168 : am_decs 2 0 prog_4_method_10_code am_p168 am_p168 am_c168 = true := by decide +kernel
set_option maxRecDepth 100000 in
theorem am_ok169 : am_decs 2 1 prog_4_method_11_code am_p169 am_p169 am_c169 = true := by decide +kernel
set_option maxRecDepth 100000 in
theorem am_ok170 : am_decs 2 1 prog_4_method_12_code am_p170 am_p170 am_c170 = true := by decide +kernel
set_option maxRecDepth 100000 in
theorem am_ok171 : am_decs 2 1 prog_4_method_13_code am_p171 am_p171 am_c171 = true := by decide +kernel
set_option maxRecDepth 100000 in
theorem am_ok172 : am_decs 2 1 prog_4_method_14_code am_p172 am_p172 am_c172 = true := by decide +kernel
set_option maxRecDepth 100000 in
theorem am_ok173 : am_decs 2 1 prog_4_method_15_code am_p173 am_p173 am_c173 = true := by decide +kernel
set_option maxRecDepth 100000 in
theorem am_ok174 : am_decs 2 1 prog_4_method_16_code am_p174 am_p174 am_c174 = true := by decide +kernel
set_option maxRecDepth 100000 in
theorem am_ok175 : am_decs 2 1 prog_4_method_17_code am_p175 am_p175 am_c175 = true := by decide +kernel
set_option maxRecDepth 100000 in
theorem am_ok176 : am_decs 2 1 prog_4_method_18_code am_p176 am_p176 am_c176 = true := by decide +kernel
set_option maxRecDepth 100000 in
theorem am_ok177 : am_decs 2 1 prog_4_method_19_code am_p177 am_p177 am_c177 = true := by decide +kernel
set_option maxRecDepth 100000 in
theorem am_ok178 : am_decs 2 1 prog_4_method_20_code am_p178 am_p178 am_c178 = true := by decide +kernel
set_option maxRecDepth 100000 in
theorem am_ok179 : am_decs 2 1 prog_4_method_21_code am_p179 am_p179 am_c179 = true := by decide +kernel
set_option maxRecDepth 100000 in
theorem am_ok180 : am_decs 2 1 prog_4_method_22_code am_p180 am_p180 am_c180 = true := by decide +kernel
set_option maxRecDepth 100000 in
theorem am_ok181 : am_decs 6 0 prog_1_method_2_code am_p181 am_p181 am_c181 = true := by decide +kernel
set_option maxRecDepth 100000 in
theorem am_ok182 : am_decs 6 0 prog_1_method_3_code am_p182 am_p182 am_c182 = true := by decide +kernel
set_option maxRecDepth 100000 in
theorem am_ok183 : am_decs 6 1 prog_1_method_4_code am_p183 am_p183 am_c183 = true := by decide +kernel
set_option maxRecDepth 100000 in
theorem am_ok184 : am_decs 6 0 prog_1_method_5_code am_p184 am_p184 am_c184 = true := by decide +kernel
set_option maxRecDepth 100000 in
theorem am_ok185 : am_decs 6 9 prog_1_method_6_code am_p185 am_p185 am_c185 = true := by decide +kernel
set_option maxRecDepth 100000 in
theorem am_ok186 : am_decs 6 1 prog_1_method_7_code am_p186 am_p186 am_c186 = true := by decide +kernel
set_option maxRecDepth 100000 in
theorem am_ok187 : am_decs 6 0 prog_1_method_8_code am_p187 am_p187 am_c187 = true := by decide +kernel
set_option maxRecDepth 100000 in
theorem am_ok188 : am_decs 6 0 prog_1_method_9_code am_p188 am_p188 am_c188 = true := by decide +kernel
set_option maxRecDepth 100000 in
theorem am_ok189 : am_decs 6 0 prog_1_method_10_code am_p189 am_p189 am_c189 = true := by decide +kernel
set_option maxRecDepth 100000 in
theorem am_ok190 : am_decs 6 1 prog_1_method_11_code am_p190 am_p190 am_c190 = true := by decide +kernel
set_option maxRecDepth 100000 in
theorem am_ok191 : am_decs 6 1 prog_1_method_12_code am_p191 am_p191 am_c191 = true := by decide +kernel
set_option maxRecDepth 100000 in
theorem am_ok192 : am_decs 6 1 prog_1_method_13_code am_p192 am_p192 am_c192 = true := by decide +kernel
set_option maxRecDepth 100000 in
theorem am_ok193 : am_decs 6 0 prog_1_method_14_code am_p193 am_p193 am_c193 = true := by decide +kernel
set_option maxRecDepth 100000 in
theorem am_ok194 : am_decs 6 9 prog_1_method_15_code am_p194 am_p194 am_c194 = true := by decide +kernel
set_option maxRecDepth 100000 in
theorem am_ok195 : am_decs 6 0 prog_1_method_16_code am_p195 am_p195 am_c195 = true := by decide +kernel
set_option maxRecDepth 100000 in
theorem am_ok196 : am_decs 6 9 prog_1_method_17_code am_p196 am_p196 am_c196 = true := by decide +kernel
set_option maxRecDepth 100000 in
theorem am_ok197 : am_decs 6 9 prog_1_method_18_code am_p197 am_p197 am_c197 = true := by decide +kernel
set_option maxRecDepth 100000 in
theorem am_ok198 : am_decs 6 1 prog_1_method_19_code am_p198 am_p198 am_c198 = true := by decide +kernel
set_option maxRecDepth 100000 in
theorem am_ok199 : am_decs 6 1 prog_1_method_20_code am_p199 am_p199 am_c199 = true := by decide +kernel
set_option maxRecDepth 100000 in
theorem am_ok200 : am_decs 6 0 prog_1_method_21_code am_p200 am_p200 am_c200 = true := by decide +kernel
set_option maxRecDepth 100000 in
theorem am_ok201 : am_decs 6 0 prog_1_method_22_code am_p201 am_p201 am_c201 = true := by decide +kernel
set_option maxRecDepth 100000 in
theorem am_ok202 : am_decs 6 0 prog_1_method_23_code am_p202 am_p202 am_c202 = true := by decide +kernel
set_option maxRecDepth 100000 in
theorem am_ok203 : am_decs 6 0 prog_1_method_24_code am_p203 am_p203 am_c203 = true := by decide +kernel
set_option maxRecDepth 100000 in
theorem am_ok204 : am_decs 6 0 prog_1_method_25_code am_p204 am_p204 am_c204 = true := by decide +kernel
set_option maxRecDepth 100000 in
theorem am_ok205 : am_decs 6 0 prog_1_method_26_code am_p205 am_p205 am_c205 = true := by decide +kernel
set_option maxRecDepth 100000 in
theorem am_ok206 : am_decs 6 0 prog_1_method_27_code am_p206 am_p206 am_c206 = true := by decide +kernel
set_option maxRecDepth 100000 in
theorem am_ok207 : am_decs 6 0 prog_1_method_28_code am_p207 am_p207 am_c207 = true := by decide +kernel
set_option maxRecDepth 100000 in
theorem am_ok208 : am_decs 6 0 prog_1_method_29_code am_p208 am_p208 am_c208 = true := by decide +kernel
set_option maxRecDepth 100000 in
theorem am_ok209 : am_decs 6 0 prog_1_method_30_code am_p209 am_p209 am_c209 = true := by decide +kernel
set_option maxRecDepth 100000 in
theorem am_ok210 : am_decs 6 0 prog_1_method_31_code am_p210 am_p210 am_c210 = true := by decide +kernel
set_option maxRecDepth 100000 in
theorem am_ok211 : am_decs 6 0 prog_1_method_32_code am_p211 am_p211 am_c211 = true := by decide +kernel
set_option maxRecDepth 100000 in
theorem am_ok212 : am_decs 6 0 prog_1_method_33_code am_p212 am_p212 am_c212 = true := by decide +kernel
set_option maxRecDepth 100000 in
theorem am_ok213 : am_decs 6 0 prog_1_method_34_code am_p213 am_p213 am_c213 = true := by decide +kernel
set_option maxRecDepth 100000 in
theorem am_ok214 : am_decs 6 0 prog_1_method_35_code am_p214 am_p214 am_c214 = true := by decide +kernel
set_option maxRecDepth 100000 in
theorem am_ok215 : am_decs 6 0 prog_1_method_36_code am_p215 am_p215 am_c215 = true := by decide +kernel
set_option maxRecDepth 100000 in
theorem am_ok216 : am_decs 6 0 prog_1_method_37_code am_p216 am_p216 am_c216 = true := by decide +kernel
set_option maxRecDepth 100000 in
theorem am_ok217 : am_decs 6 1 prog_1_method_38_code am_p217 am_p217 am_c217 = true := by decide +kernel
set_option maxRecDepth 100000 in
theorem am_ok218 : am_decs 6 1 prog_1_method_39_code am_p218 am_p218 am_c218 = true := by decide +kernel
set_option maxRecDepth 100000 in
theorem am_ok219 : am_decs 6 0 prog_1_method_40_code am_p219 am_p219 am_c219 = true := by decide +kernel
set_option maxRecDepth 100000 in
theorem am_ok220 : am_decs 6 0 prog_1_method_41_code am_p220 am_p220 am_c220 = true := by decide +kernel
set_option maxRecDepth 100000 in
theorem am_ok221 : am_decs 6 0 prog_1_method_42_code am_p221 am_p221 am_c221 = true := by decide +kernel
set_option maxRecDepth 100000 in
theorem am_ok222 : am_decs 6 1 prog_1_method_43_code am_p222 am_p222 am_c222 = true := by decide +kernel
set_option maxRecDepth 100000 in
theorem am_ok223 : am_decs 6 1 prog_1_method_44_code am_p223 am_p223 am_c223 = true := by decide +kernel
set_option maxRecDepth 100000 in
theorem am_ok224 : am_decs 6 1 prog_1_method_45_code am_p224 am_p224 am_c224 = true := by decide +kernel
set_option maxRecDepth 100000 in
theorem am_ok225 : am_decs 6 0 prog_1_method_46_code am_p225 am_p225 am_c225 = true := by decide +kernel
set_option maxRecDepth 100000 in
theorem am_ok226 : am_decs 6 9 prog_1_method_47_code am_p226 am_p226 am_c226 = true := by decide +kernel
set_option maxRecDepth 100000 in
theorem am_ok227 : am_decs 6 0 prog_1_method_48_code am_p227 am_p227 am_c227 = true := by decide +kernel
set_option maxRecDepth 100000 in
theorem am_ok228 : am_decs 6 0 prog_1_method_49_code am_p228 am_p228 am_c228 = true := by decide +kernel
set_option maxRecDepth 100000 in
theorem am_ok229 : am_decs 6 0 prog_1_method_50_code am_p229 am_p229 am_c229 = true := by decide +kernel
set_option maxRecDepth 100000 in
theorem am_ok230 : am_decs 6 0 prog_1_method_51_code am_p230 am_p230 am_c230 = true := by decide +kernel
set_option maxRecDepth 100000 in
theorem am_ok231 : am_decs 6 0 prog_1_method_53_code am_p231 am_p231 am_c231 = true := by decide +kernel
set_option maxRecDepth 100000 in
theorem am_ok232 : am_decs 6 0 prog_1_method_54_code am_p232 am_p232 am_c232 = true := by decide +kernel
set_option maxRecDepth 100000 in
theorem am_ok233 : am_decs 6 0 prog_1_method_55_code am_p233 am_p233 am_c233 = true := by decide +kernel
set_option maxRecDepth 100000 in
theorem am_ok234 : am_decs 6 0 prog_1_method_56_code am_p234 am_p234 am_c234 = true := by decide +kernel
set_option maxRecDepth 100000 in
theorem am_ok235 : am_decs 6 9 prog_1_method_57_code am_p235 am_p235 am_c235 = true := by decide +kernel
set_option maxRecDepth 100000 in
theorem am_ok236 : am_decs 6 0 prog_1_method_58_code am_p236 am_p236 am_c236 = true := by decide +kernel
set_option maxRecDepth 100000 in
theorem am_ok237 : am_decs 6 9 prog_1_method_59_code am_p237 am_p237 am_c237 = true := by decide +kernel
set_option maxRecDepth 100000 in
theorem am_ok238 : am_decs 6 0 prog_1_method_60_code am_p238 am_p238 am_c238 = true := by decide +kernel
set_option maxRecDepth 100000 in
theorem am_ok239 : am_decs 6 0 prog_1_method_61_code am_p239 am_p239 am_c239 = true := by decide +kernel
set_option maxRecDepth 100000 in
theorem am_ok240 : am_decs 6 0 prog_1_method_62_code am_p240 am_p240 am_c240 = true := by decide +kernel
set_option maxRecDepth 100000 in
theorem am_ok241 : am_decs 6 0 prog_1_method_63_code am_p241 am_p241 am_c241 = true := by decide +kernel
set_option maxRecDepth 100000 in
theorem am_ok242 : am_decs 6 0 prog_1_method_64_code am_p242 am_p242 am_c242 = true := by decide +kernel
set_option maxRecDepth 100000 in
theorem am_ok243 : am_decs 6 1 prog_1_method_65_code am_p243 am_p243 am_c243 = true := by decide +kernel
set_option maxRecDepth 100000 in
theorem am_ok244 : am_decs 6 0 prog_1_method_66_code am_p244 am_p244 am_c244 = true := by decide +kernel
set_option maxRecDepth 100000 in
theorem am_ok245 : am_decs 6 0 prog_1_method_67_code am_p245 am_p245 am_c245 = true := by decide +kernel
set_option maxRecDepth 100000 in
theorem am_ok246 : am_decs 6 0 prog_1_method_68_code am_p246 am_p246 am_c246 = true := by decide +kernel
set_option maxRecDepth 100000 in
theorem am_ok247 : am_decs 6 0 prog_1_method_69_code am_p247 am_p247 am_c247 = true := by decide +kernel
set_option maxRecDepth 100000 in
theorem am_ok248 : am_decs 6 0 prog_1_method_70_code am_p248 am_p248 am_c248 = true := by decide +kernel
set_option maxRecDepth 100000 in
theorem am_ok249 : am_decs 6 0 prog_1_method_71_code am_p249 am_p249 am_c249 = true := by decide +kernel
set_option maxRecDepth 100000 in
theorem am_ok250 : am_decs 6 0 prog_1_method_72_code am_p250 am_p250 am_c250 = true := by decide +kernel
set_option maxRecDepth 100000 in
theorem am_ok251 : am_decs 6 9 prog_1_method_73_code am_p251 am_p251 am_c251 = true := by decide +kernel
set_option maxRecDepth 100000 in
theorem am_ok252 : am_decs 6 0 prog_1_method_74_code am_p252 am_p252 am_c252 = true := by decide +kernel
set_option maxRecDepth 100000 in
theorem am_ok253 : am_decs 6 1 prog_1_method_75_code am_p253 am_p253 am_c253 = true := by decide +kernel
set_option maxRecDepth 100000 in
theorem am_ok254 : am_decs 6 0 prog_1_method_76_code am_p254 am_p254 am_c254 = true := by decide +kernel
set_option maxRecDepth 100000 in
theorem am_ok255 : am_decs 9 0 prog_10_method_49_code am_p255 am_p255 am_c255 = true := by decide +kernel
set_option maxRecDepth 100000 in
theorem am_ok256 : am_decs 11 0 prog_12_method_54_code am_p256 am_p256 am_c256 = true := by decide +kernel
set_option maxRecDepth 100000 in
theorem am_ok257 : am_decs 11 2 prog_12_method_56_code am_p257 am_p257 am_c257 = true := by decide +kernel
set_option maxRecDepth 100000 in
theorem am_ok258 : am_decs 11 3 prog_12_method_152_code am_p258 am_p258 am_c258 = true := by decide +kernel
set_option maxRecDepth 100000 in
theorem am_ok259 : am_decs 11 1 prog_12_method_154_code am_p259 am_p259 am_c259 = true := by decide +kernel
set_option maxRecDepth 100000 in
theorem am_ok260 : am_decs 11 9 prog_12_method_155_code am_p260 am_p260 am_c260 = true := by decide +kernel
set_option maxRecDepth 100000 in
theorem am_ok261 : am_decs 12 2 prog_13_method_2_code am_p261 am_p261 am_c261 = true := by decide +kernel
set_option maxRecDepth 100000 in
theorem am_ok262 : am_decs 13 0 prog_16_method_11_code am_p262 am_p262 am_c262 = true := by decide +kernel
set_option maxRecDepth 100000 in
theorem am_ok263 : am_decs 6 0 prog_1_method_52_code am_p263 am_p263 am_c263 = true := by decide +kernel
