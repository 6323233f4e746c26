-- needs: 01 02 03 04 04b 09 09b 10 11 12 13 14 15 15b 16 16a 16b 17
/-! every method's bytes are its instructions (written by gendk.py) -/
def am_DKj (j : Nat) : Prop := am_DK (am_ow j) (am_rt j) (am_b j) (am_pp j) (am_code j)
theorem am_dk0 : am_DKj 0 := am_decs_at am_p0 am_c0 am_ok0
theorem am_dk1 : am_DKj 1 := am_decs_at am_p1 am_c1 am_ok1
theorem am_dk2 : am_DKj 2 := am_decs_at am_p2 am_c2 am_ok2
theorem am_dk3 : am_DKj 3 := am_decs_at am_p3 am_c3 am_ok3
theorem am_dk4 : am_DKj 4 := am_decs_at am_p4 am_c4 am_ok4
theorem am_dk5 : am_DKj 5 := am_decs_at am_p5 am_c5 am_ok5
theorem am_dk6 : am_DKj 6 := am_decs_at am_p6 am_c6 am_ok6
theorem am_dk7 : am_DKj 7 := am_decs_at am_p7 am_c7 am_ok7
theorem am_dk8 : am_DKj 8 := am_decs_at am_p8 am_c8 am_ok8
theorem am_dk9 : am_DKj 9 := am_decs_at am_p9 am_c9 am_ok9
theorem am_dk10 : am_DKj 10 := am_decs_at am_p10 am_c10 am_ok10
theorem am_dk11 : am_DKj 11 := am_decs_at am_p11 am_c11 am_ok11
theorem am_dk12 : am_DKj 12 := am_decs_at am_p12 am_c12 am_ok12
theorem am_dk13 : am_DKj 13 := am_decs_at am_p13 am_c13 am_ok13
theorem am_dk14 : am_DKj 14 := am_decs_at am_p14 am_c14 am_ok14
theorem am_dk15 : am_DKj 15 := am_decs_at am_p15 am_c15 am_ok15
theorem am_dk16 : am_DKj 16 := am_decs_at am_p16 am_c16 am_ok16
theorem am_dk17 : am_DKj 17 := am_decs_at am_p17 am_c17 am_ok17
theorem am_dk18 : am_DKj 18 := am_decs_at am_p18 am_c18 am_ok18
theorem am_dk19 : am_DKj 19 := am_decs_at am_p19 am_c19 am_ok19
theorem am_dk20 : am_DKj 20 := am_decs_at am_p20 am_c20 am_ok20
theorem am_dk21 : am_DKj 21 := am_decs_at am_p21 am_c21 am_ok21
theorem am_dk22 : am_DKj 22 := am_decs_at am_p22 am_c22 am_ok22
theorem am_dk23 : am_DKj 23 := am_decs_at am_p23 am_c23 am_ok23
theorem am_dk24 : am_DKj 24 := am_decs_at am_p24 am_c24 am_ok24
theorem am_dk25 : am_DKj 25 := am_decs_at am_p25 am_c25 am_ok25
theorem am_dk26 : am_DKj 26 := am_decs_at am_p26 am_c26 am_ok26
theorem am_dk27 : am_DKj 27 := am_decs_at am_p27 am_c27 am_ok27
theorem am_dk28 : am_DKj 28 := am_decs_at am_p28 am_c28 am_ok28
theorem am_dk29 : am_DKj 29 := am_decs_at am_p29 am_c29 am_ok29
theorem am_dk30 : am_DKj 30 := am_decs_at am_p30 am_c30 am_ok30
theorem am_dk31 : am_DKj 31 := am_decs_at am_p31 am_c31 am_ok31
theorem am_dk32 : am_DKj 32 := am_decs_at am_p32 am_c32 am_ok32
theorem am_dk33 : am_DKj 33 := am_decs_at am_p33 am_c33 am_ok33
theorem am_dk34 : am_DKj 34 := am_decs_at am_p34 am_c34 am_ok34
theorem am_dk35 : am_DKj 35 := am_decs_at am_p35 am_c35 am_ok35
theorem am_dk36 : am_DKj 36 := am_decs_at am_p36 am_c36 am_ok36
theorem am_dk37 : am_DKj 37 := am_decs_at am_p37 am_c37 am_ok37
theorem am_dk38 : am_DKj 38 := am_decs_at am_p38 am_c38 am_ok38
theorem am_dk39 : am_DKj 39 := am_decs_at am_p39 am_c39 am_ok39
theorem am_dk40 : am_DKj 40 := am_decs_at am_p40 am_c40 am_ok40
theorem am_dk41 : am_DKj 41 := am_decs_at am_p41 am_c41 am_ok41
theorem am_dk42 : am_DKj 42 := am_decs_at am_p42 am_c42 am_ok42
theorem am_dk43 : am_DKj 43 := am_decs_at am_p43 am_c43 am_ok43
theorem am_dk44 : am_DKj 44 := am_decs_at am_p44 am_c44 am_ok44
theorem am_dk45 : am_DKj 45 := am_decs_at am_p45 am_c45 am_ok45
theorem am_dk46 : am_DKj 46 := am_decs_at am_p46 am_c46 am_ok46
theorem am_dk47 : am_DKj 47 := am_decs_at am_p47 am_c47 am_ok47
theorem am_dk48 : am_DKj 48 := am_decs_at am_p48 am_c48 am_ok48
theorem am_dk49 : am_DKj 49 := am_decs_at am_p49 am_c49 am_ok49
theorem am_dk50 : am_DKj 50 := am_decs_at am_p50 am_c50 am_ok50
theorem am_dk51 : am_DKj 51 := am_decs_at am_p51 am_c51 am_ok51
theorem am_dk52 : am_DKj 52 := am_decs_at am_p52 am_c52 am_ok52
theorem am_dk53 : am_DKj 53 := am_decs_at am_p53 am_c53 am_ok53
theorem am_dk54 : am_DKj 54 := am_decs_at am_p54 am_c54 am_ok54
theorem am_dk55 : am_DKj 55 := am_decs_at am_p55 am_c55 am_ok55
theorem am_dk56 : am_DKj 56 := am_decs_at am_p56 am_c56 am_ok56
theorem am_dk57 : am_DKj 57 := am_decs_at am_p57 am_c57 am_ok57
theorem am_dk58 : am_DKj 58 := am_decs_at am_p58 am_c58 am_ok58
theorem am_dk59 : am_DKj 59 := am_decs_at am_p59 am_c59 am_ok59
theorem am_dk60 : am_DKj 60 := am_decs_at am_p60 am_c60 am_ok60
theorem am_dk61 : am_DKj 61 := am_decs_at am_p61 am_c61 am_ok61
theorem am_dk62 : am_DKj 62 := am_decs_at am_p62 am_c62 am_ok62
theorem am_dk63 : am_DKj 63 := am_decs_at am_p63 am_c63 am_ok63
theorem am_dk64 : am_DKj 64 := am_decs_at am_p64 am_c64 am_ok64
theorem am_dk65 : am_DKj 65 := am_decs_at am_p65 am_c65 am_ok65
theorem am_dk66 : am_DKj 66 := am_decs_at am_p66 am_c66 am_ok66
theorem am_dk67 : am_DKj 67 := am_decs_at am_p67 am_c67 am_ok67
theorem am_dk68 : am_DKj 68 := am_decs_at am_p68 am_c68 am_ok68
theorem am_dk69 : am_DKj 69 := am_decs_at am_p69 am_c69 am_ok69
theorem am_dk70 : am_DKj 70 := am_decs_at am_p70 am_c70 am_ok70
theorem am_dk71 : am_DKj 71 := am_decs_at am_p71 am_c71 am_ok71
theorem am_dk72 : am_DKj 72 := am_decs_at am_p72 am_c72 am_ok72
theorem am_dk73 : am_DKj 73 := am_decs_at am_p73 am_c73 am_ok73
theorem am_dk74 : am_DKj 74 := am_decs_at am_p74 am_c74 am_ok74
theorem am_dk75 : am_DKj 75 := am_decs_at am_p75 am_c75 am_ok75
theorem am_dk76 : am_DKj 76 := am_decs_at am_p76 am_c76 am_ok76
theorem am_dk77 : am_DKj 77 := am_decs_at am_p77 am_c77 am_ok77
theorem am_dk78 : am_DKj 78 := am_decs_at am_p78 am_c78 am_ok78
theorem am_dk79 : am_DKj 79 := am_decs_at am_p79 am_c79 am_ok79
theorem am_dk80 : am_DKj 80 := am_decs_at am_p80 am_c80 am_ok80
theorem am_dk81 : am_DKj 81 := am_decs_at am_p81 am_c81 am_ok81
theorem am_dk82 : am_DKj 82 := am_decs_at am_p82 am_c82 am_ok82
theorem am_dk83 : am_DKj 83 := am_decs_at am_p83 am_c83 am_ok83
theorem am_dk84 : am_DKj 84 := am_decs_at am_p84 am_c84 am_ok84
theorem am_dk85 : am_DKj 85 := am_decs_at am_p85 am_c85 am_ok85
theorem am_dk86 : am_DKj 86 := am_decs_at am_p86 am_c86 am_ok86
theorem am_dk87 : am_DKj 87 := am_decs_at am_p87 am_c87 am_ok87
theorem am_dk88 : am_DKj 88 := am_decs_at am_p88 am_c88 am_ok88
theorem am_dk89 : am_DKj 89 := am_decs_at am_p89 am_c89 am_ok89
theorem am_dk90 : am_DKj 90 := am_decs_at am_p90 am_c90 am_ok90
theorem am_dk91 : am_DKj 91 := am_decs_at am_p91 am_c91 am_ok91
theorem am_dk92 : am_DKj 92 := am_decs_at am_p92 am_c92 am_ok92
theorem am_dk93 : am_DKj 93 := am_decs_at am_p93 am_c93 am_ok93
theorem am_dk94 : am_DKj 94 := am_decs_at am_p94 am_c94 am_ok94
theorem am_dk95 : am_DKj 95 := am_decs_at am_p95 am_c95 am_ok95
theorem am_dk96 : am_DKj 96 := am_decs_at am_p96 am_c96 am_ok96
theorem am_dk97 : am_DKj 97 := am_decs_at am_p97 am_c97 am_ok97
theorem am_dk98 : am_DKj 98 := am_decs_at am_p98 am_c98 am_ok98
theorem am_dk99 : am_DKj 99 := am_decs_at am_p99 am_c99 am_ok99
theorem am_dk100 : am_DKj 100 := am_decs_at am_p100 am_c100 am_ok100
theorem am_dk101 : am_DKj 101 := am_decs_at am_p101 am_c101 am_ok101
theorem am_dk102 : am_DKj 102 := am_decs_at am_p102 am_c102 am_ok102
theorem am_dk103 : am_DKj 103 := am_decs_at am_p103 am_c103 am_ok103
theorem am_dk104 : am_DKj 104 := am_decs_at am_p104 am_c104 am_ok104
theorem am_dk105 : am_DKj 105 := am_decs_at am_p105 am_c105 am_ok105
theorem am_dk106 : am_DKj 106 := am_decs_at am_p106 am_c106 am_ok106
theorem am_dk107 : am_DKj 107 := am_decs_at am_p107 am_c107 am_ok107
theorem am_dk108 : am_DKj 108 := am_decs_at am_p108 am_c108 am_ok108
theorem am_dk109 : am_DKj 109 := am_decs_at am_p109 am_c109 am_ok109
theorem am_dk110 : am_DKj 110 := am_decs_at am_p110 am_c110 am_ok110
theorem am_dk111 : am_DKj 111 := am_decs_at am_p111 am_c111 am_ok111
theorem am_dk112 : am_DKj 112 := am_decs_at am_p112 am_c112 am_ok112
theorem am_dk113 : am_DKj 113 := am_decs_at am_p113 am_c113 am_ok113
theorem am_dk114 : am_DKj 114 := am_decs_at am_p114 am_c114 am_ok114
theorem am_dk115 : am_DKj 115 := am_decs_at am_p115 am_c115 am_ok115
theorem am_dk116 : am_DKj 116 := am_decs_at am_p116 am_c116 am_ok116
theorem am_dk117 : am_DKj 117 := am_decs_at am_p117 am_c117 am_ok117
theorem am_dk118 : am_DKj 118 := am_decs_at am_p118 am_c118 am_ok118
theorem am_dk119 : am_DKj 119 := am_decs_at am_p119 am_c119 am_ok119
theorem am_dk120 : am_DKj 120 := am_decs_at am_p120 am_c120 am_ok120
theorem am_dk121 : am_DKj 121 := am_decs_at am_p121 am_c121 am_ok121
theorem am_dk122 : am_DKj 122 := am_decs_at am_p122 am_c122 am_ok122
theorem am_dk123 : am_DKj 123 := am_decs_at am_p123 am_c123 am_ok123
theorem am_dk124 : am_DKj 124 := am_decs_at am_p124 am_c124 am_ok124
theorem am_dk125 : am_DKj 125 := am_decs_at am_p125 am_c125 am_ok125
theorem am_dk126 : am_DKj 126 := am_decs_at am_p126 am_c126 am_ok126
theorem am_dk127 : am_DKj 127 := am_decs_at am_p127 am_c127 am_ok127
theorem am_dk128 : am_DKj 128 := am_decs_at am_p128 am_c128 am_ok128
theorem am_dk129 : am_DKj 129 := am_decs_at am_p129 am_c129 am_ok129
theorem am_dk130 : am_DKj 130 := am_decs_at am_p130 am_c130 am_ok130
theorem am_dk131 : am_DKj 131 := am_decs_at am_p131 am_c131 am_ok131
theorem am_dk132 : am_DKj 132 := am_decs_at am_p132 am_c132 am_ok132
theorem am_dk133 : am_DKj 133 := am_decs_at am_p133 am_c133 am_ok133
theorem am_dk134 : am_DKj 134 := am_decs_at am_p134 am_c134 am_ok134
theorem am_dk135 : am_DKj 135 := am_decs_at am_p135 am_c135 am_ok135
theorem am_dk136 : am_DKj 136 := am_decs_at am_p136 am_c136 am_ok136
theorem am_dk137 : am_DKj 137 := am_decs_at am_p137 am_c137 am_ok137
theorem am_dk138 : am_DKj 138 := am_decs_at am_p138 am_c138 am_ok138
theorem am_dk139 : am_DKj 139 := am_decs_at am_p139 am_c139 am_ok139
theorem am_dk140 : am_DKj 140 := am_decs_at am_p140 am_c140 am_ok140
theorem am_dk141 : am_DKj 141 := am_decs_at am_p141 am_c141 am_ok141
theorem am_dk142 : am_DKj 142 := am_decs_at am_p142 am_c142 am_ok142
theorem am_dk143 : am_DKj 143 := am_decs_at am_p143 am_c143 am_ok143
theorem am_dk144 : am_DKj 144 := am_decs_at am_p144 am_c144 am_ok144
theorem am_dk145 : am_DKj 145 := am_decs_at am_p145 am_c145 am_ok145
theorem am_dk146 : am_DKj 146 := am_decs_at am_p146 am_c146 am_ok146
theorem am_dk147 : am_DKj 147 := am_decs_at am_p147 am_c147 am_ok147
theorem am_dk148 : am_DKj 148 := am_decs_at am_p148 am_c148 am_ok148
theorem am_dk149 : am_DKj 149 := am_decs_at am_p149 am_c149 am_ok149
theorem am_dk150 : am_DKj 150 := am_decs_at am_p150 am_c150 am_ok150
theorem am_dk151 : am_DKj 151 := am_decs_at am_p151 am_c151 am_ok151
theorem am_dk152 : am_DKj 152 := am_decs_at am_p152 am_c152 am_ok152
theorem am_dk153 : am_DKj 153 := am_decs_at am_p153 am_c153 am_ok153
theorem am_dk154 : am_DKj 154 := am_decs_at am_p154 am_c154 am_ok154
theorem am_dk155 : am_DKj 155 := am_decs_at am_p155 am_c155 am_ok155
theorem am_dk156 : am_DKj 156 := am_decs_at am_p156 am_c156 am_ok156
theorem am_dk157 : am_DKj 157 := am_decs_at am_p157 am_c157 am_ok157
theorem am_dk158 : am_DKj 158 := am_decs_at am_p158 am_c158 am_ok158
theorem am_dk159 : am_DKj 159 := am_decs_at am_p159 am_c159 am_ok159
theorem am_dk160 : am_DKj 160 := am_decs_at am_p160 am_c160 am_ok160
theorem am_dk161 : am_DKj 161 := am_decs_at am_p161 am_c161 am_ok161
theorem am_dk162 : am_DKj 162 := am_decs_at am_p162 am_c162 am_ok162
theorem am_dk163 : am_DKj 163 := am_decs_at am_p163 am_c163 am_ok163
theorem am_dk164 : am_DKj 164 := am_decs_at am_p164 am_c164 am_ok164
theorem am_dk165 : am_DKj 165 := am_decs_at am_p165 am_c165 am_ok165
theorem am_dk166 : am_DKj 166 := am_decs_at am_p166 am_c166 am_ok166
theorem am_dk167 : am_DKj 167 := am_decs_at am_p167 am_c167 am_ok167
theorem am_dk168 : am_DKj 168 := am_decs_at am_p168 am_c168 am_ok168
theorem am_dk169 : am_DKj 169 := am_decs_at am_p169 am_c169 am_ok169
theorem am_dk170 : am_DKj 170 := am_decs_at am_p170 am_c170 am_ok170
theorem am_dk171 : am_DKj 171 := am_decs_at am_p171 am_c171 am_ok171
theorem am_dk172 : am_DKj 172 := am_decs_at am_p172 am_c172 am_ok172
theorem am_dk173 : am_DKj 173 := am_decs_at am_p173 am_c173 am_ok173
theorem am_dk174 : am_DKj 174 := am_decs_at am_p174 am_c174 am_ok174
theorem am_dk175 : am_DKj 175 := am_decs_at am_p175 am_c175 am_ok175
theorem am_dk176 : am_DKj 176 := am_decs_at am_p176 am_c176 am_ok176
theorem am_dk177 : am_DKj 177 := am_decs_at am_p177 am_c177 am_ok177
theorem am_dk178 : am_DKj 178 := am_decs_at am_p178 am_c178 am_ok178
theorem am_dk179 : am_DKj 179 := am_decs_at am_p179 am_c179 am_ok179
theorem am_dk180 : am_DKj 180 := am_decs_at am_p180 am_c180 am_ok180
theorem am_dk181 : am_DKj 181 := am_decs_at am_p181 am_c181 am_ok181
theorem am_dk182 : am_DKj 182 := am_decs_at am_p182 am_c182 am_ok182
theorem am_dk183 : am_DKj 183 := am_decs_at am_p183 am_c183 am_ok183
theorem am_dk184 : am_DKj 184 := am_decs_at am_p184 am_c184 am_ok184
theorem am_dk185 : am_DKj 185 := am_decs_at am_p185 am_c185 am_ok185
theorem am_dk186 : am_DKj 186 := am_decs_at am_p186 am_c186 am_ok186
theorem am_dk187 : am_DKj 187 := am_decs_at am_p187 am_c187 am_ok187
theorem am_dk188 : am_DKj 188 := am_decs_at am_p188 am_c188 am_ok188
theorem am_dk189 : am_DKj 189 := am_decs_at am_p189 am_c189 am_ok189
theorem am_dk190 : am_DKj 190 := am_decs_at am_p190 am_c190 am_ok190
theorem am_dk191 : am_DKj 191 := am_decs_at am_p191 am_c191 am_ok191
theorem am_dk192 : am_DKj 192 := am_decs_at am_p192 am_c192 am_ok192
theorem am_dk193 : am_DKj 193 := am_decs_at am_p193 am_c193 am_ok193
theorem am_dk194 : am_DKj 194 := am_decs_at am_p194 am_c194 am_ok194
theorem am_dk195 : am_DKj 195 := am_decs_at am_p195 am_c195 am_ok195
theorem am_dk196 : am_DKj 196 := am_decs_at am_p196 am_c196 am_ok196
theorem am_dk197 : am_DKj 197 := am_decs_at am_p197 am_c197 am_ok197
theorem am_dk198 : am_DKj 198 := am_decs_at am_p198 am_c198 am_ok198
theorem am_dk199 : am_DKj 199 := am_decs_at am_p199 am_c199 am_ok199
theorem am_dk200 : am_DKj 200 := am_decs_at am_p200 am_c200 am_ok200
theorem am_dk201 : am_DKj 201 := am_decs_at am_p201 am_c201 am_ok201
theorem am_dk202 : am_DKj 202 := am_decs_at am_p202 am_c202 am_ok202
theorem am_dk203 : am_DKj 203 := am_decs_at am_p203 am_c203 am_ok203
theorem am_dk204 : am_DKj 204 := am_decs_at am_p204 am_c204 am_ok204
theorem am_dk205 : am_DKj 205 := am_decs_at am_p205 am_c205 am_ok205
theorem am_dk206 : am_DKj 206 := am_decs_at am_p206 am_c206 am_ok206
theorem am_dk207 : am_DKj 207 := am_decs_at am_p207 am_c207 am_ok207
theorem am_dk208 : am_DKj 208 := am_decs_at am_p208 am_c208 am_ok208
theorem am_dk209 : am_DKj 209 := am_decs_at am_p209 am_c209 am_ok209
theorem am_dk210 : am_DKj 210 := am_decs_at am_p210 am_c210 am_ok210
theorem am_dk211 : am_DKj 211 := am_decs_at am_p211 am_c211 am_ok211
theorem am_dk212 : am_DKj 212 := am_decs_at am_p212 am_c212 am_ok212
theorem am_dk213 : am_DKj 213 := am_decs_at am_p213 am_c213 am_ok213
theorem am_dk214 : am_DKj 214 := am_decs_at am_p214 am_c214 am_ok214
theorem am_dk215 : am_DKj 215 := am_decs_at am_p215 am_c215 am_ok215
theorem am_dk216 : am_DKj 216 := am_decs_at am_p216 am_c216 am_ok216
theorem am_dk217 : am_DKj 217 := am_decs_at am_p217 am_c217 am_ok217
theorem am_dk218 : am_DKj 218 := am_decs_at am_p218 am_c218 am_ok218
theorem am_dk219 : am_DKj 219 := am_decs_at am_p219 am_c219 am_ok219
theorem am_dk220 : am_DKj 220 := am_decs_at am_p220 am_c220 am_ok220
theorem am_dk221 : am_DKj 221 := am_decs_at am_p221 am_c221 am_ok221
theorem am_dk222 : am_DKj 222 := am_decs_at am_p222 am_c222 am_ok222
theorem am_dk223 : am_DKj 223 := am_decs_at am_p223 am_c223 am_ok223
theorem am_dk224 : am_DKj 224 := am_decs_at am_p224 am_c224 am_ok224
theorem am_dk225 : am_DKj 225 := am_decs_at am_p225 am_c225 am_ok225
theorem am_dk226 : am_DKj 226 := am_decs_at am_p226 am_c226 am_ok226
theorem am_dk227 : am_DKj 227 := am_decs_at am_p227 am_c227 am_ok227
theorem am_dk228 : am_DKj 228 := am_decs_at am_p228 am_c228 am_ok228
theorem am_dk229 : am_DKj 229 := am_decs_at am_p229 am_c229 am_ok229
theorem am_dk230 : am_DKj 230 := am_decs_at am_p230 am_c230 am_ok230
theorem am_dk231 : am_DKj 231 := am_decs_at am_p231 am_c231 am_ok231
theorem am_dk232 : am_DKj 232 := am_decs_at am_p232 am_c232 am_ok232
theorem am_dk233 : am_DKj 233 := am_decs_at am_p233 am_c233 am_ok233
theorem am_dk234 : am_DKj 234 := am_decs_at am_p234 am_c234 am_ok234
theorem am_dk235 : am_DKj 235 := am_decs_at am_p235 am_c235 am_ok235
theorem am_dk236 : am_DKj 236 := am_decs_at am_p236 am_c236 am_ok236
theorem am_dk237 : am_DKj 237 := am_decs_at am_p237 am_c237 am_ok237
theorem am_dk238 : am_DKj 238 := am_decs_at am_p238 am_c238 am_ok238
theorem am_dk239 : am_DKj 239 := am_decs_at am_p239 am_c239 am_ok239
theorem am_dk240 : am_DKj 240 := am_decs_at am_p240 am_c240 am_ok240
theorem am_dk241 : am_DKj 241 := am_decs_at am_p241 am_c241 am_ok241
theorem am_dk242 : am_DKj 242 := am_decs_at am_p242 am_c242 am_ok242
theorem am_dk243 : am_DKj 243 := am_decs_at am_p243 am_c243 am_ok243
theorem am_dk244 : am_DKj 244 := am_decs_at am_p244 am_c244 am_ok244
theorem am_dk245 : am_DKj 245 := am_decs_at am_p245 am_c245 am_ok245
theorem am_dk246 : am_DKj 246 := am_decs_at am_p246 am_c246 am_ok246
theorem am_dk247 : am_DKj 247 := am_decs_at am_p247 am_c247 am_ok247
theorem am_dk248 : am_DKj 248 := am_decs_at am_p248 am_c248 am_ok248
theorem am_dk249 : am_DKj 249 := am_decs_at am_p249 am_c249 am_ok249
theorem am_dk250 : am_DKj 250 := am_decs_at am_p250 am_c250 am_ok250
theorem am_dk251 : am_DKj 251 := am_decs_at am_p251 am_c251 am_ok251
theorem am_dk252 : am_DKj 252 := am_decs_at am_p252 am_c252 am_ok252
theorem am_dk253 : am_DKj 253 := am_decs_at am_p253 am_c253 am_ok253
theorem am_dk254 : am_DKj 254 := am_decs_at am_p254 am_c254 am_ok254
theorem am_dk255 : am_DKj 255 := am_decs_at am_p255 am_c255 am_ok255
theorem am_dk256 : am_DKj 256 := am_decs_at am_p256 am_c256 am_ok256
theorem am_dk257 : am_DKj 257 := am_decs_at am_p257 am_c257 am_ok257
theorem am_dk258 : am_DKj 258 := am_decs_at am_p258 am_c258 am_ok258
theorem am_dk259 : am_DKj 259 := am_decs_at am_p259 am_c259 am_ok259
theorem am_dk260 : am_DKj 260 := am_decs_at am_p260 am_c260 am_ok260
theorem am_dk261 : am_DKj 261 := am_decs_at am_p261 am_c261 am_ok261
theorem am_dk262 : am_DKj 262 := am_decs_at am_p262 am_c262 am_ok262
theorem am_dk263 : am_DKj 263 := am_decs_at am_p263 am_c263 am_ok263
theorem am_dka40 : ∀ j, j < 40 → am_DKj j := lt_s (lt_s (lt_s (lt_s (lt_s (lt_s (lt_s (lt_s (lt_s (lt_s (lt_s (lt_s (lt_s (lt_s (lt_s (lt_s (lt_s (lt_s (lt_s (lt_s (lt_s (lt_s (lt_s (lt_s (lt_s (lt_s (lt_s (lt_s (lt_s (lt_s (lt_s (lt_s (lt_s (lt_s (lt_s (lt_s (lt_s (lt_s (lt_s (lt_s (lt_0) am_dk0) am_dk1) am_dk2) am_dk3) am_dk4) am_dk5) am_dk6) am_dk7) am_dk8) am_dk9) am_dk10) am_dk11) am_dk12) am_dk13) am_dk14) am_dk15) am_dk16) am_dk17) am_dk18) am_dk19) am_dk20) am_dk21) am_dk22) am_dk23) am_dk24) am_dk25) am_dk26) am_dk27) am_dk28) am_dk29) am_dk30) am_dk31) am_dk32) am_dk33) am_dk34) am_dk35) am_dk36) am_dk37) am_dk38) am_dk39
theorem am_dka80 : ∀ j, j < 80 → am_DKj j := lt_s (lt_s (lt_s (lt_s (lt_s (lt_s (lt_s (lt_s (lt_s (lt_s (lt_s (lt_s (lt_s (lt_s (lt_s (lt_s (lt_s (lt_s (lt_s (lt_s (lt_s (lt_s (lt_s (lt_s (lt_s (lt_s (lt_s (lt_s (lt_s (lt_s (lt_s (lt_s (lt_s (lt_s (lt_s (lt_s (lt_s (lt_s (lt_s (lt_s (am_dka40) am_dk40) am_dk41) am_dk42) am_dk43) am_dk44) am_dk45) am_dk46) am_dk47) am_dk48) am_dk49) am_dk50) am_dk51) am_dk52) am_dk53) am_dk54) am_dk55) am_dk56) am_dk57) am_dk58) am_dk59) am_dk60) am_dk61) am_dk62) am_dk63) am_dk64) am_dk65) am_dk66) am_dk67) am_dk68) am_dk69) am_dk70) am_dk71) am_dk72) am_dk73) am_dk74) am_dk75) am_dk76) am_dk77) am_dk78) am_dk79
theorem am_dka120 : ∀ j, j < 120 → am_DKj j := lt_s (lt_s (lt_s (lt_s (lt_s (lt_s (lt_s (lt_s (lt_s (lt_s (lt_s (lt_s (lt_s (lt_s (lt_s (lt_s (lt_s (lt_s (lt_s (lt_s (lt_s (lt_s (lt_s (lt_s (lt_s (lt_s (lt_s (lt_s (lt_s (lt_s (lt_s (lt_s (lt_s (lt_s (lt_s (lt_s (lt_s (lt_s (lt_s (lt_s (am_dka80) am_dk80) am_dk81) am_dk82) am_dk83) am_dk84) am_dk85) am_dk86) am_dk87) am_dk88) am_dk89) am_dk90) am_dk91) am_dk92) am_dk93) am_dk94) am_dk95) am_dk96) am_dk97) am_dk98) am_dk99) am_dk100) am_dk101) am_dk102) am_dk103) am_dk104) am_dk105) am_dk106) am_dk107) am_dk108) am_dk109) am_dk110) am_dk111) am_dk112) am_dk113) am_dk114) am_dk115) am_dk116) am_dk117) am_dk118) am_dk119
theorem am_dka160 : ∀ j, j < 160 → am_DKj j := lt_s (lt_s (lt_s (lt_s (lt_s (lt_s (lt_s (lt_s (lt_s (lt_s (lt_s (lt_s (lt_s (lt_s (lt_s (lt_s (lt_s (lt_s (lt_s (lt_s (lt_s (lt_s (lt_s (lt_s (lt_s (lt_s (lt_s (lt_s (lt_s (lt_s (lt_s (lt_s (lt_s (lt_s (lt_s (lt_s (lt_s (lt_s (lt_s (lt_s (am_dka120) am_dk120) am_dk121) am_dk122) am_dk123) am_dk124) am_dk125) am_dk126) am_dk127) am_dk128) am_dk129) am_dk130) am_dk131) am_dk132) am_dk133) am_dk134) am_dk135) am_dk136) am_dk137) am_dk138) am_dk139) am_dk140) am_dk141) am_dk142) am_dk143) am_dk144) am_dk145) am_dk146) am_dk147) am_dk148) am_dk149) am_dk150) am_dk151) am_dk152) am_dk153) am_dk154) am_dk155) am_dk156) am_dk157) am_dk158) am_dk159
theorem am_dka200 : ∀ j, j < 200 → am_DKj j := lt_s (lt_s (lt_s (lt_s (lt_s (lt_s (lt_s (lt_s (lt_s (lt_s (lt_s (lt_s (lt_s (lt_s (lt_s (lt_s (lt_s (lt_s (lt_s (lt_s (lt_s (lt_s (lt_s (lt_s (lt_s (lt_s (lt_s (lt_s (lt_s (lt_s (lt_s (lt_s (lt_s (lt_s (lt_s (lt_s (lt_s (lt_s (lt_s (lt_s (am_dka160) am_dk160) am_dk161) am_dk162) am_dk163) am_dk164) am_dk165) am_dk166) am_dk167) am_dk168) am_dk169) am_dk170) am_dk171) am_dk172) am_dk173) am_dk174) am_dk175) am_dk176) am_dk177) am_dk178) am_dk179) am_dk180) am_dk181) am_dk182) am_dk183) am_dk184) am_dk185) am_dk186) am_dk187) am_dk188) am_dk189) am_dk190) am_dk191) am_dk192) am_dk193) am_dk194) am_dk195) am_dk196) am_dk197) am_dk198) am_dk199
theorem am_dka240 : ∀ j, j < 240 → am_DKj j := lt_s (lt_s (lt_s (lt_s (lt_s (lt_s (lt_s (lt_s (lt_s (lt_s (lt_s (lt_s (lt_s (lt_s (lt_s (lt_s (lt_s (lt_s (lt_s (lt_s (lt_s (lt_s (lt_s (lt_s (lt_s (lt_s (lt_s (lt_s (lt_s (lt_s (lt_s (lt_s (lt_s (lt_s (lt_s (lt_s (lt_s (lt_s (lt_s (lt_s (am_dka200) am_dk200) am_dk201) am_dk202) am_dk203) am_dk204) am_dk205) am_dk206) am_dk207) am_dk208) am_dk209) am_dk210) am_dk211) am_dk212) am_dk213) am_dk214) am_dk215) am_dk216) am_dk217) am_dk218) am_dk219) am_dk220) am_dk221) am_dk222) am_dk223) am_dk224) am_dk225) am_dk226) am_dk227) am_dk228) am_dk229) am_dk230) am_dk231) am_dk232) am_dk233) am_dk234) am_dk235) am_dk236) am_dk237) am_dk238) am_dk239
theorem am_dka264 : ∀ j, j < 264 → am_DKj j := lt_s (lt_s (lt_s (lt_s (lt_s (lt_s (lt_s (lt_s (lt_s (lt_s (lt_s (lt_s (lt_s (lt_s (lt_s (lt_s (lt_s (lt_s (lt_s (lt_s (lt_s (lt_s (lt_s (lt_s (am_dka240) am_dk240) am_dk241) am_dk242) am_dk243) am_dk244) am_dk245) am_dk246) am_dk247) am_dk248) am_dk249) am_dk250) am_dk251) am_dk252) am_dk253) am_dk254) am_dk255) am_dk256) am_dk257) am_dk258) am_dk259) am_dk260) am_dk261) am_dk262) am_dk263
theorem am_dkc {own rt : Nat} {cc : ByteArray} {ps : List Nat} {c : List am_I} {k m : Nat} (h : am_decs own rt cc ps ((ps.drop k).take (m + 1)) ((c.drop k).take m) = true) (pc : Nat) (ai : am_I) (h1 : k ≤ pc) (h2 : pc < k + m) (hc : c[pc]? = some ai) : am_dec own rt cc ps (ps.getD pc 0) (ps.getD (pc + 1) 0) ai = true := by
  have key := am_decs_at _ _ h (pc - k) ai (by rw [List.getElem?_take, if_pos (by omega), List.getElem?_drop, show k + (pc - k) = pc from by omega]; exact hc)
  have e : ∀ i, i < m + 1 → ((ps.drop k).take (m + 1)).getD i 0 = ps.getD (k + i) 0 := fun i hi => by
    rw [List.getD_eq_getElem?_getD, List.getD_eq_getElem?_getD, List.getElem?_take, if_pos hi, List.getElem?_drop]
  rw [e _ (by omega), e _ (by omega), show k + (pc - k) = pc from by omega, show k + (pc - k + 1) = pc + 1 from by omega] at key
  exact key
theorem am_dkL : am_DK 8 1 code am_p264 am_c264 := by
  intro pc ai hc
  have hl : pc < 1165 := Nat.lt_of_lt_of_eq (List.getElem?_eq_some_iff.mp hc).1 (by decide +kernel)
  rcases Nat.lt_or_ge pc 80 with h | h
  · exact am_dkc am_okL_0 pc ai (by omega) (by omega) hc
  rcases Nat.lt_or_ge pc 160 with h | h
  · exact am_dkc am_okL_80 pc ai (by omega) (by omega) hc
  rcases Nat.lt_or_ge pc 240 with h | h
  · exact am_dkc am_okL_160 pc ai (by omega) (by omega) hc
  rcases Nat.lt_or_ge pc 320 with h | h
  · exact am_dkc am_okL_240 pc ai (by omega) (by omega) hc
  rcases Nat.lt_or_ge pc 400 with h | h
  · exact am_dkc am_okL_320 pc ai (by omega) (by omega) hc
  rcases Nat.lt_or_ge pc 480 with h | h
  · exact am_dkc am_okL_400 pc ai (by omega) (by omega) hc
  rcases Nat.lt_or_ge pc 560 with h | h
  · exact am_dkc am_okL_480 pc ai (by omega) (by omega) hc
  rcases Nat.lt_or_ge pc 640 with h | h
  · exact am_dkc am_okL_560 pc ai (by omega) (by omega) hc
  rcases Nat.lt_or_ge pc 720 with h | h
  · exact am_dkc am_okL_640 pc ai (by omega) (by omega) hc
  rcases Nat.lt_or_ge pc 800 with h | h
  · exact am_dkc am_okL_720 pc ai (by omega) (by omega) hc
  rcases Nat.lt_or_ge pc 880 with h | h
  · exact am_dkc am_okL_800 pc ai (by omega) (by omega) hc
  rcases Nat.lt_or_ge pc 960 with h | h
  · exact am_dkc am_okL_880 pc ai (by omega) (by omega) hc
  rcases Nat.lt_or_ge pc 1040 with h | h
  · exact am_dkc am_okL_960 pc ai (by omega) (by omega) hc
  rcases Nat.lt_or_ge pc 1120 with h | h
  · exact am_dkc am_okL_1040 pc ai (by omega) (by omega) hc
  exact am_dkc am_okL_1120 pc ai (by omega) (by omega) hc
