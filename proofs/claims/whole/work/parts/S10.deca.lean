set_option maxRecDepth 100000 in
theorem am_ok0 : am_decs 7 1 prog_9_method_2_code am_p0 am_p0 am_c0 = true := by decide +kernel
set_option maxRecDepth 100000 in
theorem am_ok1 : am_decs 7 0 prog_9_method_3_code am_p1 am_p1 am_c1 = true := by decide +kernel
set_option maxRecDepth 100000 in
theorem am_ok2 : am_decs 7 0 prog_9_method_4_code am_p2 am_p2 am_c2 = true := by decide +kernel
set_option maxRecDepth 100000 in
theorem am_ok3 : am_decs 7 0 prog_9_method_5_code am_p3 am_p3 am_c3 = true := by decide +kernel
set_option maxRecDepth 100000 in
theorem am_ok4 : am_decs 7 9 prog_9_method_6_code am_p4 am_p4 am_c4 = true := by decide +kernel
set_option maxRecDepth 100000 in
theorem am_ok5 : am_decs 7 0 prog_9_method_7_code am_p5 am_p5 am_c5 = true := by decide +kernel
set_option maxRecDepth 100000 in
theorem am_ok6 : am_decs 7 9 prog_9_method_8_code am_p6 am_p6 am_c6 = true := by decide +kernel
set_option maxRecDepth 100000 in
theorem am_ok7 : am_decs 7 0 prog_9_method_9_code am_p7 am_p7 am_c7 = true := by decide +kernel
set_option maxRecDepth 100000 in
theorem am_ok8 : am_decs 7 1 prog_9_method_10_code am_p8 am_p8 am_c8 = true := by decide +kernel
set_option maxRecDepth 100000 in
theorem am_ok9 : am_decs 7 1 prog_9_method_11_code am_p9 am_p9 am_c9 = true := by decide +kernel
set_option maxRecDepth 100000 in
theorem am_ok10 : am_decs 7 1 prog_9_method_12_code am_p10 am_p10 am_c10 = true := by decide +kernel
set_option maxRecDepth 100000 in
theorem am_ok11 : am_decs 7 1 prog_9_method_13_code am_p11 am_p11 am_c11 = true := by decide +kernel
set_option maxRecDepth 100000 in
theorem am_ok12 : am_decs 7 0 prog_9_method_14_code am_p12 am_p12 am_c12 = true := by decide +kernel
set_option maxRecDepth 100000 in
theorem am_ok13 : am_decs 7 0 prog_9_method_15_code am_p13 am_p13 am_c13 = true := by decide +kernel
set_option maxRecDepth 100000 in
theorem am_ok14 : am_decs 7 9 prog_9_method_16_code am_p14 am_p14 am_c14 = true := by decide +kernel
set_option maxRecDepth 100000 in
theorem am_ok15 : am_decs 7 0 prog_9_method_17_code am_p15 am_p15 am_c15 = true := by decide +kernel
set_option maxRecDepth 100000 in
theorem am_ok16 : am_decs 7 0 prog_9_method_18_code am_p16 am_p16 am_c16 = true := by decide +kernel
set_option maxRecDepth 100000 in
theorem am_ok17 : am_decs 7 0 prog_9_method_19_code am_p17 am_p17 am_c17 = true := by decide +kernel
set_option maxRecDepth 100000 in
theorem am_ok18 : am_decs 7 1 prog_9_method_20_code am_p18 am_p18 am_c18 = true := by decide +kernel
set_option maxRecDepth 100000 in
theorem am_ok19 : am_decs 7 0 prog_9_method_21_code am_p19 am_p19 am_c19 = true := by decide +kernel
set_option maxRecDepth 100000 in
theorem am_ok20 : am_decs 7 1 prog_9_method_22_code am_p20 am_p20 am_c20 = true := by decide +kernel
set_option maxRecDepth 100000 in
theorem am_ok21 : am_decs 7 0 prog_9_method_23_code am_p21 am_p21 am_c21 = true := by decide +kernel
set_option maxRecDepth 100000 in
theorem am_ok22 : am_decs 7 1 prog_9_method_24_code am_p22 am_p22 am_c22 = true := by decide +kernel
set_option maxRecDepth 100000 in
theorem am_ok23 : am_decs 7 1 prog_9_method_25_code am_p23 am_p23 am_c23 = true := by decide +kernel
set_option maxRecDepth 100000 in
theorem am_ok24 : am_decs 7 1 prog_9_method_26_code am_p24 am_p24 am_c24 = true := by decide +kernel
set_option maxRecDepth 100000 in
theorem am_ok25 : am_decs 7 0 prog_9_method_27_code am_p25 am_p25 am_c25 = true := by decide +kernel
set_option maxRecDepth 100000 in
theorem am_ok26 : am_decs 7 0 prog_9_method_28_code am_p26 am_p26 am_c26 = true := by decide +kernel
set_option maxRecDepth 100000 in
theorem am_ok27 : am_decs 7 0 prog_9_method_29_code am_p27 am_p27 am_c27 = true := by decide +kernel
set_option maxRecDepth 100000 in
theorem am_ok28 : am_decs 7 0 prog_9_method_30_code am_p28 am_p28 am_c28 = true := by decide +kernel
set_option maxRecDepth 100000 in
theorem am_ok29 : am_decs 7 0 prog_9_method_31_code am_p29 am_p29 am_c29 = true := by decide +kernel
set_option maxRecDepth 100000 in
theorem am_ok30 : am_decs 7 0 prog_9_method_32_code am_p30 am_p30 am_c30 = true := by decide +kernel
set_option maxRecDepth 100000 in
theorem am_ok31 : am_decs 7 0 prog_9_method_33_code am_p31 am_p31 am_c31 = true := by decide +kernel
set_option maxRecDepth 100000 in
theorem am_ok32 : am_decs 7 9 prog_9_method_34_code am_p32 am_p32 am_c32 = true := by decide +kernel
set_option maxRecDepth 100000 in
theorem am_ok33 : am_decs 7 1 prog_9_method_35_code am_p33 am_p33 am_c33 = true := by decide +kernel
set_option maxRecDepth 100000 in
theorem am_ok34 : am_decs 7 1 prog_9_method_36_code am_p34 am_p34 am_c34 = true := by decide +kernel
set_option maxRecDepth 100000 in
theorem am_ok35 : am_decs 7 9 prog_9_method_37_code am_p35 am_p35 am_c35 = true := by decide +kernel
set_option maxRecDepth 100000 in
theorem am_ok36 : am_decs 7 1 prog_9_method_38_code am_p36 am_p36 am_c36 = true := by decide +kernel
set_option maxRecDepth 100000 in
theorem am_ok37 : am_decs 7 1 prog_9_method_39_code am_p37 am_p37 am_c37 = true := by decide +kernel
set_option maxRecDepth 100000 in
theorem am_ok38 : am_decs 7 1 prog_9_method_40_code am_p38 am_p38 am_c38 = true := by decide +kernel
set_option maxRecDepth 100000 in
theorem am_ok39 : am_decs 7 1 prog_9_method_41_code am_p39 am_p39 am_c39 = true := by decide +kernel
set_option maxRecDepth 100000 in
theorem am_ok40 : am_decs 7 1 prog_9_method_42_code am_p40 am_p40 am_c40 = true := by decide +kernel
set_option maxRecDepth 100000 in
theorem am_ok41 : am_decs 7 1 prog_9_method_43_code am_p41 am_p41 am_c41 = true := by decide +kernel
set_option maxRecDepth 100000 in
theorem am_ok42 : am_decs 7 1 prog_9_method_44_code am_p42 am_p42 am_c42 = true := by decide +kernel
set_option maxRecDepth 100000 in
theorem am_ok43 : am_decs 7 1 prog_9_method_45_code am_p43 am_p43 am_c43 = true := by decide +kernel
set_option maxRecDepth 100000 in
theorem am_ok44 : am_decs 7 1 prog_9_method_46_code am_p44 am_p44 am_c44 = true := by decide +kernel
set_option maxRecDepth 100000 in
theorem am_ok45 : am_decs 7 1 prog_9_method_47_code am_p45 am_p45 am_c45 = true := by decide +kernel
set_option maxRecDepth 100000 in
theorem am_ok46 : am_decs 7 1 prog_9_method_48_code am_p46 am_p46 am_c46 = true := by decide +kernel
set_option maxRecDepth 100000 in
theorem am_ok47 : am_decs 7 1 prog_9_method_49_code am_p47 am_p47 am_c47 = true := by decide +kernel
set_option maxRecDepth 100000 in
theorem am_ok48 : am_decs 7 1 prog_9_method_50_code am_p48 am_p48 am_c48 = true := by decide +kernel
set_option maxRecDepth 100000 in
theorem am_ok49 : am_decs 7 1 prog_9_method_51_code am_p49 am_p49 am_c49 = true := by decide +kernel
set_option maxRecDepth 100000 in
theorem am_ok50 : am_decs 7 0 prog_9_method_52_code am_p50 am_p50 am_c50 = true := by decide +kernel
set_option maxRecDepth 100000 in
theorem am_ok51 : am_decs 7 0 prog_9_method_53_code am_p51 am_p51 am_c51 = true := by decide +kernel
set_option maxRecDepth 100000 in
theorem am_ok52 : am_decs 7 0 prog_9_method_54_code am_p52 am_p52 am_c52 = true := by decide +kernel
set_option maxRecDepth 100000 in
theorem am_ok53 : am_decs 7 0 prog_9_method_55_code am_p53 am_p53 am_c53 = true := by decide +kernel
set_option maxRecDepth 100000 in
theorem am_ok54 : am_decs 7 0 prog_9_method_56_code am_p54 am_p54 am_c54 = true := by decide +kernel
set_option maxRecDepth 100000 in
theorem am_ok55 : am_decs 7 0 prog_9_method_57_code am_p55 am_p55 am_c55 = true := by decide +kernel
set_option maxRecDepth 100000 in
theorem am_ok56 : am_decs 7 1 prog_9_method_58_code am_p56 am_p56 am_c56 = true := by decide +kernel
set_option maxRecDepth 100000 in
theorem am_ok57 : am_decs 7 0 prog_9_method_59_code am_p57 am_p57 am_c57 = true := by decide +kernel
set_option maxRecDepth 100000 in
theorem am_ok58 : am_decs 7 0 prog_9_method_60_code am_p58 am_p58 am_c58 = true := by decide +kernel
set_option maxRecDepth 100000 in
theorem am_ok59 : am_decs 7 0 prog_9_method_61_code am_p59 am_p59 am_c59 = true := by decide +kernel
set_option maxRecDepth 100000 in
theorem am_ok60 : am_decs 7 0 prog_9_method_62_code am_p60 am_p60 am_c60 = true := by decide +kernel
set_option maxRecDepth 100000 in
theorem am_ok61 : am_decs 7 0 prog_9_method_63_code am_p61 am_p61 am_c61 = true := by decide +kernel
set_option maxRecDepth 100000 in
theorem am_ok62 : am_decs 7 9 prog_9_method_64_code am_p62 am_p62 am_c62 = true := by decide +kernel
set_option maxRecDepth 100000 in
theorem am_ok63 : am_decs 7 1 prog_9_method_65_code am_p63 am_p63 am_c63 = true := by decide +kernel
set_option maxRecDepth 100000 in
theorem am_ok64 : am_decs 7 9 prog_9_method_66_code am_p64 am_p64 am_c64 = true := by decide +kernel
set_option maxRecDepth 100000 in
theorem am_ok65 : am_decs 7 1 prog_9_method_67_code am_p65 am_p65 am_c65 = true := by decide +kernel
set_option maxRecDepth 100000 in
theorem am_ok66 : am_decs 7 9 prog_9_method_68_code am_p66 am_p66 am_c66 = true := by decide +kernel
set_option maxRecDepth 100000 in
theorem am_ok67 : am_decs 7 1 prog_9_method_69_code am_p67 am_p67 am_c67 = true := by decide +kernel
set_option maxRecDepth 100000 in
theorem am_ok68 : am_decs 7 1 prog_9_method_70_code am_p68 am_p68 am_c68 = true := by decide +kernel
set_option maxRecDepth 100000 in
theorem am_ok69 : am_decs 7 9 prog_9_method_71_code am_p69 am_p69 am_c69 = true := by decide +kernel
set_option maxRecDepth 100000 in
theorem am_ok70 : am_decs 7 0 prog_9_method_72_code am_p70 am_p70 am_c70 = true := by decide +kernel
set_option maxRecDepth 100000 in
theorem am_ok71 : am_decs 7 0 prog_9_method_73_code am_p71 am_p71 am_c71 = true := by decide +kernel
set_option maxRecDepth 100000 in
theorem am_ok72 : am_decs 7 1 prog_9_method_74_code am_p72 am_p72 am_c72 = true := by decide +kernel
set_option maxRecDepth 100000 in
theorem am_ok73 : am_decs 7 1 prog_9_method_75_code am_p73 am_p73 am_c73 = true := by decide +kernel
set_option maxRecDepth 100000 in
theorem am_ok74 : am_decs 7 1 prog_9_method_76_code am_p74 am_p74 am_c74 = true := by decide +kernel
set_option maxRecDepth 100000 in
theorem am_ok75 : am_decs 7 9 prog_9_method_77_code am_p75 am_p75 am_c75 = true := by decide +kernel
set_option maxRecDepth 100000 in
theorem am_ok76 : am_decs 7 9 prog_9_method_78_code am_p76 am_p76 am_c76 = true := by decide +kernel
set_option maxRecDepth 100000 in
theorem am_ok77 : am_decs 7 1 prog_9_method_79_code am_p77 am_p77 am_c77 = true := by decide +kernel
set_option maxRecDepth 100000 in
theorem am_ok78 : am_decs 7 0 prog_9_method_80_code am_p78 am_p78 am_c78 = true := by decide +kernel
set_option maxRecDepth 100000 in
theorem am_ok79 : am_decs 7 0 prog_9_method_81_code am_p79 am_p79 am_c79 = true := by decide +kernel
set_option maxRecDepth 100000 in
theorem am_ok80 : am_decs 7 0 prog_9_method_82_code am_p80 am_p80 am_c80 = true := by decide +kernel
set_option maxRecDepth 100000 in
theorem am_ok81 : am_decs 7 9 prog_9_method_83_code am_p81 am_p81 am_c81 = true := by decide +kernel
set_option maxRecDepth 100000 in
theorem am_ok82 : am_decs 7 9 prog_9_method_84_code am_p82 am_p82 am_c82 = true := by decide +kernel
set_option maxRecDepth 100000 in
theorem am_ok83 : am_decs 7 9 prog_9_method_85_code am_p83 am_p83 am_c83 = true := by decide +kernel
set_option maxRecDepth 100000 in
theorem am_ok84 : am_decs 7 9 prog_9_method_86_code am_p84 am_p84 am_c84 = true := by decide +kernel
set_option maxRecDepth 100000 in
theorem am_ok85 : am_decs 7 9 prog_9_method_87_code am_p85 am_p85 am_c85 = true := by decide +kernel
set_option maxRecDepth 100000 in
theorem am_ok86 : am_decs 7 9 prog_9_method_88_code am_p86 am_p86 am_c86 = true := by decide +kernel
set_option maxRecDepth 100000 in
theorem am_ok87 : am_decs 7 0 prog_9_method_89_code am_p87 am_p87 am_c87 = true := by decide +kernel
set_option maxRecDepth 100000 in
theorem am_ok88 : am_decs 7 0 prog_9_method_90_code am_p88 am_p88 am_c88 = true := by decide +kernel
set_option maxRecDepth 100000 in
theorem am_ok89 : am_decs 7 0 prog_9_method_91_code am_p89 am_p89 am_c89 = true := by decide +kernel
set_option maxRecDepth 100000 in
theorem am_ok90 : am_decs 7 0 prog_9_method_92_code am_p90 am_p90 am_c90 = true := by decide +kernel
set_option maxRecDepth 100000 in
theorem am_ok91 : am_decs 7 0 prog_9_method_93_code am_p91 am_p91 am_c91 = true := by decide +kernel
set_option maxRecDepth 100000 in
theorem am_ok92 : am_decs 7 0 prog_9_method_94_code am_p92 am_p92 am_c92 = true := by decide +kernel
set_option maxRecDepth 100000 in
theorem am_ok93 : am_decs 7 0 prog_9_method_95_code am_p93 am_p93 am_c93 = true := by decide +kernel
set_option maxRecDepth 100000 in
theorem am_ok94 : am_decs 7 0 prog_9_method_96_code am_p94 am_p94 am_c94 = true := by decide +kernel
set_option maxRecDepth 100000 in
theorem am_ok95 : am_decs 7 0 prog_9_method_97_code am_p95 am_p95 am_c95 = true := by decide +kernel
set_option maxRecDepth 100000 in
theorem am_ok96 : am_decs 7 0 prog_9_method_98_code am_p96 am_p96 am_c96 = true := by decide +kernel
set_option maxRecDepth 100000 in
theorem am_ok97 : am_decs 7 0 prog_9_method_99_code am_p97 am_p97 am_c97 = true := by decide +kernel
set_option maxRecDepth 100000 in
theorem am_ok98 : am_decs 7 1 prog_9_method_100_code am_p98 am_p98 am_c98 = true := by decide +kernel
set_option maxRecDepth 100000 in
theorem am_ok99 : am_decs 7 1 prog_9_method_101_code am_p99 am_p99 am_c99 = true := by decide +kernel
set_option maxRecDepth 100000 in
theorem am_ok100 : am_decs 7 0 prog_9_method_102_code am_p100 am_p100 am_c100 = true := by decide +kernel
set_option maxRecDepth 100000 in
theorem am_ok101 : am_decs 7 9 prog_9_method_103_code am_p101 am_p101 am_c101 = true := by decide +kernel
set_option maxRecDepth 100000 in
theorem am_ok102 : am_decs 7 0 prog_9_method_104_code am_p102 am_p102 am_c102 = true := by decide +kernel
set_option maxRecDepth 100000 in
theorem am_ok103 : am_decs 7 0 prog_9_method_105_code am_p103 am_p103 am_c103 = true := by decide +kernel
set_option maxRecDepth 100000 in
theorem am_ok104 : am_decs 7 9 prog_9_method_106_code am_p104 am_p104 am_c104 = true := by decide +kernel
set_option maxRecDepth 100000 in
theorem am_ok105 : am_decs 7 9 prog_9_method_107_code am_p105 am_p105 am_c105 = true := by decide +kernel
set_option maxRecDepth 100000 in
theorem am_ok106 : am_decs 7 1 prog_9_method_108_code am_p106 am_p106 am_c106 = true := by decide +kernel
set_option maxRecDepth 100000 in
theorem am_ok107 : am_decs 7 0 prog_9_method_109_code am_p107 am_p107 am_c107 = true := by decide +kernel
set_option maxRecDepth 100000 in
theorem am_ok108 : am_decs 7 0 prog_9_method_110_code am_p108 am_p108 am_c108 = true := by decide +kernel
set_option maxRecDepth 100000 in
theorem am_ok109 : am_decs 7 0 prog_9_method_111_code am_p109 am_p109 am_c109 = true := by decide +kernel
set_option maxRecDepth 100000 in
theorem am_ok110 : am_decs 7 0 prog_9_method_112_code am_p110 am_p110 am_c110 = true := by decide +kernel
set_option maxRecDepth 100000 in
theorem am_ok111 : am_decs 7 0 prog_9_method_113_code am_p111 am_p111 am_c111 = true := by decide +kernel
set_option maxRecDepth 100000 in
theorem am_ok112 : am_decs 7 0 prog_9_method_114_code am_p112 am_p112 am_c112 = true := by decide +kernel
set_option maxRecDepth 100000 in
theorem am_ok113 : am_decs 7 0 prog_9_method_115_code am_p113 am_p113 am_c113 = true := by decide +kernel
set_option maxRecDepth 100000 in
theorem am_ok114 : am_decs 7 9 prog_9_method_116_code am_p114 am_p114 am_c114 = true := by decide +kernel
set_option maxRecDepth 100000 in
theorem am_ok115 : am_decs 7 1 prog_9_method_117_code am_p115 am_p115 am_c115 = true := by decide +kernel
set_option maxRecDepth 100000 in
theorem am_ok116 : am_decs 7 0 prog_9_method_118_code am_p116 am_p116 am_c116 = true := by decide +kernel
set_option maxRecDepth 100000 in
theorem am_ok117 : am_decs 7 0 prog_9_method_119_code am_p117 am_p117 am_c117 = true := by decide +kernel
set_option maxRecDepth 100000 in
theorem am_ok118 : am_decs 7 0 prog_9_method_120_code am_p118 am_p118 am_c118 = true := by decide +kernel
set_option maxRecDepth 100000 in
theorem am_ok119 : am_decs 7 0 prog_9_method_121_code am_p119 am_p119 am_c119 = true := by decide +kernel
set_option maxRecDepth 100000 in
theorem am_ok120 : am_decs 7 0 prog_9_method_122_code am_p120 am_p120 am_c120 = true := by decide +kernel
set_option maxRecDepth 100000 in
theorem am_ok121 : am_decs 7 0 prog_9_method_123_code am_p121 am_p121 am_c121 = true := by decide +kernel
set_option maxRecDepth 100000 in
theorem am_ok122 : am_decs 7 0 prog_9_method_124_code am_p122 am_p122 am_c122 = true := by decide +kernel
set_option maxRecDepth 100000 in
theorem am_ok123 : am_decs 7 1 prog_9_method_125_code am_p123 am_p123 am_c123 = true := by decide +kernel
set_option maxRecDepth 100000 in
theorem am_ok124 : am_decs 7 1 prog_9_method_126_code am_p124 am_p124 am_c124 = true := by decide +kernel
set_option maxRecDepth 100000 in
theorem am_ok125 : am_decs 7 9 prog_9_method_127_code am_p125 am_p125 am_c125 = true := by decide +kernel
set_option maxRecDepth 100000 in
theorem am_ok126 : am_decs 7 0 prog_9_method_128_code am_p126 am_p126 am_c126 = true := by decide +kernel
set_option maxRecDepth 100000 in
theorem am_ok127 : am_decs 7 0 prog_9_method_129_code am_p127 am_p127 am_c127 = true := by decide +kernel
set_option maxRecDepth 100000 in
theorem am_ok128 : am_decs 7 0 prog_9_method_130_code am_p128 am_p128 am_c128 = true := by decide +kernel
set_option maxRecDepth 100000 in
theorem am_ok129 : am_decs 7 0 prog_9_method_131_code am_p129 am_p129 am_c129 = true := by decide +kernel
set_option maxRecDepth 100000 in
theorem am_ok130 : am_decs 7 1 prog_9_method_132_code am_p130 am_p130 am_c130 = true := by decide +kernel
set_option maxRecDepth 100000 in
theorem am_ok131 : am_decs 7 0 prog_9_method_133_code am_p131 am_p131 am_c131 = true := by decide +kernel
set_option maxRecDepth 100000 in
theorem am_ok132 : am_decs 7 0 prog_9_method_134_code am_p132 am_p132 am_c132 = true := by decide +kernel
set_option maxRecDepth 100000 in
theorem am_ok133 : am_decs 5 9 prog_7_method_2_code am_p133 am_p133 am_c133 = true := by decide +kernel
