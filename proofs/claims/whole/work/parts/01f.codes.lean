/-! The code words of the methods, by their places. -/
def kK (q : Nat) : Prop := (tMI q).2.2.2.2 < 3 → lw_tbl[(tMI q).1]? = some (.code (tY q) (tB q) (tMl q) (tRt q))
set_option maxRecDepth 20000 in
theorem kk_0 : kK 0 := fun _ => (rfl : lw_tbl[161]? = some (.code (tY 0) (tB 0) (tMl 0) (tRt 0)))
set_option maxRecDepth 20000 in
theorem kk_1 : kK 1 := fun _ => (rfl : lw_tbl[652]? = some (.code (tY 1) (tB 1) (tMl 1) (tRt 1)))
set_option maxRecDepth 20000 in
theorem kk_2 : kK 2 := fun _ => (rfl : lw_tbl[660]? = some (.code (tY 2) (tB 2) (tMl 2) (tRt 2)))
set_option maxRecDepth 20000 in
theorem kk_3 : kK 3 := fun _ => (rfl : lw_tbl[739]? = some (.code (tY 3) (tB 3) (tMl 3) (tRt 3)))
set_option maxRecDepth 20000 in
theorem kk_4 : kK 4 := fun _ => (rfl : lw_tbl[763]? = some (.code (tY 4) (tB 4) (tMl 4) (tRt 4)))
set_option maxRecDepth 20000 in
theorem kk_5 : kK 5 := fun _ => (rfl : lw_tbl[766]? = some (.code (tY 5) (tB 5) (tMl 5) (tRt 5)))
set_option maxRecDepth 20000 in
theorem kk_6 : kK 6 := fun _ => (rfl : lw_tbl[982]? = some (.code (tY 6) (tB 6) (tMl 6) (tRt 6)))
set_option maxRecDepth 20000 in
theorem kk_7 : kK 7 := fun _ => (rfl : lw_tbl[985]? = some (.code (tY 7) (tB 7) (tMl 7) (tRt 7)))
set_option maxRecDepth 20000 in
theorem kk_8 : kK 8 := fun _ => (rfl : lw_tbl[993]? = some (.code (tY 8) (tB 8) (tMl 8) (tRt 8)))
set_option maxRecDepth 20000 in
theorem kk_9 : kK 9 := fun _ => (rfl : lw_tbl[997]? = some (.code (tY 9) (tB 9) (tMl 9) (tRt 9)))
set_option maxRecDepth 20000 in
theorem kk_10 : kK 10 := fun _ => (rfl : lw_tbl[1005]? = some (.code (tY 10) (tB 10) (tMl 10) (tRt 10)))
set_option maxRecDepth 20000 in
theorem kk_11 : kK 11 := fun _ => (rfl : lw_tbl[1016]? = some (.code (tY 11) (tB 11) (tMl 11) (tRt 11)))
set_option maxRecDepth 20000 in
theorem kk_12 : kK 12 := fun _ => (rfl : lw_tbl[1023]? = some (.code (tY 12) (tB 12) (tMl 12) (tRt 12)))
set_option maxRecDepth 20000 in
theorem kk_13 : kK 13 := fun _ => (rfl : lw_tbl[1041]? = some (.code (tY 13) (tB 13) (tMl 13) (tRt 13)))
set_option maxRecDepth 20000 in
theorem kk_14 : kK 14 := fun _ => (rfl : lw_tbl[1045]? = some (.code (tY 14) (tB 14) (tMl 14) (tRt 14)))
set_option maxRecDepth 20000 in
theorem kk_15 : kK 15 := fun _ => (rfl : lw_tbl[1101]? = some (.code (tY 15) (tB 15) (tMl 15) (tRt 15)))
set_option maxRecDepth 20000 in
theorem kk_16 : kK 16 := fun _ => (rfl : lw_tbl[1105]? = some (.code (tY 16) (tB 16) (tMl 16) (tRt 16)))
set_option maxRecDepth 20000 in
theorem kk_17 : kK 17 := fun _ => (rfl : lw_tbl[1113]? = some (.code (tY 17) (tB 17) (tMl 17) (tRt 17)))
set_option maxRecDepth 20000 in
theorem kk_18 : kK 18 := fun _ => (rfl : lw_tbl[1120]? = some (.code (tY 18) (tB 18) (tMl 18) (tRt 18)))
set_option maxRecDepth 20000 in
theorem kk_19 : kK 19 := fun _ => (rfl : lw_tbl[1127]? = some (.code (tY 19) (tB 19) (tMl 19) (tRt 19)))
set_option maxRecDepth 20000 in
theorem kk_20 : kK 20 := fun _ => (rfl : lw_tbl[1176]? = some (.code (tY 20) (tB 20) (tMl 20) (tRt 20)))
set_option maxRecDepth 20000 in
theorem kk_21 : kK 21 := fun _ => (rfl : lw_tbl[1184]? = some (.code (tY 21) (tB 21) (tMl 21) (tRt 21)))
set_option maxRecDepth 20000 in
theorem kk_22 : kK 22 := fun _ => (rfl : lw_tbl[1195]? = some (.code (tY 22) (tB 22) (tMl 22) (tRt 22)))
set_option maxRecDepth 20000 in
theorem kk_23 : kK 23 := fun _ => (rfl : lw_tbl[1202]? = some (.code (tY 23) (tB 23) (tMl 23) (tRt 23)))
set_option maxRecDepth 20000 in
theorem kk_24 : kK 24 := fun _ => (rfl : lw_tbl[1290]? = some (.code (tY 24) (tB 24) (tMl 24) (tRt 24)))
set_option maxRecDepth 20000 in
theorem kk_25 : kK 25 := fun _ => (rfl : lw_tbl[1297]? = some (.code (tY 25) (tB 25) (tMl 25) (tRt 25)))
set_option maxRecDepth 20000 in
theorem kk_26 : kK 26 := fun _ => (rfl : lw_tbl[169]? = some (.code (tY 26) (tB 26) (tMl 26) (tRt 26)))
set_option maxRecDepth 20000 in
theorem kk_27 : kK 27 := fun _ => (rfl : lw_tbl[786]? = some (.code (tY 27) (tB 27) (tMl 27) (tRt 27)))
set_option maxRecDepth 20000 in
theorem kk_28 : kK 28 := fun _ => (rfl : lw_tbl[835]? = some (.code (tY 28) (tB 28) (tMl 28) (tRt 28)))
set_option maxRecDepth 20000 in
theorem kk_29 : kK 29 := fun _ => (rfl : lw_tbl[839]? = some (.code (tY 29) (tB 29) (tMl 29) (tRt 29)))
set_option maxRecDepth 20000 in
theorem kk_30 : kK 30 := fun _ => (rfl : lw_tbl[843]? = some (.code (tY 30) (tB 30) (tMl 30) (tRt 30)))
set_option maxRecDepth 20000 in
theorem kk_31 : kK 31 := fun _ => (rfl : lw_tbl[847]? = some (.code (tY 31) (tB 31) (tMl 31) (tRt 31)))
set_option maxRecDepth 20000 in
theorem kk_32 : kK 32 := fun _ => (rfl : lw_tbl[851]? = some (.code (tY 32) (tB 32) (tMl 32) (tRt 32)))
set_option maxRecDepth 20000 in
theorem kk_33 : kK 33 := fun _ => (rfl : lw_tbl[855]? = some (.code (tY 33) (tB 33) (tMl 33) (tRt 33)))
set_option maxRecDepth 20000 in
theorem kk_34 : kK 34 := fun _ => (rfl : lw_tbl[859]? = some (.code (tY 34) (tB 34) (tMl 34) (tRt 34)))
set_option maxRecDepth 20000 in
theorem kk_35 : kK 35 := fun _ => (rfl : lw_tbl[871]? = some (.code (tY 35) (tB 35) (tMl 35) (tRt 35)))
set_option maxRecDepth 20000 in
theorem kk_36 : kK 36 := fun _ => (rfl : lw_tbl[875]? = some (.code (tY 36) (tB 36) (tMl 36) (tRt 36)))
set_option maxRecDepth 20000 in
theorem kk_37 : kK 37 := fun _ => (rfl : lw_tbl[879]? = some (.code (tY 37) (tB 37) (tMl 37) (tRt 37)))
set_option maxRecDepth 20000 in
theorem kk_38 : kK 38 := fun _ => (rfl : lw_tbl[883]? = some (.code (tY 38) (tB 38) (tMl 38) (tRt 38)))
set_option maxRecDepth 20000 in
theorem kk_39 : kK 39 := fun _ => (rfl : lw_tbl[887]? = some (.code (tY 39) (tB 39) (tMl 39) (tRt 39)))
set_option maxRecDepth 20000 in
theorem kk_40 : kK 40 := fun _ => (rfl : lw_tbl[899]? = some (.code (tY 40) (tB 40) (tMl 40) (tRt 40)))
set_option maxRecDepth 20000 in
theorem kk_41 : kK 41 := fun _ => (rfl : lw_tbl[903]? = some (.code (tY 41) (tB 41) (tMl 41) (tRt 41)))
set_option maxRecDepth 20000 in
theorem kk_42 : kK 42 := fun _ => (rfl : lw_tbl[907]? = some (.code (tY 42) (tB 42) (tMl 42) (tRt 42)))
set_option maxRecDepth 20000 in
theorem kk_43 : kK 43 := fun _ => (rfl : lw_tbl[911]? = some (.code (tY 43) (tB 43) (tMl 43) (tRt 43)))
set_option maxRecDepth 20000 in
theorem kk_44 : kK 44 := fun _ => (rfl : lw_tbl[915]? = some (.code (tY 44) (tB 44) (tMl 44) (tRt 44)))
set_option maxRecDepth 20000 in
theorem kk_45 : kK 45 := fun _ => (rfl : lw_tbl[923]? = some (.code (tY 45) (tB 45) (tMl 45) (tRt 45)))
set_option maxRecDepth 20000 in
theorem kk_46 : kK 46 := fun _ => (rfl : lw_tbl[927]? = some (.code (tY 46) (tB 46) (tMl 46) (tRt 46)))
set_option maxRecDepth 20000 in
theorem kk_47 : kK 47 := fun _ => (rfl : lw_tbl[931]? = some (.code (tY 47) (tB 47) (tMl 47) (tRt 47)))
set_option maxRecDepth 20000 in
theorem kk_48 : kK 48 := fun _ => (rfl : lw_tbl[935]? = some (.code (tY 48) (tB 48) (tMl 48) (tRt 48)))
set_option maxRecDepth 20000 in
theorem kk_49 : kK 49 := fun _ => (rfl : lw_tbl[939]? = some (.code (tY 49) (tB 49) (tMl 49) (tRt 49)))
set_option maxRecDepth 20000 in
theorem kk_50 : kK 50 := fun _ => (rfl : lw_tbl[943]? = some (.code (tY 50) (tB 50) (tMl 50) (tRt 50)))
set_option maxRecDepth 20000 in
theorem kk_51 : kK 51 := fun _ => (rfl : lw_tbl[947]? = some (.code (tY 51) (tB 51) (tMl 51) (tRt 51)))
set_option maxRecDepth 20000 in
theorem kk_52 : kK 52 := fun _ => (rfl : lw_tbl[951]? = some (.code (tY 52) (tB 52) (tMl 52) (tRt 52)))
set_option maxRecDepth 20000 in
theorem kk_53 : kK 53 := fun _ => (rfl : lw_tbl[955]? = some (.code (tY 53) (tB 53) (tMl 53) (tRt 53)))
set_option maxRecDepth 20000 in
theorem kk_54 : kK 54 := fun _ => (rfl : lw_tbl[963]? = some (.code (tY 54) (tB 54) (tMl 54) (tRt 54)))
set_option maxRecDepth 20000 in
theorem kk_55 : kK 55 := fun _ => (rfl : lw_tbl[967]? = some (.code (tY 55) (tB 55) (tMl 55) (tRt 55)))
set_option maxRecDepth 20000 in
theorem kk_56 : kK 56 := fun _ => (rfl : lw_tbl[971]? = some (.code (tY 56) (tB 56) (tMl 56) (tRt 56)))
set_option maxRecDepth 20000 in
theorem kk_57 : kK 57 := fun _ => (rfl : lw_tbl[175]? = some (.code (tY 57) (tB 57) (tMl 57) (tRt 57)))
set_option maxRecDepth 20000 in
theorem kk_58 : kK 58 := fun _ => (rfl : lw_tbl[731]? = some (.code (tY 58) (tB 58) (tMl 58) (tRt 58)))
set_option maxRecDepth 20000 in
theorem kk_59 : kK 59 := fun _ => (rfl : lw_tbl[790]? = some (.code (tY 59) (tB 59) (tMl 59) (tRt 59)))
set_option maxRecDepth 20000 in
theorem kk_60 : kK 60 := fun _ => (rfl : lw_tbl[794]? = some (.code (tY 60) (tB 60) (tMl 60) (tRt 60)))
set_option maxRecDepth 20000 in
theorem kk_61 : kK 61 := fun _ => (rfl : lw_tbl[797]? = some (.code (tY 61) (tB 61) (tMl 61) (tRt 61)))
set_option maxRecDepth 20000 in
theorem kk_62 : kK 62 := fun _ => (rfl : lw_tbl[800]? = some (.code (tY 62) (tB 62) (tMl 62) (tRt 62)))
set_option maxRecDepth 20000 in
theorem kk_63 : kK 63 := fun _ => (rfl : lw_tbl[804]? = some (.code (tY 63) (tB 63) (tMl 63) (tRt 63)))
set_option maxRecDepth 20000 in
theorem kk_64 : kK 64 := fun _ => (rfl : lw_tbl[808]? = some (.code (tY 64) (tB 64) (tMl 64) (tRt 64)))
set_option maxRecDepth 20000 in
theorem kk_65 : kK 65 := fun _ => (rfl : lw_tbl[811]? = some (.code (tY 65) (tB 65) (tMl 65) (tRt 65)))
set_option maxRecDepth 20000 in
theorem kk_66 : kK 66 := fun _ => (rfl : lw_tbl[814]? = some (.code (tY 66) (tB 66) (tMl 66) (tRt 66)))
set_option maxRecDepth 20000 in
theorem kk_67 : kK 67 := fun _ => (rfl : lw_tbl[818]? = some (.code (tY 67) (tB 67) (tMl 67) (tRt 67)))
set_option maxRecDepth 20000 in
theorem kk_68 : kK 68 := fun _ => (rfl : lw_tbl[826]? = some (.code (tY 68) (tB 68) (tMl 68) (tRt 68)))
set_option maxRecDepth 20000 in
theorem kk_69 : kK 69 := fun _ => (rfl : lw_tbl[1302]? = some (.code (tY 69) (tB 69) (tMl 69) (tRt 69)))
set_option maxRecDepth 20000 in
theorem kk_70 : kK 70 := fun _ => (rfl : lw_tbl[290]? = some (.code (tY 70) (tB 70) (tMl 70) (tRt 70)))
set_option maxRecDepth 20000 in
theorem kk_71 : kK 71 := fun _ => (rfl : lw_tbl[831]? = some (.code (tY 71) (tB 71) (tMl 71) (tRt 71)))
set_option maxRecDepth 20000 in
theorem kk_72 : kK 72 := fun _ => (rfl : lw_tbl[296]? = some (.code (tY 72) (tB 72) (tMl 72) (tRt 72)))
set_option maxRecDepth 20000 in
theorem kk_73 : kK 73 := fun _ => (rfl : lw_tbl[1027]? = some (.code (tY 73) (tB 73) (tMl 73) (tRt 73)))
set_option maxRecDepth 20000 in
theorem kk_74 : kK 74 := fun _ => (rfl : lw_tbl[1141]? = some (.code (tY 74) (tB 74) (tMl 74) (tRt 74)))
set_option maxRecDepth 20000 in
theorem kk_75 : kK 75 := fun _ => (rfl : lw_tbl[1169]? = some (.code (tY 75) (tB 75) (tMl 75) (tRt 75)))
set_option maxRecDepth 20000 in
theorem kk_76 : kK 76 := fun _ => (rfl : lw_tbl[184]? = some (.code (tY 76) (tB 76) (tMl 76) (tRt 76)))
set_option maxRecDepth 20000 in
theorem kk_77 : kK 77 := fun _ => (rfl : lw_tbl[204]? = some (.code (tY 77) (tB 77) (tMl 77) (tRt 77)))
set_option maxRecDepth 20000 in
theorem kk_78 : kK 78 := fun _ => (rfl : lw_tbl[822]? = some (.code (tY 78) (tB 78) (tMl 78) (tRt 78)))
set_option maxRecDepth 20000 in
theorem kk_79 : kK 79 := fun _ => (rfl : lw_tbl[864]? = some (.code (tY 79) (tB 79) (tMl 79) (tRt 79)))
set_option maxRecDepth 20000 in
theorem kk_80 : kK 80 := fun _ => (rfl : lw_tbl[1009]? = some (.code (tY 80) (tB 80) (tMl 80) (tRt 80)))
set_option maxRecDepth 20000 in
theorem kk_81 : kK 81 := fun _ => (rfl : lw_tbl[1136]? = some (.code (tY 81) (tB 81) (tMl 81) (tRt 81)))
set_option maxRecDepth 20000 in
theorem kk_82 : kK 82 := fun _ => (rfl : lw_tbl[348]? = some (.code (tY 82) (tB 82) (tMl 82) (tRt 82)))
set_option maxRecDepth 20000 in
theorem kk_83 : kK 83 := fun _ => (rfl : lw_tbl[891]? = some (.code (tY 83) (tB 83) (tMl 83) (tRt 83)))
set_option maxRecDepth 20000 in
theorem kk_84 : kK 84 := fun _ => (rfl : lw_tbl[895]? = some (.code (tY 84) (tB 84) (tMl 84) (tRt 84)))
set_option maxRecDepth 20000 in
theorem kk_85 : kK 85 := fun _ => (rfl : lw_tbl[959]? = some (.code (tY 85) (tB 85) (tMl 85) (tRt 85)))
set_option maxRecDepth 20000 in
theorem kk_86 : kK 86 := fun _ => (rfl : lw_tbl[436]? = some (.code (tY 86) (tB 86) (tMl 86) (tRt 86)))
set_option maxRecDepth 20000 in
theorem kk_87 : kK 87 := fun _ => (rfl : lw_tbl[919]? = some (.code (tY 87) (tB 87) (tMl 87) (tRt 87)))
set_option maxRecDepth 20000 in
theorem kk_88 : kK 88 := fun _ => (rfl : lw_tbl[1259]? = some (.code (tY 88) (tB 88) (tMl 88) (tRt 88)))
set_option maxRecDepth 20000 in
theorem kk_89 : kK 89 := fun _ => (rfl : lw_tbl[487]? = some (.code (tY 89) (tB 89) (tMl 89) (tRt 89)))
set_option maxRecDepth 20000 in
theorem kk_90 : kK 90 := fun _ => (rfl : lw_tbl[1050]? = some (.code (tY 90) (tB 90) (tMl 90) (tRt 90)))
set_option maxRecDepth 20000 in
theorem kk_91 : kK 91 := fun _ => (rfl : lw_tbl[1054]? = some (.code (tY 91) (tB 91) (tMl 91) (tRt 91)))
set_option maxRecDepth 20000 in
theorem kk_92 : kK 92 := fun _ => (rfl : lw_tbl[1057]? = some (.code (tY 92) (tB 92) (tMl 92) (tRt 92)))
set_option maxRecDepth 20000 in
theorem kk_93 : kK 93 := fun _ => (rfl : lw_tbl[1060]? = some (.code (tY 93) (tB 93) (tMl 93) (tRt 93)))
set_option maxRecDepth 20000 in
theorem kk_94 : kK 94 := fun _ => (rfl : lw_tbl[1063]? = some (.code (tY 94) (tB 94) (tMl 94) (tRt 94)))
set_option maxRecDepth 20000 in
theorem kk_95 : kK 95 := fun _ => (rfl : lw_tbl[1068]? = some (.code (tY 95) (tB 95) (tMl 95) (tRt 95)))
set_option maxRecDepth 20000 in
theorem kk_96 : kK 96 := fun _ => (rfl : lw_tbl[1072]? = some (.code (tY 96) (tB 96) (tMl 96) (tRt 96)))
set_option maxRecDepth 20000 in
theorem kk_97 : kK 97 := fun _ => (rfl : lw_tbl[1076]? = some (.code (tY 97) (tB 97) (tMl 97) (tRt 97)))
set_option maxRecDepth 20000 in
theorem kk_98 : kK 98 := fun _ => (rfl : lw_tbl[1080]? = some (.code (tY 98) (tB 98) (tMl 98) (tRt 98)))
set_option maxRecDepth 20000 in
theorem kk_99 : kK 99 := fun _ => (rfl : lw_tbl[1083]? = some (.code (tY 99) (tB 99) (tMl 99) (tRt 99)))
set_option maxRecDepth 20000 in
theorem kk_100 : kK 100 := fun _ => (rfl : lw_tbl[1086]? = some (.code (tY 100) (tB 100) (tMl 100) (tRt 100)))
set_option maxRecDepth 20000 in
theorem kk_101 : kK 101 := fun _ => (rfl : lw_tbl[1090]? = some (.code (tY 101) (tB 101) (tMl 101) (tRt 101)))
set_option maxRecDepth 20000 in
theorem kk_102 : kK 102 := fun _ => (rfl : lw_tbl[1094]? = some (.code (tY 102) (tB 102) (tMl 102) (tRt 102)))
set_option maxRecDepth 20000 in
theorem kk_103 : kK 103 := fun _ => (rfl : lw_tbl[578]? = some (.code (tY 103) (tB 103) (tMl 103) (tRt 103)))
set_option maxRecDepth 20000 in
theorem kk_104 : kK 104 := fun _ => (rfl : lw_tbl[975]? = some (.code (tY 104) (tB 104) (tMl 104) (tRt 104)))
set_option maxRecDepth 20000 in
theorem kk_105 : kK 105 := fun _ => (rfl : lw_tbl[1132]? = some (.code (tY 105) (tB 105) (tMl 105) (tRt 105)))
set_option maxRecDepth 20000 in
theorem kk_106 : kK 106 := fun _ => (rfl : lw_tbl[1145]? = some (.code (tY 106) (tB 106) (tMl 106) (tRt 106)))
set_option maxRecDepth 20000 in
theorem kk_107 : kK 107 := fun _ => (rfl : lw_tbl[1154]? = some (.code (tY 107) (tB 107) (tMl 107) (tRt 107)))
set_option maxRecDepth 20000 in
theorem kk_108 : kK 108 := fun _ => (rfl : lw_tbl[1158]? = some (.code (tY 108) (tB 108) (tMl 108) (tRt 108)))
set_option maxRecDepth 20000 in
theorem kk_109 : kK 109 := fun _ => (rfl : lw_tbl[1165]? = some (.code (tY 109) (tB 109) (tMl 109) (tRt 109)))
set_option maxRecDepth 20000 in
theorem kk_110 : kK 110 := fun _ => (rfl : lw_tbl[1188]? = some (.code (tY 110) (tB 110) (tMl 110) (tRt 110)))
set_option maxRecDepth 20000 in
theorem kk_111 : kK 111 := fun _ => (rfl : lw_tbl[615]? = some (.code (tY 111) (tB 111) (tMl 111) (tRt 111)))
set_option maxRecDepth 20000 in
theorem kk_112 : kK 112 := fun _ => (rfl : lw_tbl[1206]? = some (.code (tY 112) (tB 112) (tMl 112) (tRt 112)))
set_option maxRecDepth 20000 in
theorem kk_113 : kK 113 := fun _ => (rfl : lw_tbl[1210]? = some (.code (tY 113) (tB 113) (tMl 113) (tRt 113)))
set_option maxRecDepth 20000 in
theorem kk_114 : kK 114 := fun _ => (rfl : lw_tbl[1214]? = some (.code (tY 114) (tB 114) (tMl 114) (tRt 114)))
set_option maxRecDepth 20000 in
theorem kk_115 : kK 115 := fun _ => (rfl : lw_tbl[1218]? = some (.code (tY 115) (tB 115) (tMl 115) (tRt 115)))
set_option maxRecDepth 20000 in
theorem kk_116 : kK 116 := fun _ => (rfl : lw_tbl[1223]? = some (.code (tY 116) (tB 116) (tMl 116) (tRt 116)))
set_option maxRecDepth 20000 in
theorem kk_117 : kK 117 := fun _ => (rfl : lw_tbl[1227]? = some (.code (tY 117) (tB 117) (tMl 117) (tRt 117)))
set_option maxRecDepth 20000 in
theorem kk_118 : kK 118 := fun _ => (rfl : lw_tbl[1231]? = some (.code (tY 118) (tB 118) (tMl 118) (tRt 118)))
set_option maxRecDepth 20000 in
theorem kk_119 : kK 119 := fun _ => (rfl : lw_tbl[1235]? = some (.code (tY 119) (tB 119) (tMl 119) (tRt 119)))
set_option maxRecDepth 20000 in
theorem kk_120 : kK 120 := fun _ => (rfl : lw_tbl[1239]? = some (.code (tY 120) (tB 120) (tMl 120) (tRt 120)))
set_option maxRecDepth 20000 in
theorem kk_121 : kK 121 := fun _ => (rfl : lw_tbl[1243]? = some (.code (tY 121) (tB 121) (tMl 121) (tRt 121)))
set_option maxRecDepth 20000 in
theorem kk_122 : kK 122 := fun _ => (rfl : lw_tbl[1247]? = some (.code (tY 122) (tB 122) (tMl 122) (tRt 122)))
set_option maxRecDepth 20000 in
theorem kk_123 : kK 123 := fun _ => (rfl : lw_tbl[1251]? = some (.code (tY 123) (tB 123) (tMl 123) (tRt 123)))
set_option maxRecDepth 20000 in
theorem kk_124 : kK 124 := fun _ => (rfl : lw_tbl[1255]? = some (.code (tY 124) (tB 124) (tMl 124) (tRt 124)))
set_option maxRecDepth 20000 in
theorem kk_125 : kK 125 := fun _ => (rfl : lw_tbl[1263]? = some (.code (tY 125) (tB 125) (tMl 125) (tRt 125)))
set_option maxRecDepth 20000 in
theorem kk_126 : kK 126 := fun _ => (rfl : lw_tbl[1267]? = some (.code (tY 126) (tB 126) (tMl 126) (tRt 126)))
set_option maxRecDepth 20000 in
theorem kk_127 : kK 127 := fun _ => (rfl : lw_tbl[1271]? = some (.code (tY 127) (tB 127) (tMl 127) (tRt 127)))
set_option maxRecDepth 20000 in
theorem kk_128 : kK 128 := fun _ => (rfl : lw_tbl[1275]? = some (.code (tY 128) (tB 128) (tMl 128) (tRt 128)))
set_option maxRecDepth 20000 in
theorem kk_129 : kK 129 := fun _ => (rfl : lw_tbl[1279]? = some (.code (tY 129) (tB 129) (tMl 129) (tRt 129)))
set_option maxRecDepth 20000 in
theorem kk_130 : kK 130 := fun _ => (rfl : lw_tbl[1283]? = some (.code (tY 130) (tB 130) (tMl 130) (tRt 130)))
set_option maxRecDepth 20000 in
theorem kk_131 : kK 131 := fun _ => (rfl : lw_tbl[1309]? = some (.code (tY 131) (tB 131) (tMl 131) (tRt 131)))
set_option maxRecDepth 20000 in
theorem kk_132 : kK 132 := fun _ => (rfl : lw_tbl[1511]? = some (.code (tY 132) (tB 132) (tMl 132) (tRt 132)))
set_option maxRecDepth 20000 in
theorem kk_133 : kK 133 := fun _ => (rfl : lw_tbl[1515]? = some (.code (tY 133) (tB 133) (tMl 133) (tRt 133)))
set_option maxRecDepth 20000 in
theorem kk_134 : kK 134 := fun _ => (rfl : lw_tbl[1519]? = some (.code (tY 134) (tB 134) (tMl 134) (tRt 134)))
set_option maxRecDepth 20000 in
theorem kk_135 : kK 135 := fun _ => (rfl : lw_tbl[1523]? = some (.code (tY 135) (tB 135) (tMl 135) (tRt 135)))
set_option maxRecDepth 20000 in
theorem kk_136 : kK 136 := fun _ => (rfl : lw_tbl[1526]? = some (.code (tY 136) (tB 136) (tMl 136) (tRt 136)))
set_option maxRecDepth 20000 in
theorem kk_137 : kK 137 := fun _ => (rfl : lw_tbl[1530]? = some (.code (tY 137) (tB 137) (tMl 137) (tRt 137)))
set_option maxRecDepth 20000 in
theorem kk_138 : kK 138 := fun _ => (rfl : lw_tbl[1533]? = some (.code (tY 138) (tB 138) (tMl 138) (tRt 138)))
set_option maxRecDepth 20000 in
theorem kk_139 : kK 139 := fun _ => (rfl : lw_tbl[1537]? = some (.code (tY 139) (tB 139) (tMl 139) (tRt 139)))
set_option maxRecDepth 20000 in
theorem kk_140 : kK 140 := fun _ => (rfl : lw_tbl[1541]? = some (.code (tY 140) (tB 140) (tMl 140) (tRt 140)))
set_option maxRecDepth 20000 in
theorem kk_141 : kK 141 := fun _ => (rfl : lw_tbl[1545]? = some (.code (tY 141) (tB 141) (tMl 141) (tRt 141)))
set_option maxRecDepth 20000 in
theorem kk_142 : kK 142 := fun _ => (rfl : lw_tbl[1548]? = some (.code (tY 142) (tB 142) (tMl 142) (tRt 142)))
set_option maxRecDepth 20000 in
theorem kk_143 : kK 143 := fun _ => (rfl : lw_tbl[1551]? = some (.code (tY 143) (tB 143) (tMl 143) (tRt 143)))
set_option maxRecDepth 20000 in
theorem kk_144 : kK 144 := fun _ => (rfl : lw_tbl[1554]? = some (.code (tY 144) (tB 144) (tMl 144) (tRt 144)))
set_option maxRecDepth 20000 in
theorem kk_145 : kK 145 := fun _ => (rfl : lw_tbl[1558]? = some (.code (tY 145) (tB 145) (tMl 145) (tRt 145)))
set_option maxRecDepth 20000 in
theorem kk_146 : kK 146 := fun _ => (rfl : lw_tbl[1561]? = some (.code (tY 146) (tB 146) (tMl 146) (tRt 146)))
set_option maxRecDepth 20000 in
theorem kk_147 : kK 147 := fun _ => (rfl : lw_tbl[1566]? = some (.code (tY 147) (tB 147) (tMl 147) (tRt 147)))
set_option maxRecDepth 20000 in
theorem kk_148 : kK 148 := fun _ => (rfl : lw_tbl[1572]? = some (.code (tY 148) (tB 148) (tMl 148) (tRt 148)))
set_option maxRecDepth 20000 in
theorem kk_149 : kK 149 := fun _ => (rfl : lw_tbl[1576]? = some (.code (tY 149) (tB 149) (tMl 149) (tRt 149)))
set_option maxRecDepth 20000 in
theorem kk_150 : kK 150 := fun _ => (rfl : lw_tbl[1581]? = some (.code (tY 150) (tB 150) (tMl 150) (tRt 150)))
set_option maxRecDepth 20000 in
theorem kk_151 : kK 151 := fun _ => (rfl : lw_tbl[1585]? = some (.code (tY 151) (tB 151) (tMl 151) (tRt 151)))
set_option maxRecDepth 20000 in
theorem kk_152 : kK 152 := fun _ => (rfl : lw_tbl[1589]? = some (.code (tY 152) (tB 152) (tMl 152) (tRt 152)))
set_option maxRecDepth 20000 in
theorem kk_153 : kK 153 := fun _ => (rfl : lw_tbl[1592]? = some (.code (tY 153) (tB 153) (tMl 153) (tRt 153)))
set_option maxRecDepth 20000 in
theorem kk_154 : kK 154 := fun _ => (rfl : lw_tbl[1596]? = some (.code (tY 154) (tB 154) (tMl 154) (tRt 154)))
set_option maxRecDepth 20000 in
theorem kk_155 : kK 155 := fun _ => (rfl : lw_tbl[1602]? = some (.code (tY 155) (tB 155) (tMl 155) (tRt 155)))
set_option maxRecDepth 20000 in
theorem kk_156 : kK 156 := fun _ => (rfl : lw_tbl[1606]? = some (.code (tY 156) (tB 156) (tMl 156) (tRt 156)))
set_option maxRecDepth 20000 in
theorem kk_157 : kK 157 := fun _ => (rfl : lw_tbl[1611]? = some (.code (tY 157) (tB 157) (tMl 157) (tRt 157)))
set_option maxRecDepth 20000 in
theorem kk_158 : kK 158 := fun _ => (rfl : lw_tbl[1615]? = some (.code (tY 158) (tB 158) (tMl 158) (tRt 158)))
set_option maxRecDepth 20000 in
theorem kk_159 : kK 159 := fun _ => (rfl : lw_tbl[1620]? = some (.code (tY 159) (tB 159) (tMl 159) (tRt 159)))
set_option maxRecDepth 20000 in
theorem kk_160 : kK 160 := fun _ => (rfl : lw_tbl[1625]? = some (.code (tY 160) (tB 160) (tMl 160) (tRt 160)))
set_option maxRecDepth 20000 in
theorem kk_161 : kK 161 := fun _ => (rfl : lw_tbl[1629]? = some (.code (tY 161) (tB 161) (tMl 161) (tRt 161)))
set_option maxRecDepth 20000 in
theorem kk_162 : kK 162 := fun _ => (rfl : lw_tbl[1633]? = some (.code (tY 162) (tB 162) (tMl 162) (tRt 162)))
set_option maxRecDepth 20000 in
theorem kk_163 : kK 163 := fun _ => (rfl : lw_tbl[1638]? = some (.code (tY 163) (tB 163) (tMl 163) (tRt 163)))
set_option maxRecDepth 20000 in
theorem kk_164 : kK 164 := fun _ => (rfl : lw_tbl[1642]? = some (.code (tY 164) (tB 164) (tMl 164) (tRt 164)))
set_option maxRecDepth 20000 in
theorem kk_165 : kK 165 := fun _ => (rfl : lw_tbl[1647]? = some (.code (tY 165) (tB 165) (tMl 165) (tRt 165)))
set_option maxRecDepth 20000 in
theorem kk_166 : kK 166 := fun _ => (rfl : lw_tbl[1651]? = some (.code (tY 166) (tB 166) (tMl 166) (tRt 166)))
set_option maxRecDepth 20000 in
theorem kk_167 : kK 167 := fun _ => (rfl : lw_tbl[1655]? = some (.code (tY 167) (tB 167) (tMl 167) (tRt 167)))
set_option maxRecDepth 20000 in
theorem kk_168 : kK 168 := fun _ => (rfl : lw_tbl[1659]? = some (.code (tY 168) (tB 168) (tMl 168) (tRt 168)))
set_option maxRecDepth 20000 in
theorem kk_169 : kK 169 := fun _ => (rfl : lw_tbl[1664]? = some (.code (tY 169) (tB 169) (tMl 169) (tRt 169)))
set_option maxRecDepth 20000 in
theorem kk_170 : kK 170 := fun _ => (rfl : lw_tbl[1668]? = some (.code (tY 170) (tB 170) (tMl 170) (tRt 170)))
set_option maxRecDepth 20000 in
theorem kk_171 : kK 171 := fun _ => (rfl : lw_tbl[1674]? = some (.code (tY 171) (tB 171) (tMl 171) (tRt 171)))
set_option maxRecDepth 20000 in
theorem kk_172 : kK 172 := fun _ => (rfl : lw_tbl[1678]? = some (.code (tY 172) (tB 172) (tMl 172) (tRt 172)))
set_option maxRecDepth 20000 in
theorem kk_173 : kK 173 := fun _ => (rfl : lw_tbl[1684]? = some (.code (tY 173) (tB 173) (tMl 173) (tRt 173)))
set_option maxRecDepth 20000 in
theorem kk_174 : kK 174 := fun _ => (rfl : lw_tbl[1689]? = some (.code (tY 174) (tB 174) (tMl 174) (tRt 174)))
set_option maxRecDepth 20000 in
theorem kk_175 : kK 175 := fun _ => (rfl : lw_tbl[1694]? = some (.code (tY 175) (tB 175) (tMl 175) (tRt 175)))
set_option maxRecDepth 20000 in
theorem kk_176 : kK 176 := fun _ => (rfl : lw_tbl[1698]? = some (.code (tY 176) (tB 176) (tMl 176) (tRt 176)))
set_option maxRecDepth 20000 in
theorem kk_177 : kK 177 := fun _ => (rfl : lw_tbl[1702]? = some (.code (tY 177) (tB 177) (tMl 177) (tRt 177)))
set_option maxRecDepth 20000 in
theorem kk_178 : kK 178 := fun _ => (rfl : lw_tbl[1706]? = some (.code (tY 178) (tB 178) (tMl 178) (tRt 178)))
set_option maxRecDepth 20000 in
theorem kk_179 : kK 179 := fun _ => (rfl : lw_tbl[1710]? = some (.code (tY 179) (tB 179) (tMl 179) (tRt 179)))
set_option maxRecDepth 20000 in
theorem kk_180 : kK 180 := fun _ => (rfl : lw_tbl[1714]? = some (.code (tY 180) (tB 180) (tMl 180) (tRt 180)))
set_option maxRecDepth 20000 in
theorem kk_181 : kK 181 := fun _ => (rfl : lw_tbl[1718]? = some (.code (tY 181) (tB 181) (tMl 181) (tRt 181)))
set_option maxRecDepth 20000 in
theorem kk_182 : kK 182 := fun _ => (rfl : lw_tbl[1722]? = some (.code (tY 182) (tB 182) (tMl 182) (tRt 182)))
set_option maxRecDepth 20000 in
theorem kk_183 : kK 183 := fun _ => (rfl : lw_tbl[1726]? = some (.code (tY 183) (tB 183) (tMl 183) (tRt 183)))
set_option maxRecDepth 20000 in
theorem kk_184 : kK 184 := fun _ => (rfl : lw_tbl[1730]? = some (.code (tY 184) (tB 184) (tMl 184) (tRt 184)))
set_option maxRecDepth 20000 in
theorem kk_185 : kK 185 := fun _ => (rfl : lw_tbl[1734]? = some (.code (tY 185) (tB 185) (tMl 185) (tRt 185)))
set_option maxRecDepth 20000 in
theorem kk_186 : kK 186 := fun _ => (rfl : lw_tbl[1738]? = some (.code (tY 186) (tB 186) (tMl 186) (tRt 186)))
set_option maxRecDepth 20000 in
theorem kk_187 : kK 187 := fun _ => (rfl : lw_tbl[1742]? = some (.code (tY 187) (tB 187) (tMl 187) (tRt 187)))
set_option maxRecDepth 20000 in
theorem kk_188 : kK 188 := fun _ => (rfl : lw_tbl[1746]? = some (.code (tY 188) (tB 188) (tMl 188) (tRt 188)))
set_option maxRecDepth 20000 in
theorem kk_189 : kK 189 := fun _ => (rfl : lw_tbl[1750]? = some (.code (tY 189) (tB 189) (tMl 189) (tRt 189)))
set_option maxRecDepth 20000 in
theorem kk_190 : kK 190 := fun _ => (rfl : lw_tbl[1754]? = some (.code (tY 190) (tB 190) (tMl 190) (tRt 190)))
set_option maxRecDepth 20000 in
theorem kk_191 : kK 191 := fun _ => (rfl : lw_tbl[1757]? = some (.code (tY 191) (tB 191) (tMl 191) (tRt 191)))
set_option maxRecDepth 20000 in
theorem kk_192 : kK 192 := fun _ => (rfl : lw_tbl[1761]? = some (.code (tY 192) (tB 192) (tMl 192) (tRt 192)))
set_option maxRecDepth 20000 in
theorem kk_193 : kK 193 := fun _ => (rfl : lw_tbl[1764]? = some (.code (tY 193) (tB 193) (tMl 193) (tRt 193)))
set_option maxRecDepth 20000 in
theorem kk_194 : kK 194 := fun _ => (rfl : lw_tbl[1768]? = some (.code (tY 194) (tB 194) (tMl 194) (tRt 194)))
set_option maxRecDepth 20000 in
theorem kk_195 : kK 195 := fun _ => (rfl : lw_tbl[1772]? = some (.code (tY 195) (tB 195) (tMl 195) (tRt 195)))
set_option maxRecDepth 20000 in
theorem kk_196 : kK 196 := fun _ => (rfl : lw_tbl[1776]? = some (.code (tY 196) (tB 196) (tMl 196) (tRt 196)))
set_option maxRecDepth 20000 in
theorem kk_197 : kK 197 := fun _ => (rfl : lw_tbl[1780]? = some (.code (tY 197) (tB 197) (tMl 197) (tRt 197)))
set_option maxRecDepth 20000 in
theorem kk_198 : kK 198 := fun _ => (rfl : lw_tbl[1784]? = some (.code (tY 198) (tB 198) (tMl 198) (tRt 198)))
set_option maxRecDepth 20000 in
theorem kk_199 : kK 199 := fun _ => (rfl : lw_tbl[1788]? = some (.code (tY 199) (tB 199) (tMl 199) (tRt 199)))
set_option maxRecDepth 20000 in
theorem kk_200 : kK 200 := fun _ => (rfl : lw_tbl[1792]? = some (.code (tY 200) (tB 200) (tMl 200) (tRt 200)))
set_option maxRecDepth 20000 in
theorem kk_201 : kK 201 := fun _ => (rfl : lw_tbl[1796]? = some (.code (tY 201) (tB 201) (tMl 201) (tRt 201)))
set_option maxRecDepth 20000 in
theorem kk_202 : kK 202 := fun _ => (rfl : lw_tbl[1800]? = some (.code (tY 202) (tB 202) (tMl 202) (tRt 202)))
set_option maxRecDepth 20000 in
theorem kk_203 : kK 203 := fun _ => (rfl : lw_tbl[1804]? = some (.code (tY 203) (tB 203) (tMl 203) (tRt 203)))
set_option maxRecDepth 20000 in
theorem kk_204 : kK 204 := fun _ => (rfl : lw_tbl[1808]? = some (.code (tY 204) (tB 204) (tMl 204) (tRt 204)))
set_option maxRecDepth 20000 in
theorem kk_205 : kK 205 := fun _ => (rfl : lw_tbl[1812]? = some (.code (tY 205) (tB 205) (tMl 205) (tRt 205)))
set_option maxRecDepth 20000 in
theorem kk_206 : kK 206 := fun _ => (rfl : lw_tbl[1816]? = some (.code (tY 206) (tB 206) (tMl 206) (tRt 206)))
set_option maxRecDepth 20000 in
theorem kk_207 : kK 207 := fun _ => (rfl : lw_tbl[1820]? = some (.code (tY 207) (tB 207) (tMl 207) (tRt 207)))
set_option maxRecDepth 20000 in
theorem kk_208 : kK 208 := fun _ => (rfl : lw_tbl[1824]? = some (.code (tY 208) (tB 208) (tMl 208) (tRt 208)))
set_option maxRecDepth 20000 in
theorem kk_209 : kK 209 := fun _ => (rfl : lw_tbl[1828]? = some (.code (tY 209) (tB 209) (tMl 209) (tRt 209)))
set_option maxRecDepth 20000 in
theorem kk_210 : kK 210 := fun _ => (rfl : lw_tbl[1832]? = some (.code (tY 210) (tB 210) (tMl 210) (tRt 210)))
set_option maxRecDepth 20000 in
theorem kk_211 : kK 211 := fun _ => (rfl : lw_tbl[1836]? = some (.code (tY 211) (tB 211) (tMl 211) (tRt 211)))
set_option maxRecDepth 20000 in
theorem kk_212 : kK 212 := fun _ => (rfl : lw_tbl[1840]? = some (.code (tY 212) (tB 212) (tMl 212) (tRt 212)))
set_option maxRecDepth 20000 in
theorem kk_213 : kK 213 := fun _ => (rfl : lw_tbl[1844]? = some (.code (tY 213) (tB 213) (tMl 213) (tRt 213)))
set_option maxRecDepth 20000 in
theorem kk_214 : kK 214 := fun _ => (rfl : lw_tbl[1849]? = some (.code (tY 214) (tB 214) (tMl 214) (tRt 214)))
set_option maxRecDepth 20000 in
theorem kk_215 : kK 215 := fun _ => (rfl : lw_tbl[1853]? = some (.code (tY 215) (tB 215) (tMl 215) (tRt 215)))
set_option maxRecDepth 20000 in
theorem kk_216 : kK 216 := fun _ => (rfl : lw_tbl[1857]? = some (.code (tY 216) (tB 216) (tMl 216) (tRt 216)))
set_option maxRecDepth 20000 in
theorem kk_217 : kK 217 := fun _ => (rfl : lw_tbl[1861]? = some (.code (tY 217) (tB 217) (tMl 217) (tRt 217)))
set_option maxRecDepth 20000 in
theorem kk_218 : kK 218 := fun _ => (rfl : lw_tbl[1869]? = some (.code (tY 218) (tB 218) (tMl 218) (tRt 218)))
set_option maxRecDepth 20000 in
theorem kk_219 : kK 219 := fun _ => (rfl : lw_tbl[1873]? = some (.code (tY 219) (tB 219) (tMl 219) (tRt 219)))
set_option maxRecDepth 20000 in
theorem kk_220 : kK 220 := fun _ => (rfl : lw_tbl[1877]? = some (.code (tY 220) (tB 220) (tMl 220) (tRt 220)))
set_option maxRecDepth 20000 in
theorem kk_221 : kK 221 := fun _ => (rfl : lw_tbl[1881]? = some (.code (tY 221) (tB 221) (tMl 221) (tRt 221)))
set_option maxRecDepth 20000 in
theorem kk_222 : kK 222 := fun _ => (rfl : lw_tbl[1886]? = some (.code (tY 222) (tB 222) (tMl 222) (tRt 222)))
set_option maxRecDepth 20000 in
theorem kk_223 : kK 223 := fun _ => (rfl : lw_tbl[1896]? = some (.code (tY 223) (tB 223) (tMl 223) (tRt 223)))
set_option maxRecDepth 20000 in
theorem kk_224 : kK 224 := fun _ => (rfl : lw_tbl[1901]? = some (.code (tY 224) (tB 224) (tMl 224) (tRt 224)))
set_option maxRecDepth 20000 in
theorem kk_225 : kK 225 := fun _ => (rfl : lw_tbl[1908]? = some (.code (tY 225) (tB 225) (tMl 225) (tRt 225)))
set_option maxRecDepth 20000 in
theorem kk_226 : kK 226 := fun _ => (rfl : lw_tbl[1921]? = some (.code (tY 226) (tB 226) (tMl 226) (tRt 226)))
set_option maxRecDepth 20000 in
theorem kk_227 : kK 227 := fun _ => (rfl : lw_tbl[1929]? = some (.code (tY 227) (tB 227) (tMl 227) (tRt 227)))
set_option maxRecDepth 20000 in
theorem kk_228 : kK 228 := fun _ => (rfl : lw_tbl[1933]? = some (.code (tY 228) (tB 228) (tMl 228) (tRt 228)))
set_option maxRecDepth 20000 in
theorem kk_229 : kK 229 := fun _ => (rfl : lw_tbl[179]? = some (.code (tY 229) (tB 229) (tMl 229) (tRt 229)))
set_option maxRecDepth 20000 in
theorem kk_230 : kK 230 := fun h => absurd h (by decide +kernel)
set_option maxRecDepth 20000 in
theorem kk_231 : kK 231 := fun h => absurd h (by decide +kernel)
set_option maxRecDepth 20000 in
theorem kk_232 : kK 232 := fun h => absurd h (by decide +kernel)
set_option maxRecDepth 20000 in
theorem kk_233 : kK 233 := fun h => absurd h (by decide +kernel)
set_option maxRecDepth 20000 in
theorem kk_234 : kK 234 := fun h => absurd h (by decide +kernel)
set_option maxRecDepth 20000 in
theorem kk_235 : kK 235 := fun h => absurd h (by decide +kernel)
set_option maxRecDepth 20000 in
theorem kk_236 : kK 236 := fun h => absurd h (by decide +kernel)
set_option maxRecDepth 20000 in
theorem kk_237 : kK 237 := fun h => absurd h (by decide +kernel)
set_option maxRecDepth 20000 in
theorem kk_238 : kK 238 := fun h => absurd h (by decide +kernel)
set_option maxRecDepth 20000 in
theorem kk_239 : kK 239 := fun h => absurd h (by decide +kernel)
set_option maxRecDepth 20000 in
theorem kk_240 : kK 240 := fun h => absurd h (by decide +kernel)
set_option maxRecDepth 20000 in
theorem kk_241 : kK 241 := fun h => absurd h (by decide +kernel)
set_option maxRecDepth 20000 in
theorem kk_242 : kK 242 := fun h => absurd h (by decide +kernel)
set_option maxRecDepth 20000 in
theorem kk_243 : kK 243 := fun h => absurd h (by decide +kernel)
set_option maxRecDepth 20000 in
theorem kk_244 : kK 244 := fun h => absurd h (by decide +kernel)
set_option maxRecDepth 20000 in
theorem kk_245 : kK 245 := fun h => absurd h (by decide +kernel)
set_option maxRecDepth 20000 in
theorem kk_246 : kK 246 := fun h => absurd h (by decide +kernel)
set_option maxRecDepth 20000 in
theorem kk_247 : kK 247 := fun h => absurd h (by decide +kernel)
set_option maxRecDepth 20000 in
theorem kk_248 : kK 248 := fun h => absurd h (by decide +kernel)
set_option maxRecDepth 20000 in
theorem kk_249 : kK 249 := fun h => absurd h (by decide +kernel)
set_option maxRecDepth 20000 in
theorem kk_250 : kK 250 := fun _ => (rfl : lw_tbl[1030]? = some (.code (tY 250) (tB 250) (tMl 250) (tRt 250)))
set_option maxRecDepth 20000 in
theorem kk_251 : kK 251 := fun _ => (rfl : lw_tbl[1148]? = some (.code (tY 251) (tB 251) (tMl 251) (tRt 251)))
theorem kz_0 : ∀ q ∈ ([0, 1, 2, 3, 4, 5, 6, 7, 8, 9, 10, 11, 12, 13, 14, 15, 16, 17, 18, 19, 20] : List Nat), kK q := List.forall_mem_cons.mpr ⟨kk_0, List.forall_mem_cons.mpr ⟨kk_1, List.forall_mem_cons.mpr ⟨kk_2, List.forall_mem_cons.mpr ⟨kk_3, List.forall_mem_cons.mpr ⟨kk_4, List.forall_mem_cons.mpr ⟨kk_5, List.forall_mem_cons.mpr ⟨kk_6, List.forall_mem_cons.mpr ⟨kk_7, List.forall_mem_cons.mpr ⟨kk_8, List.forall_mem_cons.mpr ⟨kk_9, List.forall_mem_cons.mpr ⟨kk_10, List.forall_mem_cons.mpr ⟨kk_11, List.forall_mem_cons.mpr ⟨kk_12, List.forall_mem_cons.mpr ⟨kk_13, List.forall_mem_cons.mpr ⟨kk_14, List.forall_mem_cons.mpr ⟨kk_15, List.forall_mem_cons.mpr ⟨kk_16, List.forall_mem_cons.mpr ⟨kk_17, List.forall_mem_cons.mpr ⟨kk_18, List.forall_mem_cons.mpr ⟨kk_19, List.forall_mem_cons.mpr ⟨kk_20, fun _ h => absurd h List.not_mem_nil⟩⟩⟩⟩⟩⟩⟩⟩⟩⟩⟩⟩⟩⟩⟩⟩⟩⟩⟩⟩⟩
theorem kz_21 : ∀ q ∈ ([21, 22, 23, 24, 25, 26, 27, 28, 29, 30, 31, 32, 33, 34, 35, 36, 37, 38, 39, 40, 41] : List Nat), kK q := List.forall_mem_cons.mpr ⟨kk_21, List.forall_mem_cons.mpr ⟨kk_22, List.forall_mem_cons.mpr ⟨kk_23, List.forall_mem_cons.mpr ⟨kk_24, List.forall_mem_cons.mpr ⟨kk_25, List.forall_mem_cons.mpr ⟨kk_26, List.forall_mem_cons.mpr ⟨kk_27, List.forall_mem_cons.mpr ⟨kk_28, List.forall_mem_cons.mpr ⟨kk_29, List.forall_mem_cons.mpr ⟨kk_30, List.forall_mem_cons.mpr ⟨kk_31, List.forall_mem_cons.mpr ⟨kk_32, List.forall_mem_cons.mpr ⟨kk_33, List.forall_mem_cons.mpr ⟨kk_34, List.forall_mem_cons.mpr ⟨kk_35, List.forall_mem_cons.mpr ⟨kk_36, List.forall_mem_cons.mpr ⟨kk_37, List.forall_mem_cons.mpr ⟨kk_38, List.forall_mem_cons.mpr ⟨kk_39, List.forall_mem_cons.mpr ⟨kk_40, List.forall_mem_cons.mpr ⟨kk_41, fun _ h => absurd h List.not_mem_nil⟩⟩⟩⟩⟩⟩⟩⟩⟩⟩⟩⟩⟩⟩⟩⟩⟩⟩⟩⟩⟩
theorem kz_42 : ∀ q ∈ ([42, 43, 44, 45, 46, 47, 48, 49, 50, 51, 52, 53, 54, 55, 56, 57, 58, 59, 60, 61, 62] : List Nat), kK q := List.forall_mem_cons.mpr ⟨kk_42, List.forall_mem_cons.mpr ⟨kk_43, List.forall_mem_cons.mpr ⟨kk_44, List.forall_mem_cons.mpr ⟨kk_45, List.forall_mem_cons.mpr ⟨kk_46, List.forall_mem_cons.mpr ⟨kk_47, List.forall_mem_cons.mpr ⟨kk_48, List.forall_mem_cons.mpr ⟨kk_49, List.forall_mem_cons.mpr ⟨kk_50, List.forall_mem_cons.mpr ⟨kk_51, List.forall_mem_cons.mpr ⟨kk_52, List.forall_mem_cons.mpr ⟨kk_53, List.forall_mem_cons.mpr ⟨kk_54, List.forall_mem_cons.mpr ⟨kk_55, List.forall_mem_cons.mpr ⟨kk_56, List.forall_mem_cons.mpr ⟨kk_57, List.forall_mem_cons.mpr ⟨kk_58, List.forall_mem_cons.mpr ⟨kk_59, List.forall_mem_cons.mpr ⟨kk_60, List.forall_mem_cons.mpr ⟨kk_61, List.forall_mem_cons.mpr ⟨kk_62, fun _ h => absurd h List.not_mem_nil⟩⟩⟩⟩⟩⟩⟩⟩⟩⟩⟩⟩⟩⟩⟩⟩⟩⟩⟩⟩⟩
theorem kz_63 : ∀ q ∈ ([63, 64, 65, 66, 67, 68, 69, 70, 71, 72, 73, 74, 75, 76, 77, 78, 79, 80, 81, 82, 83] : List Nat), kK q := List.forall_mem_cons.mpr ⟨kk_63, List.forall_mem_cons.mpr ⟨kk_64, List.forall_mem_cons.mpr ⟨kk_65, List.forall_mem_cons.mpr ⟨kk_66, List.forall_mem_cons.mpr ⟨kk_67, List.forall_mem_cons.mpr ⟨kk_68, List.forall_mem_cons.mpr ⟨kk_69, List.forall_mem_cons.mpr ⟨kk_70, List.forall_mem_cons.mpr ⟨kk_71, List.forall_mem_cons.mpr ⟨kk_72, List.forall_mem_cons.mpr ⟨kk_73, List.forall_mem_cons.mpr ⟨kk_74, List.forall_mem_cons.mpr ⟨kk_75, List.forall_mem_cons.mpr ⟨kk_76, List.forall_mem_cons.mpr ⟨kk_77, List.forall_mem_cons.mpr ⟨kk_78, List.forall_mem_cons.mpr ⟨kk_79, List.forall_mem_cons.mpr ⟨kk_80, List.forall_mem_cons.mpr ⟨kk_81, List.forall_mem_cons.mpr ⟨kk_82, List.forall_mem_cons.mpr ⟨kk_83, fun _ h => absurd h List.not_mem_nil⟩⟩⟩⟩⟩⟩⟩⟩⟩⟩⟩⟩⟩⟩⟩⟩⟩⟩⟩⟩⟩
theorem kz_84 : ∀ q ∈ ([84, 85, 86, 87, 88, 89, 90, 91, 92, 93, 94, 95, 96, 97, 98, 99, 100, 101, 102, 103, 104] : List Nat), kK q := List.forall_mem_cons.mpr ⟨kk_84, List.forall_mem_cons.mpr ⟨kk_85, List.forall_mem_cons.mpr ⟨kk_86, List.forall_mem_cons.mpr ⟨kk_87, List.forall_mem_cons.mpr ⟨kk_88, List.forall_mem_cons.mpr ⟨kk_89, List.forall_mem_cons.mpr ⟨kk_90, List.forall_mem_cons.mpr ⟨kk_91, List.forall_mem_cons.mpr ⟨kk_92, List.forall_mem_cons.mpr ⟨kk_93, List.forall_mem_cons.mpr ⟨kk_94, List.forall_mem_cons.mpr ⟨kk_95, List.forall_mem_cons.mpr ⟨kk_96, List.forall_mem_cons.mpr ⟨kk_97, List.forall_mem_cons.mpr ⟨kk_98, List.forall_mem_cons.mpr ⟨kk_99, List.forall_mem_cons.mpr ⟨kk_100, List.forall_mem_cons.mpr ⟨kk_101, List.forall_mem_cons.mpr ⟨kk_102, List.forall_mem_cons.mpr ⟨kk_103, List.forall_mem_cons.mpr ⟨kk_104, fun _ h => absurd h List.not_mem_nil⟩⟩⟩⟩⟩⟩⟩⟩⟩⟩⟩⟩⟩⟩⟩⟩⟩⟩⟩⟩⟩
theorem kz_105 : ∀ q ∈ ([105, 106, 107, 108, 109, 110, 111, 112, 113, 114, 115, 116, 117, 118, 119, 120, 121, 122, 123, 124, 125] : List Nat), kK q := List.forall_mem_cons.mpr ⟨kk_105, List.forall_mem_cons.mpr ⟨kk_106, List.forall_mem_cons.mpr ⟨kk_107, List.forall_mem_cons.mpr ⟨kk_108, List.forall_mem_cons.mpr ⟨kk_109, List.forall_mem_cons.mpr ⟨kk_110, List.forall_mem_cons.mpr ⟨kk_111, List.forall_mem_cons.mpr ⟨kk_112, List.forall_mem_cons.mpr ⟨kk_113, List.forall_mem_cons.mpr ⟨kk_114, List.forall_mem_cons.mpr ⟨kk_115, List.forall_mem_cons.mpr ⟨kk_116, List.forall_mem_cons.mpr ⟨kk_117, List.forall_mem_cons.mpr ⟨kk_118, List.forall_mem_cons.mpr ⟨kk_119, List.forall_mem_cons.mpr ⟨kk_120, List.forall_mem_cons.mpr ⟨kk_121, List.forall_mem_cons.mpr ⟨kk_122, List.forall_mem_cons.mpr ⟨kk_123, List.forall_mem_cons.mpr ⟨kk_124, List.forall_mem_cons.mpr ⟨kk_125, fun _ h => absurd h List.not_mem_nil⟩⟩⟩⟩⟩⟩⟩⟩⟩⟩⟩⟩⟩⟩⟩⟩⟩⟩⟩⟩⟩
theorem kz_126 : ∀ q ∈ ([126, 127, 128, 129, 130, 131, 132, 133, 134, 135, 136, 137, 138, 139, 140, 141, 142, 143, 144, 145, 146] : List Nat), kK q := List.forall_mem_cons.mpr ⟨kk_126, List.forall_mem_cons.mpr ⟨kk_127, List.forall_mem_cons.mpr ⟨kk_128, List.forall_mem_cons.mpr ⟨kk_129, List.forall_mem_cons.mpr ⟨kk_130, List.forall_mem_cons.mpr ⟨kk_131, List.forall_mem_cons.mpr ⟨kk_132, List.forall_mem_cons.mpr ⟨kk_133, List.forall_mem_cons.mpr ⟨kk_134, List.forall_mem_cons.mpr ⟨kk_135, List.forall_mem_cons.mpr ⟨kk_136, List.forall_mem_cons.mpr ⟨kk_137, List.forall_mem_cons.mpr ⟨kk_138, List.forall_mem_cons.mpr ⟨kk_139, List.forall_mem_cons.mpr ⟨kk_140, List.forall_mem_cons.mpr ⟨kk_141, List.forall_mem_cons.mpr ⟨kk_142, List.forall_mem_cons.mpr ⟨kk_143, List.forall_mem_cons.mpr ⟨kk_144, List.forall_mem_cons.mpr ⟨kk_145, List.forall_mem_cons.mpr ⟨kk_146, fun _ h => absurd h List.not_mem_nil⟩⟩⟩⟩⟩⟩⟩⟩⟩⟩⟩⟩⟩⟩⟩⟩⟩⟩⟩⟩⟩
theorem kz_147 : ∀ q ∈ ([147, 148, 149, 150, 151, 152, 153, 154, 155, 156, 157, 158, 159, 160, 161, 162, 163, 164, 165, 166, 167] : List Nat), kK q := List.forall_mem_cons.mpr ⟨kk_147, List.forall_mem_cons.mpr ⟨kk_148, List.forall_mem_cons.mpr ⟨kk_149, List.forall_mem_cons.mpr ⟨kk_150, List.forall_mem_cons.mpr ⟨kk_151, List.forall_mem_cons.mpr ⟨kk_152, List.forall_mem_cons.mpr ⟨kk_153, List.forall_mem_cons.mpr ⟨kk_154, List.forall_mem_cons.mpr ⟨kk_155, List.forall_mem_cons.mpr ⟨kk_156, List.forall_mem_cons.mpr ⟨kk_157, List.forall_mem_cons.mpr ⟨kk_158, List.forall_mem_cons.mpr ⟨kk_159, List.forall_mem_cons.mpr ⟨kk_160, List.forall_mem_cons.mpr ⟨kk_161, List.forall_mem_cons.mpr ⟨kk_162, List.forall_mem_cons.mpr ⟨kk_163, List.forall_mem_cons.mpr ⟨kk_164, List.forall_mem_cons.mpr ⟨kk_165, List.forall_mem_cons.mpr ⟨kk_166, List.forall_mem_cons.mpr ⟨kk_167, fun _ h => absurd h List.not_mem_nil⟩⟩⟩⟩⟩⟩⟩⟩⟩⟩⟩⟩⟩⟩⟩⟩⟩⟩⟩⟩⟩
theorem kz_168 : ∀ q ∈ ([168, 169, 170, 171, 172, 173, 174, 175, 176, 177, 178, 179, 180, 181, 182, 183, 184, 185, 186, 187, 188] : List Nat), kK q := List.forall_mem_cons.mpr ⟨kk_168, List.forall_mem_cons.mpr ⟨kk_169, List.forall_mem_cons.mpr ⟨kk_170, List.forall_mem_cons.mpr ⟨kk_171, List.forall_mem_cons.mpr ⟨kk_172, List.forall_mem_cons.mpr ⟨kk_173, List.forall_mem_cons.mpr ⟨kk_174, List.forall_mem_cons.mpr ⟨kk_175, List.forall_mem_cons.mpr ⟨kk_176, List.forall_mem_cons.mpr ⟨kk_177, List.forall_mem_cons.mpr ⟨kk_178, List.forall_mem_cons.mpr ⟨kk_179, List.forall_mem_cons.mpr ⟨kk_180, List.forall_mem_cons.mpr ⟨kk_181, List.forall_mem_cons.mpr ⟨kk_182, List.forall_mem_cons.mpr ⟨kk_183, List.forall_mem_cons.mpr ⟨kk_184, List.forall_mem_cons.mpr ⟨kk_185, List.forall_mem_cons.mpr ⟨kk_186, List.forall_mem_cons.mpr ⟨kk_187, List.forall_mem_cons.mpr ⟨kk_188, fun _ h => absurd h List.not_mem_nil⟩⟩⟩⟩⟩⟩⟩⟩⟩⟩⟩⟩⟩⟩⟩⟩⟩⟩⟩⟩⟩
theorem kz_189 : ∀ q ∈ ([189, 190, 191, 192, 193, 194, 195, 196, 197, 198, 199, 200, 201, 202, 203, 204, 205, 206, 207, 208, 209] : List Nat), kK q := List.forall_mem_cons.mpr ⟨kk_189, List.forall_mem_cons.mpr ⟨kk_190, List.forall_mem_cons.mpr ⟨kk_191, List.forall_mem_cons.mpr ⟨kk_192, List.forall_mem_cons.mpr ⟨kk_193, List.forall_mem_cons.mpr ⟨kk_194, List.forall_mem_cons.mpr ⟨kk_195, List.forall_mem_cons.mpr ⟨kk_196, List.forall_mem_cons.mpr ⟨kk_197, List.forall_mem_cons.mpr ⟨kk_198, List.forall_mem_cons.mpr ⟨kk_199, List.forall_mem_cons.mpr ⟨kk_200, List.forall_mem_cons.mpr ⟨kk_201, List.forall_mem_cons.mpr ⟨kk_202, List.forall_mem_cons.mpr ⟨kk_203, List.forall_mem_cons.mpr ⟨kk_204, List.forall_mem_cons.mpr ⟨kk_205, List.forall_mem_cons.mpr ⟨kk_206, List.forall_mem_cons.mpr ⟨kk_207, List.forall_mem_cons.mpr ⟨kk_208, List.forall_mem_cons.mpr ⟨kk_209, fun _ h => absurd h List.not_mem_nil⟩⟩⟩⟩⟩⟩⟩⟩⟩⟩⟩⟩⟩⟩⟩⟩⟩⟩⟩⟩⟩
theorem kz_210 : ∀ q ∈ ([210, 211, 212, 213, 214, 215, 216, 217, 218, 219, 220, 221, 222, 223, 224, 225, 226, 227, 228, 229, 230] : List Nat), kK q := List.forall_mem_cons.mpr ⟨kk_210, List.forall_mem_cons.mpr ⟨kk_211, List.forall_mem_cons.mpr ⟨kk_212, List.forall_mem_cons.mpr ⟨kk_213, List.forall_mem_cons.mpr ⟨kk_214, List.forall_mem_cons.mpr ⟨kk_215, List.forall_mem_cons.mpr ⟨kk_216, List.forall_mem_cons.mpr ⟨kk_217, List.forall_mem_cons.mpr ⟨kk_218, List.forall_mem_cons.mpr ⟨kk_219, List.forall_mem_cons.mpr ⟨kk_220, List.forall_mem_cons.mpr ⟨kk_221, List.forall_mem_cons.mpr ⟨kk_222, List.forall_mem_cons.mpr ⟨kk_223, List.forall_mem_cons.mpr ⟨kk_224, List.forall_mem_cons.mpr ⟨kk_225, List.forall_mem_cons.mpr ⟨kk_226, List.forall_mem_cons.mpr ⟨kk_227, List.forall_mem_cons.mpr ⟨kk_228, List.forall_mem_cons.mpr ⟨kk_229, List.forall_mem_cons.mpr ⟨kk_230, fun _ h => absurd h List.not_mem_nil⟩⟩⟩⟩⟩⟩⟩⟩⟩⟩⟩⟩⟩⟩⟩⟩⟩⟩⟩⟩⟩
theorem kz_231 : ∀ q ∈ ([231, 232, 233, 234, 235, 236, 237, 238, 239, 240, 241, 242, 243, 244, 245, 246, 247, 248, 249, 250, 251] : List Nat), kK q := List.forall_mem_cons.mpr ⟨kk_231, List.forall_mem_cons.mpr ⟨kk_232, List.forall_mem_cons.mpr ⟨kk_233, List.forall_mem_cons.mpr ⟨kk_234, List.forall_mem_cons.mpr ⟨kk_235, List.forall_mem_cons.mpr ⟨kk_236, List.forall_mem_cons.mpr ⟨kk_237, List.forall_mem_cons.mpr ⟨kk_238, List.forall_mem_cons.mpr ⟨kk_239, List.forall_mem_cons.mpr ⟨kk_240, List.forall_mem_cons.mpr ⟨kk_241, List.forall_mem_cons.mpr ⟨kk_242, List.forall_mem_cons.mpr ⟨kk_243, List.forall_mem_cons.mpr ⟨kk_244, List.forall_mem_cons.mpr ⟨kk_245, List.forall_mem_cons.mpr ⟨kk_246, List.forall_mem_cons.mpr ⟨kk_247, List.forall_mem_cons.mpr ⟨kk_248, List.forall_mem_cons.mpr ⟨kk_249, List.forall_mem_cons.mpr ⟨kk_250, List.forall_mem_cons.mpr ⟨kk_251, fun _ h => absurd h List.not_mem_nil⟩⟩⟩⟩⟩⟩⟩⟩⟩⟩⟩⟩⟩⟩⟩⟩⟩⟩⟩⟩⟩
theorem kK_q {q : Nat} (hq : q < 252) : kK q := by
  rcases Nat.lt_or_ge q 21 with h | h
  · exact kz_0 q (by rw [show ([0, 1, 2, 3, 4, 5, 6, 7, 8, 9, 10, 11, 12, 13, 14, 15, 16, 17, 18, 19, 20] : List Nat) = List.range' 0 21 from rfl]; exact List.mem_range'_1.mpr ⟨by omega, h⟩)
  rcases Nat.lt_or_ge q 42 with h | h
  · exact kz_21 q (by rw [show ([21, 22, 23, 24, 25, 26, 27, 28, 29, 30, 31, 32, 33, 34, 35, 36, 37, 38, 39, 40, 41] : List Nat) = List.range' 21 21 from rfl]; exact List.mem_range'_1.mpr ⟨by omega, h⟩)
  rcases Nat.lt_or_ge q 63 with h | h
  · exact kz_42 q (by rw [show ([42, 43, 44, 45, 46, 47, 48, 49, 50, 51, 52, 53, 54, 55, 56, 57, 58, 59, 60, 61, 62] : List Nat) = List.range' 42 21 from rfl]; exact List.mem_range'_1.mpr ⟨by omega, h⟩)
  rcases Nat.lt_or_ge q 84 with h | h
  · exact kz_63 q (by rw [show ([63, 64, 65, 66, 67, 68, 69, 70, 71, 72, 73, 74, 75, 76, 77, 78, 79, 80, 81, 82, 83] : List Nat) = List.range' 63 21 from rfl]; exact List.mem_range'_1.mpr ⟨by omega, h⟩)
  rcases Nat.lt_or_ge q 105 with h | h
  · exact kz_84 q (by rw [show ([84, 85, 86, 87, 88, 89, 90, 91, 92, 93, 94, 95, 96, 97, 98, 99, 100, 101, 102, 103, 104] : List Nat) = List.range' 84 21 from rfl]; exact List.mem_range'_1.mpr ⟨by omega, h⟩)
  rcases Nat.lt_or_ge q 126 with h | h
  · exact kz_105 q (by rw [show ([105, 106, 107, 108, 109, 110, 111, 112, 113, 114, 115, 116, 117, 118, 119, 120, 121, 122, 123, 124, 125] : List Nat) = List.range' 105 21 from rfl]; exact List.mem_range'_1.mpr ⟨by omega, h⟩)
  rcases Nat.lt_or_ge q 147 with h | h
  · exact kz_126 q (by rw [show ([126, 127, 128, 129, 130, 131, 132, 133, 134, 135, 136, 137, 138, 139, 140, 141, 142, 143, 144, 145, 146] : List Nat) = List.range' 126 21 from rfl]; exact List.mem_range'_1.mpr ⟨by omega, h⟩)
  rcases Nat.lt_or_ge q 168 with h | h
  · exact kz_147 q (by rw [show ([147, 148, 149, 150, 151, 152, 153, 154, 155, 156, 157, 158, 159, 160, 161, 162, 163, 164, 165, 166, 167] : List Nat) = List.range' 147 21 from rfl]; exact List.mem_range'_1.mpr ⟨by omega, h⟩)
  rcases Nat.lt_or_ge q 189 with h | h
  · exact kz_168 q (by rw [show ([168, 169, 170, 171, 172, 173, 174, 175, 176, 177, 178, 179, 180, 181, 182, 183, 184, 185, 186, 187, 188] : List Nat) = List.range' 168 21 from rfl]; exact List.mem_range'_1.mpr ⟨by omega, h⟩)
  rcases Nat.lt_or_ge q 210 with h | h
  · exact kz_189 q (by rw [show ([189, 190, 191, 192, 193, 194, 195, 196, 197, 198, 199, 200, 201, 202, 203, 204, 205, 206, 207, 208, 209] : List Nat) = List.range' 189 21 from rfl]; exact List.mem_range'_1.mpr ⟨by omega, h⟩)
  rcases Nat.lt_or_ge q 231 with h | h
  · exact kz_210 q (by rw [show ([210, 211, 212, 213, 214, 215, 216, 217, 218, 219, 220, 221, 222, 223, 224, 225, 226, 227, 228, 229, 230] : List Nat) = List.range' 210 21 from rfl]; exact List.mem_range'_1.mpr ⟨by omega, h⟩)
  rcases Nat.lt_or_ge q 252 with h | h
  · exact kz_231 q (by rw [show ([231, 232, 233, 234, 235, 236, 237, 238, 239, 240, 241, 242, 243, 244, 245, 246, 247, 248, 249, 250, 251] : List Nat) = List.range' 231 21 from rfl]; exact List.mem_range'_1.mpr ⟨by omega, h⟩)
  · omega
