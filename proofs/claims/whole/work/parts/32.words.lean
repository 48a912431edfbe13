/-! Places of the words that the tables rest on; checks of the tables. Written by a program. -/
def ex_fw (cl x : Nat) : Nat := cond (Nat.blt cl 9) (cond (Nat.blt cl 4) (cond (Nat.blt cl 2) (cond (Nat.blt cl 1) (cond (Nat.beq cl 0) (cond (Nat.blt x 195) (cond (Nat.beq x 191) (1349) 9999) (cond (Nat.blt x 205) (cond (Nat.beq x 195) (1351) 9999) (cond (Nat.beq x 205) (1362) 9999))) 9999) (cond (Nat.beq cl 1) (cond (Nat.blt x 22) (cond (Nat.blt x 13) (cond (Nat.beq x 1) (1069) 9999) (cond (Nat.blt x 17) (cond (Nat.beq x 13) (1067) 9999) (cond (Nat.beq x 17) (972) 9999))) (cond (Nat.blt x 25) (cond (Nat.beq x 22) (1068) 9999) (cond (Nat.blt x 37) (cond (Nat.beq x 25) (1066) 9999) (cond (Nat.beq x 37) (968) 9999)))) 9999)) (cond (Nat.blt cl 3) (cond (Nat.beq cl 2) (cond (Nat.blt x 48) (cond (Nat.blt x 39) (cond (Nat.beq x 9) (967) 9999) (cond (Nat.beq x 39) (965) 9999)) (cond (Nat.blt x 63) (cond (Nat.beq x 48) (970) 9999) (cond (Nat.beq x 63) (974) 9999))) 9999) (cond (Nat.beq cl 3) (cond (Nat.blt x 22) (cond (Nat.blt x 18) (cond (Nat.beq x 12) (186) 9999) (cond (Nat.beq x 18) (198) 9999)) (cond (Nat.blt x 25) (cond (Nat.beq x 22) (192) 9999) (cond (Nat.blt x 35) (cond (Nat.beq x 25) (189) 9999) (cond (Nat.beq x 35) (195) 9999)))) 9999))) (cond (Nat.blt cl 6) (cond (Nat.blt cl 5) (cond (Nat.beq cl 4) (cond (Nat.blt x 18) (cond (Nat.blt x 15) (cond (Nat.beq x 9) (148) 9999) (cond (Nat.beq x 15) (142) 9999)) (cond (Nat.blt x 21) (cond (Nat.beq x 18) (145) 9999) (cond (Nat.blt x 25) (cond (Nat.beq x 21) (152) 9999) (cond (Nat.beq x 25) (154) 9999)))) 9999) (cond (Nat.beq cl 5) (cond (Nat.blt x 15) (cond (Nat.beq x 9) (307) 9999) (cond (Nat.beq x 15) (308) 9999)) 9999)) (cond (Nat.blt cl 7) (cond (Nat.beq cl 6) (cond (Nat.blt x 18) (cond (Nat.blt x 15) (cond (Nat.beq x 9) (96) 9999) (cond (Nat.beq x 15) (97) 9999)) (cond (Nat.blt x 22) (cond (Nat.beq x 18) (98) 9999) (cond (Nat.beq x 22) (99) 9999))) 9999) (cond (Nat.blt cl 8) (cond (Nat.beq cl 7) (cond (Nat.blt x 18) (cond (Nat.beq x 11) (117) 9999) (cond (Nat.blt x 33) (cond (Nat.beq x 18) (118) 9999) (cond (Nat.beq x 33) (101) 9999))) 9999) (cond (Nat.beq cl 8) (cond (Nat.blt x 15) (cond (Nat.beq x 9) (177) 9999) (cond (Nat.beq x 15) (178) 9999)) 9999))))) (cond (Nat.blt cl 13) (cond (Nat.blt cl 11) (cond (Nat.blt cl 10) (cond (Nat.beq cl 9) (cond (Nat.blt x 117) (cond (Nat.blt x 57) (cond (Nat.blt x 39) (cond (Nat.blt x 19) (cond (Nat.beq x 11) (275) 9999) (cond (Nat.blt x 25) (cond (Nat.beq x 19) (276) 9999) (cond (Nat.beq x 25) (277) 9999))) (cond (Nat.blt x 45) (cond (Nat.beq x 39) (278) 9999) (cond (Nat.blt x 54) (cond (Nat.beq x 45) (280) 9999) (cond (Nat.beq x 54) (190) 9999)))) (cond (Nat.blt x 72) (cond (Nat.blt x 64) (cond (Nat.beq x 57) (193) 9999) (cond (Nat.blt x 69) (cond (Nat.beq x 64) (222) 9999) (cond (Nat.beq x 69) (231) 9999))) (cond (Nat.blt x 81) (cond (Nat.blt x 75) (cond (Nat.beq x 72) (233) 9999) (cond (Nat.beq x 75) (283) 9999)) (cond (Nat.blt x 114) (cond (Nat.beq x 81) (284) 9999) (cond (Nat.beq x 114) (199) 9999))))) (cond (Nat.blt x 172) (cond (Nat.blt x 140) (cond (Nat.blt x 121) (cond (Nat.beq x 117) (187) 9999) (cond (Nat.blt x 133) (cond (Nat.beq x 121) (179) 9999) (cond (Nat.beq x 133) (153) 9999))) (cond (Nat.blt x 153) (cond (Nat.blt x 146) (cond (Nat.beq x 140) (144) 9999) (cond (Nat.beq x 146) (196) 9999)) (cond (Nat.blt x 156) (cond (Nat.beq x 153) (149) 9999) (cond (Nat.beq x 156) (237) 9999)))) (cond (Nat.blt x 191) (cond (Nat.blt x 175) (cond (Nat.beq x 172) (102) 9999) (cond (Nat.blt x 188) (cond (Nat.beq x 175) (226) 9999) (cond (Nat.beq x 188) (242) 9999))) (cond (Nat.blt x 205) (cond (Nat.blt x 194) (cond (Nat.beq x 191) (146) 9999) (cond (Nat.beq x 194) (220) 9999)) (cond (Nat.blt x 224) (cond (Nat.beq x 205) (240) 9999) (cond (Nat.beq x 224) (247) 9999)))))) 9999) (cond (Nat.beq cl 10) (cond (Nat.blt x 35) (cond (Nat.blt x 26) (cond (Nat.blt x 18) (cond (Nat.beq x 12) (218) 9999) (cond (Nat.blt x 22) (cond (Nat.beq x 18) (221) 9999) (cond (Nat.beq x 22) (236) 9999))) (cond (Nat.blt x 29) (cond (Nat.beq x 26) (239) 9999) (cond (Nat.blt x 32) (cond (Nat.beq x 29) (248) 9999) (cond (Nat.beq x 32) (225) 9999)))) (cond (Nat.blt x 55) (cond (Nat.blt x 38) (cond (Nat.beq x 35) (228) 9999) (cond (Nat.blt x 48) (cond (Nat.beq x 38) (230) 9999) (cond (Nat.beq x 48) (223) 9999))) (cond (Nat.blt x 70) (cond (Nat.beq x 55) (245) 9999) (cond (Nat.blt x 73) (cond (Nat.beq x 70) (234) 9999) (cond (Nat.beq x 73) (243) 9999))))) 9999)) (cond (Nat.blt cl 12) (cond (Nat.beq cl 11) (cond (Nat.blt x 168) (cond (Nat.blt x 79) (cond (Nat.blt x 29) (cond (Nat.blt x 19) (cond (Nat.beq x 10) (314) 9999) (cond (Nat.blt x 23) (cond (Nat.beq x 19) (315) 9999) (cond (Nat.beq x 23) (316) 9999))) (cond (Nat.blt x 54) (cond (Nat.blt x 45) (cond (Nat.beq x 29) (317) 9999) (cond (Nat.beq x 45) (151) 9999)) (cond (Nat.blt x 68) (cond (Nat.beq x 54) (143) 9999) (cond (Nat.beq x 68) (119) 9999)))) (cond (Nat.blt x 120) (cond (Nat.blt x 102) (cond (Nat.blt x 84) (cond (Nat.beq x 79) (100) 9999) (cond (Nat.beq x 84) (282) 9999)) (cond (Nat.blt x 109) (cond (Nat.beq x 102) (279) 9999) (cond (Nat.beq x 109) (281) 9999))) (cond (Nat.blt x 140) (cond (Nat.blt x 135) (cond (Nat.beq x 120) (188) 9999) (cond (Nat.beq x 135) (238) 9999)) (cond (Nat.blt x 162) (cond (Nat.beq x 140) (219) 9999) (cond (Nat.beq x 162) (227) 9999))))) (cond (Nat.blt x 208) (cond (Nat.blt x 192) (cond (Nat.blt x 174) (cond (Nat.blt x 171) (cond (Nat.beq x 168) (229) 9999) (cond (Nat.beq x 171) (191) 9999)) (cond (Nat.blt x 189) (cond (Nat.beq x 174) (194) 9999) (cond (Nat.beq x 189) (147) 9999))) (cond (Nat.blt x 204) (cond (Nat.blt x 201) (cond (Nat.beq x 192) (150) 9999) (cond (Nat.beq x 201) (180) 9999)) (cond (Nat.blt x 207) (cond (Nat.beq x 204) (197) 9999) (cond (Nat.beq x 207) (224) 9999)))) (cond (Nat.blt x 220) (cond (Nat.blt x 214) (cond (Nat.blt x 211) (cond (Nat.beq x 208) (232) 9999) (cond (Nat.beq x 211) (235) 9999)) (cond (Nat.blt x 217) (cond (Nat.beq x 214) (241) 9999) (cond (Nat.beq x 217) (244) 9999))) (cond (Nat.blt x 247) (cond (Nat.blt x 223) (cond (Nat.beq x 220) (246) 9999) (cond (Nat.beq x 223) (249) 9999)) (cond (Nat.blt x 312) (cond (Nat.beq x 247) (285) 9999) (cond (Nat.beq x 312) (103) 9999)))))) 9999) (cond (Nat.beq cl 12) (cond (Nat.blt x 16) (cond (Nat.beq x 10) (1257) 9999) (cond (Nat.blt x 20) (cond (Nat.beq x 16) (1247) 9999) (cond (Nat.beq x 20) (1250) 9999))) 9999))) (cond (Nat.blt cl 15) (cond (Nat.blt cl 14) (cond (Nat.beq cl 13) (cond (Nat.blt x 18) (cond (Nat.beq x 12) (1131) 9999) (cond (Nat.blt x 22) (cond (Nat.beq x 18) (1133) 9999) (cond (Nat.beq x 22) (1128) 9999))) 9999) (cond (Nat.beq cl 14) (cond (Nat.blt x 154) (cond (Nat.blt x 39) (cond (Nat.blt x 21) (cond (Nat.blt x 15) (cond (Nat.beq x 9) (986) 9999) (cond (Nat.blt x 18) (cond (Nat.beq x 15) (988) 9999) (cond (Nat.beq x 18) (990) 9999))) (cond (Nat.blt x 32) (cond (Nat.blt x 28) (cond (Nat.beq x 21) (992) 9999) (cond (Nat.beq x 28) (994) 9999)) (cond (Nat.blt x 35) (cond (Nat.beq x 32) (996) 9999) (cond (Nat.beq x 35) (998) 9999)))) (cond (Nat.blt x 123) (cond (Nat.blt x 116) (cond (Nat.beq x 39) (982) 9999) (cond (Nat.blt x 119) (cond (Nat.beq x 116) (984) 9999) (cond (Nat.beq x 119) (1256) 9999))) (cond (Nat.blt x 129) (cond (Nat.blt x 126) (cond (Nat.beq x 123) (1248) 9999) (cond (Nat.beq x 126) (1255) 9999)) (cond (Nat.blt x 151) (cond (Nat.beq x 129) (1258) 9999) (cond (Nat.beq x 151) (1251) 9999))))) (cond (Nat.blt x 193) (cond (Nat.blt x 180) (cond (Nat.blt x 164) (cond (Nat.beq x 154) (1253) 9999) (cond (Nat.blt x 170) (cond (Nat.beq x 164) (1291) 9999) (cond (Nat.beq x 170) (1297) 9999))) (cond (Nat.blt x 186) (cond (Nat.blt x 185) (cond (Nat.beq x 180) (1294) 9999) (cond (Nat.beq x 185) (1285) 9999)) (cond (Nat.blt x 187) (cond (Nat.beq x 186) (1129) 9999) (cond (Nat.beq x 187) (1288) 9999)))) (cond (Nat.blt x 203) (cond (Nat.blt x 199) (cond (Nat.beq x 193) (1134) 9999) (cond (Nat.blt x 202) (cond (Nat.beq x 199) (1307) 9999) (cond (Nat.beq x 202) (1313) 9999))) (cond (Nat.blt x 213) (cond (Nat.blt x 206) (cond (Nat.beq x 203) (1310) 9999) (cond (Nat.beq x 206) (1302) 9999)) (cond (Nat.blt x 216) (cond (Nat.beq x 213) (1300) 9999) (cond (Nat.beq x 216) (1304) 9999)))))) 9999)) (cond (Nat.blt cl 16) (cond (Nat.beq cl 15) (cond (Nat.blt x 28) (cond (Nat.blt x 18) (cond (Nat.blt x 15) (cond (Nat.beq x 9) (1296) 9999) (cond (Nat.beq x 15) (1299) 9999)) (cond (Nat.blt x 21) (cond (Nat.beq x 18) (1306) 9999) (cond (Nat.beq x 21) (1309) 9999))) (cond (Nat.blt x 35) (cond (Nat.blt x 32) (cond (Nat.beq x 28) (1312) 9999) (cond (Nat.beq x 32) (1284) 9999)) (cond (Nat.blt x 38) (cond (Nat.beq x 35) (1287) 9999) (cond (Nat.blt x 41) (cond (Nat.beq x 38) (1290) 9999) (cond (Nat.beq x 41) (1293) 9999))))) 9999) (cond (Nat.blt cl 44) (cond (Nat.beq cl 16) (cond (Nat.blt x 125) (cond (Nat.blt x 72) (cond (Nat.blt x 44) (cond (Nat.blt x 26) (cond (Nat.beq x 22) (1020) 9999) (cond (Nat.blt x 34) (cond (Nat.beq x 26) (1019) 9999) (cond (Nat.beq x 34) (999) 9999))) (cond (Nat.blt x 66) (cond (Nat.blt x 47) (cond (Nat.beq x 44) (997) 9999) (cond (Nat.beq x 47) (995) 9999)) (cond (Nat.blt x 71) (cond (Nat.beq x 66) (1130) 9999) (cond (Nat.beq x 71) (1286) 9999)))) (cond (Nat.blt x 89) (cond (Nat.blt x 77) (cond (Nat.beq x 72) (1298) 9999) (cond (Nat.blt x 85) (cond (Nat.beq x 77) (1249) 9999) (cond (Nat.beq x 85) (993) 9999))) (cond (Nat.blt x 105) (cond (Nat.blt x 102) (cond (Nat.beq x 89) (987) 9999) (cond (Nat.beq x 102) (989) 9999)) (cond (Nat.blt x 122) (cond (Nat.beq x 105) (991) 9999) (cond (Nat.beq x 122) (1132) 9999))))) (cond (Nat.blt x 197) (cond (Nat.blt x 152) (cond (Nat.blt x 131) (cond (Nat.beq x 125) (983) 9999) (cond (Nat.blt x 143) (cond (Nat.beq x 131) (1135) 9999) (cond (Nat.beq x 143) (1259) 9999))) (cond (Nat.blt x 170) (cond (Nat.blt x 163) (cond (Nat.beq x 152) (1314) 9999) (cond (Nat.beq x 163) (1301) 9999)) (cond (Nat.blt x 176) (cond (Nat.beq x 170) (1289) 9999) (cond (Nat.beq x 176) (1252) 9999)))) (cond (Nat.blt x 212) (cond (Nat.blt x 206) (cond (Nat.blt x 203) (cond (Nat.beq x 197) (1254) 9999) (cond (Nat.beq x 203) (1311) 9999)) (cond (Nat.blt x 209) (cond (Nat.beq x 206) (1292) 9999) (cond (Nat.beq x 209) (1295) 9999))) (cond (Nat.blt x 218) (cond (Nat.blt x 215) (cond (Nat.beq x 212) (1303) 9999) (cond (Nat.beq x 215) (1305) 9999)) (cond (Nat.blt x 233) (cond (Nat.beq x 218) (1308) 9999) (cond (Nat.beq x 233) (985) 9999)))))) 9999) (cond (Nat.beq cl 44) (cond (Nat.beq x 7) (971) 9999) 9999)))))
def ex_lw (cl x : Nat) : Nat := cond (Nat.blt cl 12) (cond (Nat.blt cl 6) (cond (Nat.blt cl 3) (cond (Nat.blt cl 1) (cond (Nat.beq cl 0) (cond (Nat.blt x 202) (cond (Nat.beq x 199) (1355) 9999) (cond (Nat.beq x 202) (1358) 9999)) 9999) (cond (Nat.blt cl 2) (cond (Nat.beq cl 1) (cond (Nat.blt x 31) (cond (Nat.beq x 7) (1065) 9999) (cond (Nat.beq x 31) (1098) 9999)) 9999) (cond (Nat.beq cl 2) (cond (Nat.blt x 112) (cond (Nat.blt x 69) (cond (Nat.blt x 42) (cond (Nat.beq x 1) (958) 9999) (cond (Nat.blt x 66) (cond (Nat.beq x 42) (1617) 9999) (cond (Nat.beq x 66) (1167) 9999))) (cond (Nat.blt x 73) (cond (Nat.beq x 69) (1155) 9999) (cond (Nat.blt x 79) (cond (Nat.beq x 73) (1159) 9999) (cond (Nat.beq x 79) (1204) 9999)))) (cond (Nat.blt x 129) (cond (Nat.blt x 118) (cond (Nat.beq x 112) (1471) 9999) (cond (Nat.blt x 123) (cond (Nat.beq x 118) (1218) 9999) (cond (Nat.beq x 123) (1224) 9999))) (cond (Nat.blt x 144) (cond (Nat.blt x 131) (cond (Nat.beq x 129) (1151) 9999) (cond (Nat.beq x 131) (1147) 9999)) (cond (Nat.blt x 269) (cond (Nat.beq x 144) (1467) 9999) (cond (Nat.beq x 269) (1062) 9999))))) 9999))) (cond (Nat.blt cl 4) (cond (Nat.beq cl 3) (cond (Nat.blt x 28) (cond (Nat.beq x 3) (170) 9999) (cond (Nat.blt x 31) (cond (Nat.beq x 28) (669) 9999) (cond (Nat.beq x 31) (609) 9999))) 9999) (cond (Nat.blt cl 5) (cond (Nat.beq cl 4) (cond (Nat.blt x 28) (cond (Nat.beq x 3) (141) 9999) (cond (Nat.blt x 34) (cond (Nat.beq x 28) (636) 9999) (cond (Nat.beq x 34) (643) 9999))) 9999) (cond (Nat.beq cl 5) (cond (Nat.blt x 22) (cond (Nat.blt x 18) (cond (Nat.beq x 3) (306) 9999) (cond (Nat.beq x 18) (554) 9999)) (cond (Nat.blt x 26) (cond (Nat.beq x 22) (565) 9999) (cond (Nat.blt x 33) (cond (Nat.beq x 26) (558) 9999) (cond (Nat.beq x 33) (569) 9999)))) 9999)))) (cond (Nat.blt cl 9) (cond (Nat.blt cl 7) (cond (Nat.beq cl 6) (cond (Nat.blt x 26) (cond (Nat.beq x 3) (95) 9999) (cond (Nat.blt x 30) (cond (Nat.beq x 26) (705) 9999) (cond (Nat.beq x 30) (709) 9999))) 9999) (cond (Nat.blt cl 8) (cond (Nat.beq cl 7) (cond (Nat.blt x 26) (cond (Nat.beq x 3) (88) 9999) (cond (Nat.blt x 29) (cond (Nat.beq x 26) (549) 9999) (cond (Nat.beq x 29) (775) 9999))) 9999) (cond (Nat.beq cl 8) (cond (Nat.blt x 19) (cond (Nat.beq x 3) (176) 9999) (cond (Nat.beq x 19) (673) 9999)) 9999))) (cond (Nat.blt cl 10) (cond (Nat.beq cl 9) (cond (Nat.blt x 159) (cond (Nat.blt x 91) (cond (Nat.blt x 65) (cond (Nat.blt x 50) (cond (Nat.blt x 36) (cond (Nat.beq x 3) (130) 9999) (cond (Nat.beq x 36) (445) 9999)) (cond (Nat.blt x 60) (cond (Nat.beq x 50) (604) 9999) (cond (Nat.beq x 60) (431) 9999))) (cond (Nat.blt x 84) (cond (Nat.blt x 78) (cond (Nat.beq x 65) (836) 9999) (cond (Nat.beq x 78) (623) 9999)) (cond (Nat.blt x 88) (cond (Nat.beq x 84) (639) 9999) (cond (Nat.beq x 88) (644) 9999)))) (cond (Nat.blt x 111) (cond (Nat.blt x 103) (cond (Nat.blt x 95) (cond (Nat.beq x 91) (648) 9999) (cond (Nat.beq x 95) (674) 9999)) (cond (Nat.blt x 107) (cond (Nat.beq x 103) (599) 9999) (cond (Nat.beq x 107) (628) 9999))) (cond (Nat.blt x 137) (cond (Nat.blt x 126) (cond (Nat.beq x 111) (632) 9999) (cond (Nat.beq x 126) (652) 9999)) (cond (Nat.blt x 143) (cond (Nat.beq x 137) (657) 9999) (cond (Nat.blt x 149) (cond (Nat.beq x 143) (661) 9999) (cond (Nat.beq x 149) (665) 9999)))))) (cond (Nat.blt x 202) (cond (Nat.blt x 182) (cond (Nat.blt x 166) (cond (Nat.blt x 163) (cond (Nat.beq x 159) (678) 9999) (cond (Nat.beq x 163) (685) 9999)) (cond (Nat.blt x 178) (cond (Nat.beq x 166) (700) 9999) (cond (Nat.beq x 178) (701) 9999))) (cond (Nat.blt x 195) (cond (Nat.blt x 185) (cond (Nat.beq x 182) (713) 9999) (cond (Nat.beq x 185) (721) 9999)) (cond (Nat.blt x 198) (cond (Nat.beq x 195) (682) 9999) (cond (Nat.beq x 198) (683) 9999)))) (cond (Nat.blt x 217) (cond (Nat.blt x 211) (cond (Nat.blt x 208) (cond (Nat.beq x 202) (684) 9999) (cond (Nat.beq x 208) (689) 9999)) (cond (Nat.blt x 214) (cond (Nat.beq x 211) (699) 9999) (cond (Nat.beq x 214) (770) 9999))) (cond (Nat.blt x 227) (cond (Nat.blt x 221) (cond (Nat.beq x 217) (497) 9999) (cond (Nat.beq x 221) (455) 9999)) (cond (Nat.blt x 230) (cond (Nat.beq x 227) (600) 9999) (cond (Nat.blt x 232) (cond (Nat.beq x 230) (605) 9999) (cond (Nat.beq x 232) (613) 9999))))))) 9999) (cond (Nat.blt cl 11) (cond (Nat.beq cl 10) (cond (Nat.blt x 51) (cond (Nat.blt x 41) (cond (Nat.beq x 3) (215) 9999) (cond (Nat.blt x 45) (cond (Nat.beq x 41) (693) 9999) (cond (Nat.beq x 45) (694) 9999))) (cond (Nat.blt x 62) (cond (Nat.blt x 58) (cond (Nat.beq x 51) (698) 9999) (cond (Nat.beq x 58) (717) 9999)) (cond (Nat.blt x 66) (cond (Nat.beq x 62) (617) 9999) (cond (Nat.beq x 66) (618) 9999)))) 9999) (cond (Nat.beq cl 11) (cond (Nat.blt x 198) (cond (Nat.blt x 105) (cond (Nat.blt x 62) (cond (Nat.blt x 37) (cond (Nat.blt x 18) (cond (Nat.blt x 9) (cond (Nat.beq x 1) (80) 9999) (cond (Nat.beq x 9) (85) 9999)) (cond (Nat.blt x 33) (cond (Nat.beq x 18) (127) 9999) (cond (Nat.beq x 33) (471) 9999))) (cond (Nat.blt x 51) (cond (Nat.blt x 41) (cond (Nat.beq x 37) (349) 9999) (cond (Nat.beq x 41) (352) 9999)) (cond (Nat.blt x 58) (cond (Nat.beq x 51) (740) 9999) (cond (Nat.beq x 58) (766) 9999)))) (cond (Nat.blt x 87) (cond (Nat.blt x 71) (cond (Nat.blt x 65) (cond (Nat.beq x 62) (771) 9999) (cond (Nat.beq x 65) (776) 9999)) (cond (Nat.blt x 75) (cond (Nat.beq x 71) (787) 9999) (cond (Nat.beq x 75) (543) 9999))) (cond (Nat.blt x 95) (cond (Nat.blt x 91) (cond (Nat.beq x 87) (798) 9999) (cond (Nat.beq x 91) (509) 9999)) (cond (Nat.blt x 98) (cond (Nat.beq x 95) (809) 9999) (cond (Nat.beq x 98) (810) 9999))))) (cond (Nat.blt x 152) (cond (Nat.blt x 132) (cond (Nat.blt x 116) (cond (Nat.blt x 112) (cond (Nat.beq x 105) (821) 9999) (cond (Nat.beq x 112) (832) 9999)) (cond (Nat.blt x 126) (cond (Nat.beq x 116) (488) 9999) (cond (Nat.beq x 126) (847) 9999))) (cond (Nat.blt x 144) (cond (Nat.blt x 141) (cond (Nat.beq x 132) (851) 9999) (cond (Nat.beq x 141) (869) 9999)) (cond (Nat.blt x 148) (cond (Nat.beq x 144) (870) 9999) (cond (Nat.beq x 148) (878) 9999)))) (cond (Nat.blt x 177) (cond (Nat.blt x 159) (cond (Nat.blt x 156) (cond (Nat.beq x 152) (881) 9999) (cond (Nat.beq x 156) (493) 9999)) (cond (Nat.blt x 165) (cond (Nat.beq x 159) (882) 9999) (cond (Nat.beq x 165) (501) 9999))) (cond (Nat.blt x 185) (cond (Nat.blt x 182) (cond (Nat.beq x 177) (897) 9999) (cond (Nat.beq x 182) (592) 9999)) (cond (Nat.blt x 195) (cond (Nat.beq x 185) (619) 9999) (cond (Nat.beq x 195) (476) 9999)))))) (cond (Nat.blt x 274) (cond (Nat.blt x 250) (cond (Nat.blt x 235) (cond (Nat.blt x 229) (cond (Nat.blt x 226) (cond (Nat.beq x 198) (480) 9999) (cond (Nat.beq x 226) (576) 9999)) (cond (Nat.blt x 232) (cond (Nat.beq x 229) (729) 9999) (cond (Nat.beq x 232) (335) 9999))) (cond (Nat.blt x 241) (cond (Nat.blt x 238) (cond (Nat.beq x 235) (423) 9999) (cond (Nat.beq x 238) (427) 9999)) (cond (Nat.blt x 244) (cond (Nat.beq x 241) (451) 9999) (cond (Nat.beq x 244) (459) 9999)))) (cond (Nat.blt x 263) (cond (Nat.blt x 256) (cond (Nat.blt x 253) (cond (Nat.beq x 250) (463) 9999) (cond (Nat.beq x 253) (331) 9999)) (cond (Nat.blt x 260) (cond (Nat.beq x 256) (524) 9999) (cond (Nat.beq x 260) (535) 9999))) (cond (Nat.blt x 270) (cond (Nat.blt x 266) (cond (Nat.beq x 263) (550) 9999) (cond (Nat.beq x 266) (517) 9999)) (cond (Nat.blt x 273) (cond (Nat.beq x 270) (510) 9999) (cond (Nat.beq x 273) (516) 9999))))) (cond (Nat.blt x 303) (cond (Nat.blt x 291) (cond (Nat.blt x 285) (cond (Nat.blt x 282) (cond (Nat.beq x 274) (595) 9999) (cond (Nat.beq x 282) (345) 9999)) (cond (Nat.blt x 288) (cond (Nat.beq x 285) (467) 9999) (cond (Nat.beq x 288) (484) 9999))) (cond (Nat.blt x 297) (cond (Nat.blt x 294) (cond (Nat.beq x 291) (505) 9999) (cond (Nat.beq x 294) (572) 9999)) (cond (Nat.blt x 300) (cond (Nat.beq x 297) (539) 9999) (cond (Nat.beq x 300) (580) 9999)))) (cond (Nat.blt x 317) (cond (Nat.blt x 309) (cond (Nat.blt x 306) (cond (Nat.beq x 303) (584) 9999) (cond (Nat.beq x 306) (588) 9999)) (cond (Nat.blt x 313) (cond (Nat.beq x 309) (725) 9999) (cond (Nat.beq x 313) (521) 9999))) (cond (Nat.blt x 328) (cond (Nat.blt x 320) (cond (Nat.beq x 317) (531) 9999) (cond (Nat.beq x 320) (527) 9999)) (cond (Nat.blt x 335) (cond (Nat.beq x 328) (397) 9999) (cond (Nat.blt x 336) (cond (Nat.beq x 335) (753) 9999) (cond (Nat.beq x 336) (513) 9999)))))))) 9999))))) (cond (Nat.blt cl 41) (cond (Nat.blt cl 15) (cond (Nat.blt cl 13) (cond (Nat.beq cl 12) (cond (Nat.blt x 23) (cond (Nat.blt x 9) (cond (Nat.beq x 1) (1244) 9999) (cond (Nat.beq x 9) (1246) 9999)) (cond (Nat.blt x 26) (cond (Nat.beq x 23) (1611) 9999) (cond (Nat.beq x 26) (1612) 9999))) 9999) (cond (Nat.blt cl 14) (cond (Nat.beq cl 13) (cond (Nat.blt x 26) (cond (Nat.blt x 11) (cond (Nat.beq x 3) (1125) 9999) (cond (Nat.beq x 11) (1127) 9999)) (cond (Nat.blt x 30) (cond (Nat.beq x 26) (1500) 9999) (cond (Nat.beq x 30) (1501) 9999))) 9999) (cond (Nat.beq cl 14) (cond (Nat.blt x 113) (cond (Nat.blt x 69) (cond (Nat.blt x 49) (cond (Nat.blt x 38) (cond (Nat.blt x 27) (cond (Nat.beq x 3) (952) 9999) (cond (Nat.beq x 27) (955) 9999)) (cond (Nat.blt x 43) (cond (Nat.beq x 38) (1604) 9999) (cond (Nat.beq x 43) (1605) 9999))) (cond (Nat.blt x 59) (cond (Nat.blt x 53) (cond (Nat.beq x 49) (1394) 9999) (cond (Nat.beq x 53) (1396) 9999)) (cond (Nat.blt x 65) (cond (Nat.beq x 59) (1398) 9999) (cond (Nat.beq x 65) (1606) 9999)))) (cond (Nat.blt x 90) (cond (Nat.blt x 78) (cond (Nat.blt x 75) (cond (Nat.beq x 69) (1626) 9999) (cond (Nat.beq x 75) (1627) 9999)) (cond (Nat.blt x 86) (cond (Nat.beq x 78) (1634) 9999) (cond (Nat.beq x 86) (1426) 9999))) (cond (Nat.blt x 97) (cond (Nat.blt x 93) (cond (Nat.beq x 90) (1434) 9999) (cond (Nat.beq x 93) (1440) 9999)) (cond (Nat.blt x 101) (cond (Nat.beq x 97) (1472) 9999) (cond (Nat.blt x 108) (cond (Nat.beq x 101) (1473) 9999) (cond (Nat.beq x 108) (1433) 9999)))))) (cond (Nat.blt x 167) (cond (Nat.blt x 144) (cond (Nat.blt x 135) (cond (Nat.blt x 132) (cond (Nat.beq x 113) (1438) 9999) (cond (Nat.beq x 132) (1444) 9999)) (cond (Nat.blt x 141) (cond (Nat.beq x 135) (1448) 9999) (cond (Nat.beq x 141) (1450) 9999))) (cond (Nat.blt x 157) (cond (Nat.blt x 148) (cond (Nat.beq x 144) (1454) 9999) (cond (Nat.beq x 148) (1462) 9999)) (cond (Nat.blt x 160) (cond (Nat.beq x 157) (1463) 9999) (cond (Nat.beq x 160) (1485) 9999)))) (cond (Nat.blt x 196) (cond (Nat.blt x 177) (cond (Nat.blt x 173) (cond (Nat.beq x 167) (1489) 9999) (cond (Nat.beq x 173) (1477) 9999)) (cond (Nat.blt x 190) (cond (Nat.beq x 177) (1490) 9999) (cond (Nat.beq x 190) (1496) 9999))) (cond (Nat.blt x 219) (cond (Nat.blt x 209) (cond (Nat.beq x 196) (1494) 9999) (cond (Nat.beq x 209) (1481) 9999)) (cond (Nat.blt x 223) (cond (Nat.beq x 219) (1569) 9999) (cond (Nat.blt x 227) (cond (Nat.beq x 223) (1565) 9999) (cond (Nat.beq x 227) (1581) 9999))))))) 9999))) (cond (Nat.blt cl 16) (cond (Nat.beq cl 15) (cond (Nat.blt x 44) (cond (Nat.blt x 27) (cond (Nat.beq x 3) (1281) 9999) (cond (Nat.beq x 27) (1283) 9999)) (cond (Nat.blt x 47) (cond (Nat.beq x 44) (1632) 9999) (cond (Nat.beq x 47) (1633) 9999))) 9999) (cond (Nat.blt cl 40) (cond (Nat.beq cl 16) (cond (Nat.blt x 156) (cond (Nat.blt x 96) (cond (Nat.blt x 50) (cond (Nat.blt x 13) (cond (Nat.blt x 7) (cond (Nat.beq x 3) (1037) 9999) (cond (Nat.beq x 7) (1461) 9999)) (cond (Nat.blt x 30) (cond (Nat.beq x 13) (946) 9999) (cond (Nat.blt x 38) (cond (Nat.beq x 30) (1044) 9999) (cond (Nat.beq x 38) (1117) 9999)))) (cond (Nat.blt x 78) (cond (Nat.blt x 54) (cond (Nat.beq x 50) (1056) 9999) (cond (Nat.blt x 60) (cond (Nat.beq x 54) (1080) 9999) (cond (Nat.beq x 60) (1090) 9999))) (cond (Nat.blt x 82) (cond (Nat.beq x 78) (1034) 9999) (cond (Nat.blt x 93) (cond (Nat.beq x 82) (1040) 9999) (cond (Nat.beq x 93) (1052) 9999))))) (cond (Nat.blt x 128) (cond (Nat.blt x 111) (cond (Nat.blt x 99) (cond (Nat.beq x 96) (1103) 9999) (cond (Nat.blt x 108) (cond (Nat.beq x 99) (1108) 9999) (cond (Nat.beq x 108) (1122) 9999))) (cond (Nat.blt x 115) (cond (Nat.beq x 111) (1143) 9999) (cond (Nat.blt x 118) (cond (Nat.beq x 115) (1210) 9999) (cond (Nat.beq x 118) (1214) 9999)))) (cond (Nat.blt x 140) (cond (Nat.blt x 134) (cond (Nat.beq x 128) (1232) 9999) (cond (Nat.blt x 137) (cond (Nat.beq x 134) (1241) 9999) (cond (Nat.beq x 137) (1278) 9999))) (cond (Nat.blt x 146) (cond (Nat.beq x 140) (1342) 9999) (cond (Nat.blt x 153) (cond (Nat.beq x 146) (1346) 9999) (cond (Nat.beq x 153) (1374) 9999)))))) (cond (Nat.blt x 221) (cond (Nat.blt x 182) (cond (Nat.blt x 166) (cond (Nat.blt x 159) (cond (Nat.beq x 156) (1378) 9999) (cond (Nat.beq x 159) (1386) 9999)) (cond (Nat.blt x 173) (cond (Nat.beq x 166) (1390) 9999) (cond (Nat.blt x 179) (cond (Nat.beq x 173) (1404) 9999) (cond (Nat.beq x 179) (1414) 9999)))) (cond (Nat.blt x 191) (cond (Nat.blt x 185) (cond (Nat.beq x 182) (1419) 9999) (cond (Nat.blt x 188) (cond (Nat.beq x 185) (1422) 9999) (cond (Nat.beq x 188) (1511) 9999))) (cond (Nat.blt x 194) (cond (Nat.beq x 191) (1507) 9999) (cond (Nat.blt x 200) (cond (Nat.beq x 194) (1520) 9999) (cond (Nat.beq x 200) (1516) 9999))))) (cond (Nat.blt x 243) (cond (Nat.blt x 230) (cond (Nat.blt x 224) (cond (Nat.beq x 221) (1528) 9999) (cond (Nat.blt x 227) (cond (Nat.beq x 224) (1536) 9999) (cond (Nat.beq x 227) (1545) 9999))) (cond (Nat.blt x 236) (cond (Nat.beq x 230) (1549) 9999) (cond (Nat.blt x 239) (cond (Nat.beq x 236) (1541) 9999) (cond (Nat.beq x 239) (1561) 9999)))) (cond (Nat.blt x 252) (cond (Nat.blt x 246) (cond (Nat.beq x 243) (1577) 9999) (cond (Nat.blt x 249) (cond (Nat.beq x 246) (1590) 9999) (cond (Nat.beq x 249) (1586) 9999))) (cond (Nat.blt x 256) (cond (Nat.beq x 252) (1599) 9999) (cond (Nat.blt x 264) (cond (Nat.beq x 256) (1595) 9999) (cond (Nat.beq x 264) (1640) 9999))))))) 9999) (cond (Nat.beq cl 40) (cond (Nat.blt x 120) (cond (Nat.blt x 77) (cond (Nat.blt x 47) (cond (Nat.blt x 30) (cond (Nat.blt x 23) (cond (Nat.blt x 19) (cond (Nat.beq x 7) (736) 9999) (cond (Nat.beq x 19) (762) 9999)) (cond (Nat.blt x 26) (cond (Nat.beq x 23) (783) 9999) (cond (Nat.beq x 26) (794) 9999))) (cond (Nat.blt x 37) (cond (Nat.blt x 34) (cond (Nat.beq x 30) (805) 9999) (cond (Nat.beq x 34) (817) 9999)) (cond (Nat.blt x 41) (cond (Nat.beq x 37) (828) 9999) (cond (Nat.blt x 44) (cond (Nat.beq x 41) (843) 9999) (cond (Nat.beq x 44) (858) 9999))))) (cond (Nat.blt x 62) (cond (Nat.blt x 53) (cond (Nat.blt x 50) (cond (Nat.beq x 47) (865) 9999) (cond (Nat.beq x 50) (874) 9999)) (cond (Nat.blt x 56) (cond (Nat.beq x 53) (886) 9999) (cond (Nat.blt x 59) (cond (Nat.beq x 56) (893) 9999) (cond (Nat.beq x 59) (901) 9999)))) (cond (Nat.blt x 68) (cond (Nat.blt x 65) (cond (Nat.beq x 62) (908) 9999) (cond (Nat.beq x 65) (912) 9999)) (cond (Nat.blt x 71) (cond (Nat.beq x 68) (916) 9999) (cond (Nat.blt x 74) (cond (Nat.beq x 71) (920) 9999) (cond (Nat.beq x 74) (924) 9999)))))) (cond (Nat.blt x 103) (cond (Nat.blt x 89) (cond (Nat.blt x 83) (cond (Nat.blt x 80) (cond (Nat.beq x 77) (928) 9999) (cond (Nat.beq x 80) (932) 9999)) (cond (Nat.blt x 86) (cond (Nat.beq x 83) (936) 9999) (cond (Nat.beq x 86) (940) 9999))) (cond (Nat.blt x 93) (cond (Nat.blt x 92) (cond (Nat.beq x 89) (77) 9999) (cond (Nat.beq x 92) (943) 9999)) (cond (Nat.blt x 98) (cond (Nat.beq x 93) (730) 9999) (cond (Nat.blt x 99) (cond (Nat.beq x 98) (1030) 9999) (cond (Nat.beq x 99) (1026) 9999))))) (cond (Nat.blt x 113) (cond (Nat.blt x 107) (cond (Nat.blt x 106) (cond (Nat.beq x 103) (759) 9999) (cond (Nat.beq x 106) (1048) 9999)) (cond (Nat.blt x 109) (cond (Nat.beq x 107) (780) 9999) (cond (Nat.blt x 110) (cond (Nat.beq x 109) (1113) 9999) (cond (Nat.beq x 110) (791) 9999)))) (cond (Nat.blt x 116) (cond (Nat.blt x 114) (cond (Nat.beq x 113) (1206) 9999) (cond (Nat.beq x 114) (802) 9999)) (cond (Nat.blt x 117) (cond (Nat.beq x 116) (1228) 9999) (cond (Nat.blt x 119) (cond (Nat.beq x 117) (814) 9999) (cond (Nat.beq x 119) (1236) 9999))))))) (cond (Nat.blt x 150) (cond (Nat.blt x 135) (cond (Nat.blt x 127) (cond (Nat.blt x 124) (cond (Nat.blt x 123) (cond (Nat.beq x 120) (825) 9999) (cond (Nat.beq x 123) (1273) 9999)) (cond (Nat.blt x 126) (cond (Nat.beq x 124) (840) 9999) (cond (Nat.beq x 126) (1338) 9999))) (cond (Nat.blt x 130) (cond (Nat.blt x 129) (cond (Nat.beq x 127) (855) 9999) (cond (Nat.beq x 129) (1366) 9999)) (cond (Nat.blt x 132) (cond (Nat.beq x 130) (862) 9999) (cond (Nat.blt x 133) (cond (Nat.beq x 132) (1370) 9999) (cond (Nat.beq x 133) (871) 9999))))) (cond (Nat.blt x 142) (cond (Nat.blt x 138) (cond (Nat.blt x 136) (cond (Nat.beq x 135) (1382) 9999) (cond (Nat.beq x 136) (883) 9999)) (cond (Nat.blt x 139) (cond (Nat.beq x 138) (1400) 9999) (cond (Nat.blt x 141) (cond (Nat.beq x 139) (890) 9999) (cond (Nat.beq x 141) (1410) 9999)))) (cond (Nat.blt x 145) (cond (Nat.blt x 144) (cond (Nat.beq x 142) (898) 9999) (cond (Nat.beq x 144) (1415) 9999)) (cond (Nat.blt x 147) (cond (Nat.beq x 145) (905) 9999) (cond (Nat.blt x 148) (cond (Nat.beq x 147) (1503) 9999) (cond (Nat.beq x 148) (909) 9999)))))) (cond (Nat.blt x 165) (cond (Nat.blt x 156) (cond (Nat.blt x 153) (cond (Nat.blt x 151) (cond (Nat.beq x 150) (1512) 9999) (cond (Nat.beq x 151) (913) 9999)) (cond (Nat.blt x 154) (cond (Nat.beq x 153) (1524) 9999) (cond (Nat.beq x 154) (917) 9999))) (cond (Nat.blt x 159) (cond (Nat.blt x 157) (cond (Nat.beq x 156) (1532) 9999) (cond (Nat.beq x 157) (921) 9999)) (cond (Nat.blt x 160) (cond (Nat.beq x 159) (1537) 9999) (cond (Nat.blt x 164) (cond (Nat.beq x 160) (327) 9999) (cond (Nat.beq x 164) (1553) 9999))))) (cond (Nat.blt x 173) (cond (Nat.blt x 168) (cond (Nat.blt x 167) (cond (Nat.beq x 165) (925) 9999) (cond (Nat.beq x 167) (1557) 9999)) (cond (Nat.blt x 170) (cond (Nat.beq x 168) (929) 9999) (cond (Nat.blt x 171) (cond (Nat.beq x 170) (1573) 9999) (cond (Nat.beq x 171) (933) 9999)))) (cond (Nat.blt x 176) (cond (Nat.blt x 174) (cond (Nat.beq x 173) (1582) 9999) (cond (Nat.beq x 174) (937) 9999)) (cond (Nat.blt x 177) (cond (Nat.beq x 176) (1591) 9999) (cond (Nat.blt x 181) (cond (Nat.beq x 177) (339) 9999) (cond (Nat.beq x 181) (1635) 9999)))))))) 9999)))) (cond (Nat.blt cl 46) (cond (Nat.blt cl 44) (cond (Nat.beq cl 41) (cond (Nat.beq x 105) (1221) 9999) 9999) (cond (Nat.blt cl 45) (cond (Nat.beq cl 44) (cond (Nat.beq x 1) (961) 9999) 9999) (cond (Nat.beq cl 45) (cond (Nat.beq x 1) (964) 9999) 9999))) (cond (Nat.blt cl 47) (cond (Nat.beq cl 46) (cond (Nat.blt x 300) (cond (Nat.blt x 150) (cond (Nat.beq x 86) (1170) 9999) (cond (Nat.beq x 150) (1201) 9999)) (cond (Nat.blt x 304) (cond (Nat.beq x 300) (1194) 9999) (cond (Nat.beq x 304) (1200) 9999))) 9999) (cond (Nat.blt cl 49) (cond (Nat.beq cl 47) (cond (Nat.beq x 1) (1361) 9999) 9999) (cond (Nat.beq cl 49) (cond (Nat.blt x 201) (cond (Nat.beq x 194) (1162) 9999) (cond (Nat.beq x 201) (1164) 9999)) 9999)))))
def ex_kw (cl x : Nat) : Nat := cond (Nat.blt cl 12) (cond (Nat.blt cl 7) (cond (Nat.blt cl 2) (cond (Nat.beq cl 0) (cond (Nat.beq x 1) (1353) 9999) 9999) (cond (Nat.blt cl 3) (cond (Nat.beq cl 2) (cond (Nat.blt x 267) (cond (Nat.beq x 7) (1205) 9999) (cond (Nat.beq x 267) (1060) 9999)) 9999) (cond (Nat.beq cl 3) (cond (Nat.beq x 9) (171) 9999) 9999))) (cond (Nat.blt cl 10) (cond (Nat.blt cl 9) (cond (Nat.beq cl 7) (cond (Nat.blt x 22) (cond (Nat.beq x 9) (89) 9999) (cond (Nat.beq x 22) (547) 9999)) 9999) (cond (Nat.beq cl 9) (cond (Nat.blt x 23) (cond (Nat.blt x 17) (cond (Nat.beq x 9) (131) 9999) (cond (Nat.beq x 17) (133) 9999)) (cond (Nat.blt x 32) (cond (Nat.beq x 23) (135) 9999) (cond (Nat.beq x 32) (435) 9999))) 9999)) (cond (Nat.blt cl 11) (cond (Nat.beq cl 10) (cond (Nat.beq x 9) (216) 9999) 9999) (cond (Nat.beq cl 11) (cond (Nat.blt x 26) (cond (Nat.blt x 16) (cond (Nat.beq x 7) (83) 9999) (cond (Nat.beq x 16) (125) 9999)) (cond (Nat.blt x 324) (cond (Nat.beq x 26) (301) 9999) (cond (Nat.blt x 331) (cond (Nat.beq x 324) (355) 9999) (cond (Nat.beq x 331) (743) 9999)))) 9999)))) (cond (Nat.blt cl 15) (cond (Nat.blt cl 13) (cond (Nat.beq cl 12) (cond (Nat.blt x 11) (cond (Nat.beq x 7) (1245) 9999) (cond (Nat.beq x 11) (1610) 9999)) 9999) (cond (Nat.blt cl 14) (cond (Nat.beq cl 13) (cond (Nat.blt x 34) (cond (Nat.beq x 9) (1126) 9999) (cond (Nat.beq x 34) (1502) 9999)) 9999) (cond (Nat.beq cl 14) (cond (Nat.blt x 73) (cond (Nat.blt x 25) (cond (Nat.beq x 10) (1603) 9999) (cond (Nat.blt x 63) (cond (Nat.beq x 25) (953) 9999) (cond (Nat.beq x 63) (1439) 9999))) (cond (Nat.blt x 139) (cond (Nat.beq x 73) (1399) 9999) (cond (Nat.blt x 183) (cond (Nat.beq x 139) (1449) 9999) (cond (Nat.beq x 183) (1495) 9999)))) 9999))) (cond (Nat.blt cl 40) (cond (Nat.blt cl 16) (cond (Nat.beq cl 15) (cond (Nat.blt x 25) (cond (Nat.beq x 10) (1631) 9999) (cond (Nat.beq x 25) (1282) 9999)) 9999) (cond (Nat.beq cl 16) (cond (Nat.blt x 69) (cond (Nat.blt x 64) (cond (Nat.beq x 19) (947) 9999) (cond (Nat.beq x 64) (1112) 9999)) (cond (Nat.blt x 75) (cond (Nat.beq x 69) (1102) 9999) (cond (Nat.beq x 75) (1107) 9999))) 9999)) (cond (Nat.blt cl 46) (cond (Nat.beq cl 40) (cond (Nat.blt x 15) (cond (Nat.blt x 13) (cond (Nat.beq x 8) (75) 9999) (cond (Nat.beq x 13) (733) 9999)) (cond (Nat.blt x 17) (cond (Nat.beq x 15) (734) 9999) (cond (Nat.blt x 90) (cond (Nat.beq x 17) (735) 9999) (cond (Nat.beq x 90) (941) 9999)))) 9999) (cond (Nat.beq cl 46) (cond (Nat.blt x 110) (cond (Nat.beq x 2) (1199) 9999) (cond (Nat.beq x 110) (1197) 9999)) 9999))))
def ex_cw (cl x : Nat) : Nat := cond (Nat.blt cl 16) (cond (Nat.beq cl 11) (cond (Nat.blt x 280) (cond (Nat.beq x 278) (343) 9999) (cond (Nat.beq x 280) (344) 9999)) 9999) (cond (Nat.beq cl 16) (cond (Nat.blt x 262) (cond (Nat.beq x 260) (1643) 9999) (cond (Nat.beq x 262) (1639) 9999)) 9999)
def ex_ly (cl x : Nat) : Nat := cond (Nat.blt cl 8) (cond (Nat.blt cl 4) (cond (Nat.blt cl 2) (cond (Nat.blt cl 1) (cond (Nat.beq cl 0) (cond (Nat.beq x 0) (1363) 9999) 9999) (cond (Nat.beq cl 1) (cond (Nat.blt x 2) (cond (Nat.blt x 1) (cond (Nat.beq x 0) (1070) 9999) (cond (Nat.beq x 1) (1072) 9999)) (cond (Nat.blt x 3) (cond (Nat.beq x 2) (1074) 9999) (cond (Nat.beq x 3) (1076) 9999))) 9999)) (cond (Nat.blt cl 3) (cond (Nat.beq cl 2) (cond (Nat.blt x 1) (cond (Nat.beq x 0) (979) 9999) (cond (Nat.blt x 2) (cond (Nat.beq x 1) (975) 9999) (cond (Nat.beq x 2) (977) 9999))) 9999) (cond (Nat.beq cl 3) (cond (Nat.blt x 2) (cond (Nat.blt x 1) (cond (Nat.beq x 0) (200) 9999) (cond (Nat.beq x 1) (202) 9999)) (cond (Nat.blt x 3) (cond (Nat.beq x 2) (204) 9999) (cond (Nat.blt x 4) (cond (Nat.beq x 3) (206) 9999) (cond (Nat.beq x 4) (208) 9999)))) 9999))) (cond (Nat.blt cl 6) (cond (Nat.blt cl 5) (cond (Nat.beq cl 4) (cond (Nat.blt x 2) (cond (Nat.blt x 1) (cond (Nat.beq x 0) (155) 9999) (cond (Nat.beq x 1) (157) 9999)) (cond (Nat.blt x 3) (cond (Nat.beq x 2) (159) 9999) (cond (Nat.blt x 4) (cond (Nat.beq x 3) (161) 9999) (cond (Nat.beq x 4) (163) 9999)))) 9999) (cond (Nat.beq cl 5) (cond (Nat.blt x 1) (cond (Nat.beq x 0) (309) 9999) (cond (Nat.beq x 1) (311) 9999)) 9999)) (cond (Nat.blt cl 7) (cond (Nat.beq cl 6) (cond (Nat.blt x 2) (cond (Nat.blt x 1) (cond (Nat.beq x 0) (104) 9999) (cond (Nat.beq x 1) (106) 9999)) (cond (Nat.blt x 3) (cond (Nat.beq x 2) (108) 9999) (cond (Nat.blt x 4) (cond (Nat.beq x 3) (110) 9999) (cond (Nat.beq x 4) (112) 9999)))) 9999) (cond (Nat.beq cl 7) (cond (Nat.blt x 1) (cond (Nat.beq x 0) (120) 9999) (cond (Nat.beq x 1) (122) 9999)) 9999)))) (cond (Nat.blt cl 12) (cond (Nat.blt cl 10) (cond (Nat.blt cl 9) (cond (Nat.beq cl 8) (cond (Nat.blt x 1) (cond (Nat.beq x 0) (181) 9999) (cond (Nat.beq x 1) (183) 9999)) 9999) (cond (Nat.beq cl 9) (cond (Nat.blt x 3) (cond (Nat.blt x 1) (cond (Nat.beq x 0) (286) 9999) (cond (Nat.blt x 2) (cond (Nat.beq x 1) (288) 9999) (cond (Nat.beq x 2) (290) 9999))) (cond (Nat.blt x 5) (cond (Nat.blt x 4) (cond (Nat.beq x 3) (292) 9999) (cond (Nat.beq x 4) (294) 9999)) (cond (Nat.blt x 6) (cond (Nat.beq x 5) (296) 9999) (cond (Nat.beq x 6) (298) 9999)))) 9999)) (cond (Nat.blt cl 11) (cond (Nat.beq cl 10) (cond (Nat.blt x 6) (cond (Nat.blt x 3) (cond (Nat.blt x 1) (cond (Nat.beq x 0) (250) 9999) (cond (Nat.blt x 2) (cond (Nat.beq x 1) (252) 9999) (cond (Nat.beq x 2) (254) 9999))) (cond (Nat.blt x 4) (cond (Nat.beq x 3) (256) 9999) (cond (Nat.blt x 5) (cond (Nat.beq x 4) (258) 9999) (cond (Nat.beq x 5) (260) 9999)))) (cond (Nat.blt x 9) (cond (Nat.blt x 7) (cond (Nat.beq x 6) (262) 9999) (cond (Nat.blt x 8) (cond (Nat.beq x 7) (264) 9999) (cond (Nat.beq x 8) (266) 9999))) (cond (Nat.blt x 10) (cond (Nat.beq x 9) (268) 9999) (cond (Nat.blt x 11) (cond (Nat.beq x 10) (270) 9999) (cond (Nat.beq x 11) (272) 9999))))) 9999) (cond (Nat.beq cl 11) (cond (Nat.blt x 2) (cond (Nat.blt x 1) (cond (Nat.beq x 0) (318) 9999) (cond (Nat.beq x 1) (320) 9999)) (cond (Nat.blt x 3) (cond (Nat.beq x 2) (322) 9999) (cond (Nat.beq x 3) (324) 9999))) 9999))) (cond (Nat.blt cl 14) (cond (Nat.blt cl 13) (cond (Nat.beq cl 12) (cond (Nat.blt x 3) (cond (Nat.blt x 1) (cond (Nat.beq x 0) (1260) 9999) (cond (Nat.blt x 2) (cond (Nat.beq x 1) (1262) 9999) (cond (Nat.beq x 2) (1264) 9999))) (cond (Nat.blt x 4) (cond (Nat.beq x 3) (1266) 9999) (cond (Nat.blt x 5) (cond (Nat.beq x 4) (1268) 9999) (cond (Nat.beq x 5) (1270) 9999)))) 9999) (cond (Nat.beq cl 13) (cond (Nat.blt x 1) (cond (Nat.beq x 0) (1136) 9999) (cond (Nat.blt x 2) (cond (Nat.beq x 1) (1138) 9999) (cond (Nat.beq x 2) (1140) 9999))) 9999)) (cond (Nat.blt cl 15) (cond (Nat.beq cl 14) (cond (Nat.blt x 4) (cond (Nat.blt x 2) (cond (Nat.blt x 1) (cond (Nat.beq x 0) (1000) 9999) (cond (Nat.beq x 1) (1002) 9999)) (cond (Nat.blt x 3) (cond (Nat.beq x 2) (1004) 9999) (cond (Nat.beq x 3) (1006) 9999))) (cond (Nat.blt x 6) (cond (Nat.blt x 5) (cond (Nat.beq x 4) (1008) 9999) (cond (Nat.beq x 5) (1010) 9999)) (cond (Nat.blt x 7) (cond (Nat.beq x 6) (1012) 9999) (cond (Nat.blt x 8) (cond (Nat.beq x 7) (1014) 9999) (cond (Nat.beq x 8) (1016) 9999))))) 9999) (cond (Nat.blt cl 16) (cond (Nat.beq cl 15) (cond (Nat.blt x 5) (cond (Nat.blt x 2) (cond (Nat.blt x 1) (cond (Nat.beq x 0) (1315) 9999) (cond (Nat.beq x 1) (1317) 9999)) (cond (Nat.blt x 3) (cond (Nat.beq x 2) (1319) 9999) (cond (Nat.blt x 4) (cond (Nat.beq x 3) (1321) 9999) (cond (Nat.beq x 4) (1323) 9999)))) (cond (Nat.blt x 8) (cond (Nat.blt x 6) (cond (Nat.beq x 5) (1325) 9999) (cond (Nat.blt x 7) (cond (Nat.beq x 6) (1327) 9999) (cond (Nat.beq x 7) (1329) 9999))) (cond (Nat.blt x 9) (cond (Nat.beq x 8) (1331) 9999) (cond (Nat.blt x 10) (cond (Nat.beq x 9) (1333) 9999) (cond (Nat.beq x 10) (1335) 9999))))) 9999) (cond (Nat.beq cl 16) (cond (Nat.blt x 1) (cond (Nat.beq x 0) (1021) 9999) (cond (Nat.beq x 1) (1023) 9999)) 9999)))))
def ex_in (y : Nat) : Nat := cond (Nat.blt y 8) (cond (Nat.blt y 4) (cond (Nat.blt y 2) (cond (Nat.blt y 1) (cond (Nat.beq y 0) (1354) 9999) (cond (Nat.beq y 1) (1061) 9999)) (cond (Nat.blt y 3) (cond (Nat.beq y 2) (954) 9999) (cond (Nat.beq y 3) (166) 9999))) (cond (Nat.blt y 6) (cond (Nat.blt y 5) (cond (Nat.beq y 4) (137) 9999) (cond (Nat.beq y 5) (302) 9999)) (cond (Nat.blt y 7) (cond (Nat.beq y 6) (91) 9999) (cond (Nat.beq y 7) (84) 9999)))) (cond (Nat.blt y 12) (cond (Nat.blt y 10) (cond (Nat.blt y 9) (cond (Nat.beq y 8) (172) 9999) (cond (Nat.beq y 9) (126) 9999)) (cond (Nat.blt y 11) (cond (Nat.beq y 10) (211) 9999) (cond (Nat.beq y 11) (76) 9999))) (cond (Nat.blt y 14) (cond (Nat.blt y 13) (cond (Nat.beq y 12) (1240) 9999) (cond (Nat.beq y 13) (1121) 9999)) (cond (Nat.blt y 15) (cond (Nat.beq y 14) (948) 9999) (cond (Nat.blt y 16) (cond (Nat.beq y 15) (1277) 9999) (cond (Nat.beq y 16) (942) 9999)))))
def ex_zd (y : Nat) : Nat := cond (Nat.blt y 13) (cond (Nat.blt y 6) (cond (Nat.blt y 3) (cond (Nat.blt y 1) (cond (Nat.beq y 0) (73) 9999) (cond (Nat.blt y 2) (cond (Nat.beq y 1) (62) 9999) (cond (Nat.beq y 2) (55) 9999))) (cond (Nat.blt y 4) (cond (Nat.beq y 3) (47) 9999) (cond (Nat.blt y 5) (cond (Nat.beq y 4) (46) 9999) (cond (Nat.beq y 5) (50) 9999)))) (cond (Nat.blt y 9) (cond (Nat.blt y 7) (cond (Nat.beq y 6) (44) 9999) (cond (Nat.blt y 8) (cond (Nat.beq y 7) (43) 9999) (cond (Nat.beq y 8) (48) 9999))) (cond (Nat.blt y 11) (cond (Nat.blt y 10) (cond (Nat.beq y 9) (45) 9999) (cond (Nat.beq y 10) (49) 9999)) (cond (Nat.blt y 12) (cond (Nat.beq y 11) (42) 9999) (cond (Nat.beq y 12) (70) 9999))))) (cond (Nat.blt y 43) (cond (Nat.blt y 16) (cond (Nat.blt y 14) (cond (Nat.beq y 13) (63) 9999) (cond (Nat.blt y 15) (cond (Nat.beq y 14) (52) 9999) (cond (Nat.beq y 15) (71) 9999))) (cond (Nat.blt y 41) (cond (Nat.blt y 40) (cond (Nat.beq y 16) (51) 9999) (cond (Nat.beq y 40) (41) 9999)) (cond (Nat.blt y 42) (cond (Nat.beq y 41) (68) 9999) (cond (Nat.beq y 42) (69) 9999)))) (cond (Nat.blt y 46) (cond (Nat.blt y 44) (cond (Nat.beq y 43) (65) 9999) (cond (Nat.blt y 45) (cond (Nat.beq y 44) (54) 9999) (cond (Nat.beq y 45) (53) 9999))) (cond (Nat.blt y 48) (cond (Nat.blt y 47) (cond (Nat.beq y 46) (66) 9999) (cond (Nat.beq y 47) (72) 9999)) (cond (Nat.blt y 49) (cond (Nat.beq y 48) (67) 9999) (cond (Nat.beq y 49) (64) 9999)))))
def ex_co (y : Nat) : Nat := cond (Nat.blt y 117) (cond (Nat.blt y 58) (cond (Nat.blt y 29) (cond (Nat.blt y 14) (cond (Nat.blt y 7) (cond (Nat.blt y 3) (cond (Nat.blt y 1) (cond (Nat.beq y 0) (169) 9999) (cond (Nat.blt y 2) (cond (Nat.beq y 1) (668) 9999) (cond (Nat.beq y 2) (608) 9999))) (cond (Nat.blt y 5) (cond (Nat.blt y 4) (cond (Nat.beq y 3) (140) 9999) (cond (Nat.beq y 4) (479) 9999)) (cond (Nat.blt y 6) (cond (Nat.beq y 5) (534) 9999) (cond (Nat.beq y 6) (664) 9999)))) (cond (Nat.blt y 10) (cond (Nat.blt y 8) (cond (Nat.beq y 7) (779) 9999) (cond (Nat.blt y 9) (cond (Nat.beq y 8) (631) 9999) (cond (Nat.beq y 9) (635) 9999))) (cond (Nat.blt y 12) (cond (Nat.blt y 11) (cond (Nat.beq y 10) (642) 9999) (cond (Nat.beq y 11) (647) 9999)) (cond (Nat.blt y 13) (cond (Nat.beq y 12) (603) 9999) (cond (Nat.beq y 13) (305) 9999))))) (cond (Nat.blt y 21) (cond (Nat.blt y 17) (cond (Nat.blt y 15) (cond (Nat.beq y 14) (538) 9999) (cond (Nat.blt y 16) (cond (Nat.beq y 15) (553) 9999) (cond (Nat.beq y 16) (557) 9999))) (cond (Nat.blt y 19) (cond (Nat.blt y 18) (cond (Nat.beq y 17) (561) 9999) (cond (Nat.beq y 18) (568) 9999)) (cond (Nat.blt y 20) (cond (Nat.beq y 19) (94) 9999) (cond (Nat.beq y 20) (801) 9999)))) (cond (Nat.blt y 25) (cond (Nat.blt y 23) (cond (Nat.blt y 22) (cond (Nat.beq y 21) (708) 9999) (cond (Nat.beq y 22) (813) 9999)) (cond (Nat.blt y 24) (cond (Nat.beq y 23) (712) 9999) (cond (Nat.beq y 24) (704) 9999))) (cond (Nat.blt y 27) (cond (Nat.blt y 26) (cond (Nat.beq y 25) (87) 9999) (cond (Nat.beq y 26) (546) 9999)) (cond (Nat.blt y 28) (cond (Nat.beq y 27) (790) 9999) (cond (Nat.beq y 28) (774) 9999)))))) (cond (Nat.blt y 43) (cond (Nat.blt y 36) (cond (Nat.blt y 32) (cond (Nat.blt y 30) (cond (Nat.beq y 29) (175) 9999) (cond (Nat.blt y 31) (cond (Nat.beq y 30) (850) 9999) (cond (Nat.beq y 31) (854) 9999))) (cond (Nat.blt y 34) (cond (Nat.blt y 33) (cond (Nat.beq y 32) (655) 9999) (cond (Nat.beq y 33) (672) 9999)) (cond (Nat.blt y 35) (cond (Nat.beq y 34) (660) 9999) (cond (Nat.beq y 35) (612) 9999)))) (cond (Nat.blt y 39) (cond (Nat.blt y 37) (cond (Nat.beq y 36) (129) 9999) (cond (Nat.blt y 38) (cond (Nat.beq y 37) (474) 9999) (cond (Nat.beq y 38) (491) 9999))) (cond (Nat.blt y 41) (cond (Nat.blt y 40) (cond (Nat.beq y 39) (434) 9999) (cond (Nat.beq y 40) (824) 9999)) (cond (Nat.blt y 42) (cond (Nat.beq y 41) (835) 9999) (cond (Nat.beq y 42) (622) 9999))))) (cond (Nat.blt y 50) (cond (Nat.blt y 46) (cond (Nat.blt y 44) (cond (Nat.beq y 43) (626) 9999) (cond (Nat.blt y 45) (cond (Nat.beq y 44) (651) 9999) (cond (Nat.beq y 45) (677) 9999))) (cond (Nat.blt y 48) (cond (Nat.blt y 47) (cond (Nat.beq y 46) (681) 9999) (cond (Nat.beq y 47) (688) 9999)) (cond (Nat.blt y 49) (cond (Nat.beq y 48) (769) 9999) (cond (Nat.beq y 49) (483) 9999)))) (cond (Nat.blt y 54) (cond (Nat.blt y 52) (cond (Nat.blt y 51) (cond (Nat.beq y 50) (496) 9999) (cond (Nat.beq y 51) (504) 9999)) (cond (Nat.blt y 53) (cond (Nat.beq y 52) (430) 9999) (cond (Nat.beq y 53) (454) 9999))) (cond (Nat.blt y 56) (cond (Nat.blt y 55) (cond (Nat.beq y 54) (462) 9999) (cond (Nat.beq y 55) (466) 9999)) (cond (Nat.blt y 57) (cond (Nat.beq y 56) (338) 9999) (cond (Nat.beq y 57) (426) 9999))))))) (cond (Nat.blt y 87) (cond (Nat.blt y 72) (cond (Nat.blt y 65) (cond (Nat.blt y 61) (cond (Nat.blt y 59) (cond (Nat.beq y 58) (334) 9999) (cond (Nat.blt y 60) (cond (Nat.beq y 59) (598) 9999) (cond (Nat.beq y 60) (214) 9999))) (cond (Nat.blt y 63) (cond (Nat.blt y 62) (cond (Nat.beq y 61) (839) 9999) (cond (Nat.beq y 62) (530) 9999)) (cond (Nat.blt y 64) (cond (Nat.beq y 63) (500) 9999) (cond (Nat.beq y 64) (720) 9999)))) (cond (Nat.blt y 68) (cond (Nat.blt y 66) (cond (Nat.beq y 65) (697) 9999) (cond (Nat.blt y 67) (cond (Nat.beq y 66) (692) 9999) (cond (Nat.beq y 67) (716) 9999))) (cond (Nat.blt y 70) (cond (Nat.blt y 69) (cond (Nat.beq y 68) (724) 9999) (cond (Nat.beq y 69) (579) 9999)) (cond (Nat.blt y 71) (cond (Nat.beq y 70) (458) 9999) (cond (Nat.beq y 71) (616) 9999))))) (cond (Nat.blt y 79) (cond (Nat.blt y 75) (cond (Nat.blt y 73) (cond (Nat.beq y 72) (79) 9999) (cond (Nat.blt y 74) (cond (Nat.beq y 73) (739) 9999) (cond (Nat.beq y 74) (765) 9999))) (cond (Nat.blt y 77) (cond (Nat.blt y 76) (cond (Nat.beq y 75) (786) 9999) (cond (Nat.beq y 76) (797) 9999)) (cond (Nat.blt y 78) (cond (Nat.beq y 77) (808) 9999) (cond (Nat.beq y 78) (820) 9999)))) (cond (Nat.blt y 83) (cond (Nat.blt y 81) (cond (Nat.blt y 80) (cond (Nat.beq y 79) (831) 9999) (cond (Nat.beq y 80) (846) 9999)) (cond (Nat.blt y 82) (cond (Nat.beq y 81) (861) 9999) (cond (Nat.beq y 82) (868) 9999))) (cond (Nat.blt y 85) (cond (Nat.blt y 84) (cond (Nat.beq y 83) (877) 9999) (cond (Nat.beq y 84) (889) 9999)) (cond (Nat.blt y 86) (cond (Nat.beq y 85) (896) 9999) (cond (Nat.beq y 86) (904) 9999)))))) (cond (Nat.blt y 102) (cond (Nat.blt y 94) (cond (Nat.blt y 90) (cond (Nat.blt y 88) (cond (Nat.beq y 87) (470) 9999) (cond (Nat.blt y 89) (cond (Nat.beq y 88) (487) 9999) (cond (Nat.beq y 89) (575) 9999))) (cond (Nat.blt y 92) (cond (Nat.blt y 91) (cond (Nat.beq y 90) (728) 9999) (cond (Nat.beq y 91) (348) 9999)) (cond (Nat.blt y 93) (cond (Nat.beq y 92) (330) 9999) (cond (Nat.beq y 93) (583) 9999)))) (cond (Nat.blt y 98) (cond (Nat.blt y 96) (cond (Nat.blt y 95) (cond (Nat.beq y 94) (587) 9999) (cond (Nat.beq y 95) (508) 9999)) (cond (Nat.blt y 97) (cond (Nat.beq y 96) (591) 9999) (cond (Nat.beq y 97) (342) 9999))) (cond (Nat.blt y 100) (cond (Nat.blt y 99) (cond (Nat.beq y 98) (542) 9999) (cond (Nat.beq y 99) (520) 9999)) (cond (Nat.blt y 101) (cond (Nat.beq y 100) (523) 9999) (cond (Nat.beq y 101) (526) 9999))))) (cond (Nat.blt y 109) (cond (Nat.blt y 105) (cond (Nat.blt y 103) (cond (Nat.beq y 102) (880) 9999) (cond (Nat.blt y 104) (cond (Nat.beq y 103) (594) 9999) (cond (Nat.beq y 104) (351) 9999))) (cond (Nat.blt y 107) (cond (Nat.blt y 106) (cond (Nat.beq y 105) (354) 9999) (cond (Nat.beq y 106) (742) 9999)) (cond (Nat.blt y 108) (cond (Nat.beq y 107) (564) 9999) (cond (Nat.beq y 108) (512) 9999)))) (cond (Nat.blt y 113) (cond (Nat.blt y 111) (cond (Nat.blt y 110) (cond (Nat.beq y 109) (1243) 9999) (cond (Nat.beq y 110) (1609) 9999)) (cond (Nat.blt y 112) (cond (Nat.beq y 111) (1124) 9999) (cond (Nat.beq y 112) (1499) 9999))) (cond (Nat.blt y 115) (cond (Nat.blt y 114) (cond (Nat.beq y 113) (951) 9999) (cond (Nat.beq y 114) (1602) 9999)) (cond (Nat.blt y 116) (cond (Nat.beq y 115) (1488) 9999) (cond (Nat.beq y 116) (1457) 9999)))))))) (cond (Nat.blt y 176) (cond (Nat.blt y 146) (cond (Nat.blt y 131) (cond (Nat.blt y 124) (cond (Nat.blt y 120) (cond (Nat.blt y 118) (cond (Nat.beq y 117) (1425) 9999) (cond (Nat.blt y 119) (cond (Nat.beq y 118) (1429) 9999) (cond (Nat.beq y 119) (1437) 9999))) (cond (Nat.blt y 122) (cond (Nat.blt y 121) (cond (Nat.beq y 120) (1443) 9999) (cond (Nat.beq y 121) (1484) 9999)) (cond (Nat.blt y 123) (cond (Nat.beq y 122) (1476) 9999) (cond (Nat.beq y 123) (1480) 9999)))) (cond (Nat.blt y 127) (cond (Nat.blt y 125) (cond (Nat.beq y 124) (1493) 9999) (cond (Nat.blt y 126) (cond (Nat.beq y 125) (1572) 9999) (cond (Nat.beq y 126) (1568) 9999))) (cond (Nat.blt y 129) (cond (Nat.blt y 128) (cond (Nat.beq y 127) (1564) 9999) (cond (Nat.beq y 128) (1580) 9999)) (cond (Nat.blt y 130) (cond (Nat.beq y 129) (1393) 9999) (cond (Nat.beq y 130) (1552) 9999))))) (cond (Nat.blt y 138) (cond (Nat.blt y 134) (cond (Nat.blt y 132) (cond (Nat.beq y 131) (1280) 9999) (cond (Nat.blt y 133) (cond (Nat.beq y 132) (1630) 9999) (cond (Nat.beq y 133) (1407) 9999))) (cond (Nat.blt y 136) (cond (Nat.blt y 135) (cond (Nat.beq y 134) (1381) 9999) (cond (Nat.beq y 135) (1548) 9999)) (cond (Nat.blt y 137) (cond (Nat.beq y 136) (1039) 9999) (cond (Nat.beq y 137) (1432) 9999)))) (cond (Nat.blt y 142) (cond (Nat.blt y 140) (cond (Nat.blt y 139) (cond (Nat.beq y 138) (1460) 9999) (cond (Nat.beq y 139) (945) 9999)) (cond (Nat.blt y 141) (cond (Nat.beq y 140) (1029) 9999) (cond (Nat.beq y 141) (1047) 9999))) (cond (Nat.blt y 144) (cond (Nat.blt y 143) (cond (Nat.beq y 142) (1043) 9999) (cond (Nat.beq y 143) (1036) 9999)) (cond (Nat.blt y 145) (cond (Nat.beq y 144) (1213) 9999) (cond (Nat.beq y 145) (1235) 9999)))))) (cond (Nat.blt y 161) (cond (Nat.blt y 153) (cond (Nat.blt y 149) (cond (Nat.blt y 147) (cond (Nat.beq y 146) (1345) 9999) (cond (Nat.blt y 148) (cond (Nat.beq y 147) (1421) 9999) (cond (Nat.beq y 148) (1111) 9999))) (cond (Nat.blt y 151) (cond (Nat.blt y 150) (cond (Nat.beq y 149) (1055) 9999) (cond (Nat.beq y 150) (1106) 9999)) (cond (Nat.blt y 152) (cond (Nat.beq y 151) (1033) 9999) (cond (Nat.beq y 152) (1051) 9999)))) (cond (Nat.blt y 157) (cond (Nat.blt y 155) (cond (Nat.blt y 154) (cond (Nat.beq y 153) (1116) 9999) (cond (Nat.beq y 154) (1209) 9999)) (cond (Nat.blt y 156) (cond (Nat.beq y 155) (1231) 9999) (cond (Nat.beq y 156) (1239) 9999))) (cond (Nat.blt y 159) (cond (Nat.blt y 158) (cond (Nat.beq y 157) (1276) 9999) (cond (Nat.beq y 158) (1341) 9999)) (cond (Nat.blt y 160) (cond (Nat.beq y 159) (1369) 9999) (cond (Nat.beq y 160) (1373) 9999))))) (cond (Nat.blt y 168) (cond (Nat.blt y 164) (cond (Nat.blt y 162) (cond (Nat.beq y 161) (1389) 9999) (cond (Nat.blt y 163) (cond (Nat.beq y 162) (1385) 9999) (cond (Nat.beq y 163) (1403) 9999))) (cond (Nat.blt y 166) (cond (Nat.blt y 165) (cond (Nat.beq y 164) (1413) 9999) (cond (Nat.beq y 165) (1418) 9999)) (cond (Nat.blt y 167) (cond (Nat.beq y 166) (1510) 9999) (cond (Nat.beq y 167) (1506) 9999)))) (cond (Nat.blt y 172) (cond (Nat.blt y 170) (cond (Nat.blt y 169) (cond (Nat.beq y 168) (1523) 9999) (cond (Nat.beq y 169) (1519) 9999)) (cond (Nat.blt y 171) (cond (Nat.beq y 170) (1515) 9999) (cond (Nat.beq y 171) (1531) 9999))) (cond (Nat.blt y 174) (cond (Nat.blt y 173) (cond (Nat.beq y 172) (1527) 9999) (cond (Nat.beq y 173) (1535) 9999)) (cond (Nat.blt y 175) (cond (Nat.beq y 174) (1544) 9999) (cond (Nat.beq y 175) (1540) 9999))))))) (cond (Nat.blt y 209) (cond (Nat.blt y 194) (cond (Nat.blt y 183) (cond (Nat.blt y 179) (cond (Nat.blt y 177) (cond (Nat.beq y 176) (1556) 9999) (cond (Nat.blt y 178) (cond (Nat.beq y 177) (1560) 9999) (cond (Nat.beq y 178) (1576) 9999))) (cond (Nat.blt y 181) (cond (Nat.blt y 180) (cond (Nat.beq y 179) (1589) 9999) (cond (Nat.beq y 180) (1585) 9999)) (cond (Nat.blt y 182) (cond (Nat.beq y 181) (1598) 9999) (cond (Nat.beq y 182) (1594) 9999)))) (cond (Nat.blt y 187) (cond (Nat.blt y 184) (cond (Nat.beq y 183) (1642) 9999) (cond (Nat.blt y 185) (cond (Nat.beq y 184) (1638) 9999) (cond (Nat.beq y 185) (1348) 9999))) (cond (Nat.blt y 192) (cond (Nat.blt y 191) (cond (Nat.beq y 187) (1453) 9999) (cond (Nat.beq y 191) (1360) 9999)) (cond (Nat.blt y 193) (cond (Nat.beq y 192) (963) 9999) (cond (Nat.beq y 193) (960) 9999))))) (cond (Nat.blt y 201) (cond (Nat.blt y 197) (cond (Nat.blt y 195) (cond (Nat.beq y 194) (1064) 9999) (cond (Nat.blt y 196) (cond (Nat.beq y 195) (1088) 9999) (cond (Nat.beq y 196) (1097) 9999))) (cond (Nat.blt y 199) (cond (Nat.blt y 198) (cond (Nat.beq y 197) (1101) 9999) (cond (Nat.beq y 198) (957) 9999)) (cond (Nat.blt y 200) (cond (Nat.beq y 199) (1158) 9999) (cond (Nat.beq y 200) (1154) 9999)))) (cond (Nat.blt y 205) (cond (Nat.blt y 203) (cond (Nat.blt y 202) (cond (Nat.beq y 201) (1120) 9999) (cond (Nat.beq y 202) (1447) 9999)) (cond (Nat.blt y 204) (cond (Nat.beq y 203) (1625) 9999) (cond (Nat.beq y 204) (1227) 9999))) (cond (Nat.blt y 207) (cond (Nat.blt y 206) (cond (Nat.beq y 205) (1217) 9999) (cond (Nat.beq y 206) (1150) 9999)) (cond (Nat.blt y 208) (cond (Nat.beq y 207) (1146) 9999) (cond (Nat.beq y 208) (1466) 9999)))))) (cond (Nat.blt y 228) (cond (Nat.blt y 220) (cond (Nat.blt y 212) (cond (Nat.blt y 210) (cond (Nat.beq y 209) (1470) 9999) (cond (Nat.blt y 211) (cond (Nat.beq y 210) (1377) 9999) (cond (Nat.beq y 211) (1615) 9999))) (cond (Nat.blt y 218) (cond (Nat.blt y 215) (cond (Nat.beq y 212) (1059) 9999) (cond (Nat.beq y 215) (1220) 9999)) (cond (Nat.blt y 219) (cond (Nat.beq y 218) (1223) 9999) (cond (Nat.beq y 219) (732) 9999)))) (cond (Nat.blt y 224) (cond (Nat.blt y 222) (cond (Nat.blt y 221) (cond (Nat.beq y 220) (761) 9999) (cond (Nat.beq y 221) (782) 9999)) (cond (Nat.blt y 223) (cond (Nat.beq y 222) (793) 9999) (cond (Nat.beq y 223) (804) 9999))) (cond (Nat.blt y 226) (cond (Nat.blt y 225) (cond (Nat.beq y 224) (816) 9999) (cond (Nat.beq y 225) (827) 9999)) (cond (Nat.blt y 227) (cond (Nat.beq y 226) (842) 9999) (cond (Nat.beq y 227) (857) 9999))))) (cond (Nat.blt y 235) (cond (Nat.blt y 231) (cond (Nat.blt y 229) (cond (Nat.beq y 228) (864) 9999) (cond (Nat.blt y 230) (cond (Nat.beq y 229) (873) 9999) (cond (Nat.beq y 230) (885) 9999))) (cond (Nat.blt y 233) (cond (Nat.blt y 232) (cond (Nat.beq y 231) (892) 9999) (cond (Nat.beq y 232) (900) 9999)) (cond (Nat.blt y 234) (cond (Nat.beq y 233) (907) 9999) (cond (Nat.beq y 234) (911) 9999)))) (cond (Nat.blt y 239) (cond (Nat.blt y 237) (cond (Nat.blt y 236) (cond (Nat.beq y 235) (915) 9999) (cond (Nat.beq y 236) (919) 9999)) (cond (Nat.blt y 238) (cond (Nat.beq y 237) (923) 9999) (cond (Nat.beq y 238) (927) 9999))) (cond (Nat.blt y 241) (cond (Nat.blt y 240) (cond (Nat.beq y 239) (931) 9999) (cond (Nat.beq y 240) (935) 9999)) (cond (Nat.blt y 242) (cond (Nat.beq y 241) (939) 9999) (cond (Nat.beq y 242) (9999) 9999))))))))
def ex_st (y : Nat) : Nat := cond (Nat.blt y 117) (cond (Nat.blt y 58) (cond (Nat.blt y 29) (cond (Nat.blt y 14) (cond (Nat.blt y 7) (cond (Nat.blt y 3) (cond (Nat.blt y 1) (cond (Nat.beq y 0) (168) 9999) (cond (Nat.blt y 2) (cond (Nat.beq y 1) (666) 9999) (cond (Nat.beq y 2) (606) 9999))) (cond (Nat.blt y 5) (cond (Nat.blt y 4) (cond (Nat.beq y 3) (139) 9999) (cond (Nat.beq y 4) (477) 9999)) (cond (Nat.blt y 6) (cond (Nat.beq y 5) (532) 9999) (cond (Nat.beq y 6) (662) 9999)))) (cond (Nat.blt y 10) (cond (Nat.blt y 8) (cond (Nat.beq y 7) (777) 9999) (cond (Nat.blt y 9) (cond (Nat.beq y 8) (629) 9999) (cond (Nat.beq y 9) (633) 9999))) (cond (Nat.blt y 12) (cond (Nat.blt y 11) (cond (Nat.beq y 10) (640) 9999) (cond (Nat.beq y 11) (645) 9999)) (cond (Nat.blt y 13) (cond (Nat.beq y 12) (601) 9999) (cond (Nat.beq y 13) (304) 9999))))) (cond (Nat.blt y 21) (cond (Nat.blt y 17) (cond (Nat.blt y 15) (cond (Nat.beq y 14) (536) 9999) (cond (Nat.blt y 16) (cond (Nat.beq y 15) (551) 9999) (cond (Nat.beq y 16) (556) 9999))) (cond (Nat.blt y 19) (cond (Nat.blt y 18) (cond (Nat.beq y 17) (560) 9999) (cond (Nat.beq y 18) (567) 9999)) (cond (Nat.blt y 20) (cond (Nat.beq y 19) (93) 9999) (cond (Nat.beq y 20) (799) 9999)))) (cond (Nat.blt y 25) (cond (Nat.blt y 23) (cond (Nat.blt y 22) (cond (Nat.beq y 21) (706) 9999) (cond (Nat.beq y 22) (811) 9999)) (cond (Nat.blt y 24) (cond (Nat.beq y 23) (710) 9999) (cond (Nat.beq y 24) (702) 9999))) (cond (Nat.blt y 27) (cond (Nat.blt y 26) (cond (Nat.beq y 25) (86) 9999) (cond (Nat.beq y 26) (544) 9999)) (cond (Nat.blt y 28) (cond (Nat.beq y 27) (788) 9999) (cond (Nat.beq y 28) (772) 9999)))))) (cond (Nat.blt y 43) (cond (Nat.blt y 36) (cond (Nat.blt y 32) (cond (Nat.blt y 30) (cond (Nat.beq y 29) (174) 9999) (cond (Nat.blt y 31) (cond (Nat.beq y 30) (848) 9999) (cond (Nat.beq y 31) (852) 9999))) (cond (Nat.blt y 34) (cond (Nat.blt y 33) (cond (Nat.beq y 32) (653) 9999) (cond (Nat.beq y 33) (670) 9999)) (cond (Nat.blt y 35) (cond (Nat.beq y 34) (658) 9999) (cond (Nat.beq y 35) (610) 9999)))) (cond (Nat.blt y 39) (cond (Nat.blt y 37) (cond (Nat.beq y 36) (128) 9999) (cond (Nat.blt y 38) (cond (Nat.beq y 37) (472) 9999) (cond (Nat.beq y 38) (489) 9999))) (cond (Nat.blt y 41) (cond (Nat.blt y 40) (cond (Nat.beq y 39) (432) 9999) (cond (Nat.beq y 40) (822) 9999)) (cond (Nat.blt y 42) (cond (Nat.beq y 41) (833) 9999) (cond (Nat.beq y 42) (620) 9999))))) (cond (Nat.blt y 50) (cond (Nat.blt y 46) (cond (Nat.blt y 44) (cond (Nat.beq y 43) (625) 9999) (cond (Nat.blt y 45) (cond (Nat.beq y 44) (650) 9999) (cond (Nat.beq y 45) (676) 9999))) (cond (Nat.blt y 48) (cond (Nat.blt y 47) (cond (Nat.beq y 46) (680) 9999) (cond (Nat.beq y 47) (687) 9999)) (cond (Nat.blt y 49) (cond (Nat.beq y 48) (767) 9999) (cond (Nat.beq y 49) (481) 9999)))) (cond (Nat.blt y 54) (cond (Nat.blt y 52) (cond (Nat.blt y 51) (cond (Nat.beq y 50) (494) 9999) (cond (Nat.beq y 51) (502) 9999)) (cond (Nat.blt y 53) (cond (Nat.beq y 52) (428) 9999) (cond (Nat.beq y 53) (452) 9999))) (cond (Nat.blt y 56) (cond (Nat.blt y 55) (cond (Nat.beq y 54) (460) 9999) (cond (Nat.beq y 55) (464) 9999)) (cond (Nat.blt y 57) (cond (Nat.beq y 56) (336) 9999) (cond (Nat.beq y 57) (424) 9999))))))) (cond (Nat.blt y 87) (cond (Nat.blt y 72) (cond (Nat.blt y 65) (cond (Nat.blt y 61) (cond (Nat.blt y 59) (cond (Nat.beq y 58) (332) 9999) (cond (Nat.blt y 60) (cond (Nat.beq y 59) (596) 9999) (cond (Nat.beq y 60) (213) 9999))) (cond (Nat.blt y 63) (cond (Nat.blt y 62) (cond (Nat.beq y 61) (837) 9999) (cond (Nat.beq y 62) (528) 9999)) (cond (Nat.blt y 64) (cond (Nat.beq y 63) (498) 9999) (cond (Nat.beq y 64) (718) 9999)))) (cond (Nat.blt y 68) (cond (Nat.blt y 66) (cond (Nat.beq y 65) (695) 9999) (cond (Nat.blt y 67) (cond (Nat.beq y 66) (690) 9999) (cond (Nat.beq y 67) (714) 9999))) (cond (Nat.blt y 70) (cond (Nat.blt y 69) (cond (Nat.beq y 68) (722) 9999) (cond (Nat.beq y 69) (577) 9999)) (cond (Nat.blt y 71) (cond (Nat.beq y 70) (456) 9999) (cond (Nat.beq y 71) (614) 9999))))) (cond (Nat.blt y 79) (cond (Nat.blt y 75) (cond (Nat.blt y 73) (cond (Nat.beq y 72) (78) 9999) (cond (Nat.blt y 74) (cond (Nat.beq y 73) (737) 9999) (cond (Nat.beq y 74) (763) 9999))) (cond (Nat.blt y 77) (cond (Nat.blt y 76) (cond (Nat.beq y 75) (784) 9999) (cond (Nat.beq y 76) (795) 9999)) (cond (Nat.blt y 78) (cond (Nat.beq y 77) (806) 9999) (cond (Nat.beq y 78) (818) 9999)))) (cond (Nat.blt y 83) (cond (Nat.blt y 81) (cond (Nat.blt y 80) (cond (Nat.beq y 79) (829) 9999) (cond (Nat.beq y 80) (844) 9999)) (cond (Nat.blt y 82) (cond (Nat.beq y 81) (859) 9999) (cond (Nat.beq y 82) (866) 9999))) (cond (Nat.blt y 85) (cond (Nat.blt y 84) (cond (Nat.beq y 83) (875) 9999) (cond (Nat.beq y 84) (887) 9999)) (cond (Nat.blt y 86) (cond (Nat.beq y 85) (894) 9999) (cond (Nat.beq y 86) (902) 9999)))))) (cond (Nat.blt y 102) (cond (Nat.blt y 94) (cond (Nat.blt y 90) (cond (Nat.blt y 88) (cond (Nat.beq y 87) (468) 9999) (cond (Nat.blt y 89) (cond (Nat.beq y 88) (485) 9999) (cond (Nat.beq y 89) (573) 9999))) (cond (Nat.blt y 92) (cond (Nat.blt y 91) (cond (Nat.beq y 90) (726) 9999) (cond (Nat.beq y 91) (346) 9999)) (cond (Nat.blt y 93) (cond (Nat.beq y 92) (328) 9999) (cond (Nat.beq y 93) (581) 9999)))) (cond (Nat.blt y 98) (cond (Nat.blt y 96) (cond (Nat.blt y 95) (cond (Nat.beq y 94) (585) 9999) (cond (Nat.beq y 95) (506) 9999)) (cond (Nat.blt y 97) (cond (Nat.beq y 96) (589) 9999) (cond (Nat.beq y 97) (340) 9999))) (cond (Nat.blt y 100) (cond (Nat.blt y 99) (cond (Nat.beq y 98) (541) 9999) (cond (Nat.beq y 99) (519) 9999)) (cond (Nat.blt y 101) (cond (Nat.beq y 100) (522) 9999) (cond (Nat.beq y 101) (525) 9999))))) (cond (Nat.blt y 109) (cond (Nat.blt y 105) (cond (Nat.blt y 103) (cond (Nat.beq y 102) (879) 9999) (cond (Nat.blt y 104) (cond (Nat.beq y 103) (593) 9999) (cond (Nat.beq y 104) (350) 9999))) (cond (Nat.blt y 107) (cond (Nat.blt y 106) (cond (Nat.beq y 105) (353) 9999) (cond (Nat.beq y 106) (741) 9999)) (cond (Nat.blt y 108) (cond (Nat.beq y 107) (563) 9999) (cond (Nat.beq y 108) (511) 9999)))) (cond (Nat.blt y 113) (cond (Nat.blt y 111) (cond (Nat.blt y 110) (cond (Nat.beq y 109) (1242) 9999) (cond (Nat.beq y 110) (1607) 9999)) (cond (Nat.blt y 112) (cond (Nat.beq y 111) (1123) 9999) (cond (Nat.beq y 112) (1497) 9999))) (cond (Nat.blt y 115) (cond (Nat.blt y 114) (cond (Nat.beq y 113) (950) 9999) (cond (Nat.beq y 114) (1600) 9999)) (cond (Nat.blt y 116) (cond (Nat.beq y 115) (1486) 9999) (cond (Nat.beq y 116) (1456) 9999)))))))) (cond (Nat.blt y 176) (cond (Nat.blt y 146) (cond (Nat.blt y 131) (cond (Nat.blt y 124) (cond (Nat.blt y 120) (cond (Nat.blt y 118) (cond (Nat.beq y 117) (1423) 9999) (cond (Nat.blt y 119) (cond (Nat.beq y 118) (1428) 9999) (cond (Nat.beq y 119) (1436) 9999))) (cond (Nat.blt y 122) (cond (Nat.blt y 121) (cond (Nat.beq y 120) (1442) 9999) (cond (Nat.beq y 121) (1483) 9999)) (cond (Nat.blt y 123) (cond (Nat.beq y 122) (1475) 9999) (cond (Nat.beq y 123) (1479) 9999)))) (cond (Nat.blt y 127) (cond (Nat.blt y 125) (cond (Nat.beq y 124) (1492) 9999) (cond (Nat.blt y 126) (cond (Nat.beq y 125) (1571) 9999) (cond (Nat.beq y 126) (1567) 9999))) (cond (Nat.blt y 129) (cond (Nat.blt y 128) (cond (Nat.beq y 127) (1562) 9999) (cond (Nat.beq y 128) (1578) 9999)) (cond (Nat.blt y 130) (cond (Nat.beq y 129) (1391) 9999) (cond (Nat.beq y 130) (1550) 9999))))) (cond (Nat.blt y 138) (cond (Nat.blt y 134) (cond (Nat.blt y 132) (cond (Nat.beq y 131) (1279) 9999) (cond (Nat.blt y 133) (cond (Nat.beq y 132) (1628) 9999) (cond (Nat.beq y 133) (1405) 9999))) (cond (Nat.blt y 136) (cond (Nat.blt y 135) (cond (Nat.beq y 134) (1379) 9999) (cond (Nat.beq y 135) (1546) 9999)) (cond (Nat.blt y 137) (cond (Nat.beq y 136) (1038) 9999) (cond (Nat.beq y 137) (1431) 9999)))) (cond (Nat.blt y 142) (cond (Nat.blt y 140) (cond (Nat.blt y 139) (cond (Nat.beq y 138) (1459) 9999) (cond (Nat.beq y 139) (944) 9999)) (cond (Nat.blt y 141) (cond (Nat.beq y 140) (1027) 9999) (cond (Nat.beq y 141) (1046) 9999))) (cond (Nat.blt y 144) (cond (Nat.blt y 143) (cond (Nat.beq y 142) (1042) 9999) (cond (Nat.beq y 143) (1035) 9999)) (cond (Nat.blt y 145) (cond (Nat.beq y 144) (1212) 9999) (cond (Nat.beq y 145) (1234) 9999)))))) (cond (Nat.blt y 161) (cond (Nat.blt y 153) (cond (Nat.blt y 149) (cond (Nat.blt y 147) (cond (Nat.beq y 146) (1344) 9999) (cond (Nat.blt y 148) (cond (Nat.beq y 147) (1420) 9999) (cond (Nat.beq y 148) (1110) 9999))) (cond (Nat.blt y 151) (cond (Nat.blt y 150) (cond (Nat.beq y 149) (1054) 9999) (cond (Nat.beq y 150) (1105) 9999)) (cond (Nat.blt y 152) (cond (Nat.beq y 151) (1031) 9999) (cond (Nat.beq y 152) (1049) 9999)))) (cond (Nat.blt y 157) (cond (Nat.blt y 155) (cond (Nat.blt y 154) (cond (Nat.beq y 153) (1114) 9999) (cond (Nat.beq y 154) (1207) 9999)) (cond (Nat.blt y 156) (cond (Nat.beq y 155) (1229) 9999) (cond (Nat.beq y 156) (1237) 9999))) (cond (Nat.blt y 159) (cond (Nat.blt y 158) (cond (Nat.beq y 157) (1274) 9999) (cond (Nat.beq y 158) (1339) 9999)) (cond (Nat.blt y 160) (cond (Nat.beq y 159) (1367) 9999) (cond (Nat.beq y 160) (1371) 9999))))) (cond (Nat.blt y 168) (cond (Nat.blt y 164) (cond (Nat.blt y 162) (cond (Nat.beq y 161) (1388) 9999) (cond (Nat.blt y 163) (cond (Nat.beq y 162) (1383) 9999) (cond (Nat.beq y 163) (1401) 9999))) (cond (Nat.blt y 166) (cond (Nat.blt y 165) (cond (Nat.beq y 164) (1411) 9999) (cond (Nat.beq y 165) (1416) 9999)) (cond (Nat.blt y 167) (cond (Nat.beq y 166) (1509) 9999) (cond (Nat.beq y 167) (1504) 9999)))) (cond (Nat.blt y 172) (cond (Nat.blt y 170) (cond (Nat.blt y 169) (cond (Nat.beq y 168) (1522) 9999) (cond (Nat.beq y 169) (1518) 9999)) (cond (Nat.blt y 171) (cond (Nat.beq y 170) (1513) 9999) (cond (Nat.beq y 171) (1530) 9999))) (cond (Nat.blt y 174) (cond (Nat.blt y 173) (cond (Nat.beq y 172) (1525) 9999) (cond (Nat.beq y 173) (1533) 9999)) (cond (Nat.blt y 175) (cond (Nat.beq y 174) (1543) 9999) (cond (Nat.beq y 175) (1538) 9999))))))) (cond (Nat.blt y 209) (cond (Nat.blt y 194) (cond (Nat.blt y 183) (cond (Nat.blt y 179) (cond (Nat.blt y 177) (cond (Nat.beq y 176) (1554) 9999) (cond (Nat.blt y 178) (cond (Nat.beq y 177) (1558) 9999) (cond (Nat.beq y 178) (1574) 9999))) (cond (Nat.blt y 181) (cond (Nat.blt y 180) (cond (Nat.beq y 179) (1588) 9999) (cond (Nat.beq y 180) (1583) 9999)) (cond (Nat.blt y 182) (cond (Nat.beq y 181) (1597) 9999) (cond (Nat.beq y 182) (1592) 9999)))) (cond (Nat.blt y 187) (cond (Nat.blt y 184) (cond (Nat.beq y 183) (1641) 9999) (cond (Nat.blt y 185) (cond (Nat.beq y 184) (1636) 9999) (cond (Nat.beq y 185) (1347) 9999))) (cond (Nat.blt y 192) (cond (Nat.blt y 191) (cond (Nat.beq y 187) (1451) 9999) (cond (Nat.beq y 191) (1359) 9999)) (cond (Nat.blt y 193) (cond (Nat.beq y 192) (962) 9999) (cond (Nat.beq y 193) (959) 9999))))) (cond (Nat.blt y 201) (cond (Nat.blt y 197) (cond (Nat.blt y 195) (cond (Nat.beq y 194) (1063) 9999) (cond (Nat.blt y 196) (cond (Nat.beq y 195) (1086) 9999) (cond (Nat.beq y 196) (1095) 9999))) (cond (Nat.blt y 199) (cond (Nat.blt y 198) (cond (Nat.beq y 197) (1099) 9999) (cond (Nat.beq y 198) (956) 9999)) (cond (Nat.blt y 200) (cond (Nat.beq y 199) (1157) 9999) (cond (Nat.beq y 200) (1153) 9999)))) (cond (Nat.blt y 205) (cond (Nat.blt y 203) (cond (Nat.blt y 202) (cond (Nat.beq y 201) (1118) 9999) (cond (Nat.beq y 202) (1445) 9999)) (cond (Nat.blt y 204) (cond (Nat.beq y 203) (1623) 9999) (cond (Nat.beq y 204) (1225) 9999))) (cond (Nat.blt y 207) (cond (Nat.blt y 206) (cond (Nat.beq y 205) (1215) 9999) (cond (Nat.beq y 206) (1149) 9999)) (cond (Nat.blt y 208) (cond (Nat.beq y 207) (1144) 9999) (cond (Nat.beq y 208) (1464) 9999)))))) (cond (Nat.blt y 228) (cond (Nat.blt y 220) (cond (Nat.blt y 212) (cond (Nat.blt y 210) (cond (Nat.beq y 209) (1469) 9999) (cond (Nat.blt y 211) (cond (Nat.beq y 210) (1375) 9999) (cond (Nat.beq y 211) (1613) 9999))) (cond (Nat.blt y 218) (cond (Nat.blt y 215) (cond (Nat.beq y 212) (1057) 9999) (cond (Nat.beq y 215) (1219) 9999)) (cond (Nat.blt y 219) (cond (Nat.beq y 218) (1222) 9999) (cond (Nat.beq y 219) (731) 9999)))) (cond (Nat.blt y 224) (cond (Nat.blt y 222) (cond (Nat.blt y 221) (cond (Nat.beq y 220) (760) 9999) (cond (Nat.beq y 221) (781) 9999)) (cond (Nat.blt y 223) (cond (Nat.beq y 222) (792) 9999) (cond (Nat.beq y 223) (803) 9999))) (cond (Nat.blt y 226) (cond (Nat.blt y 225) (cond (Nat.beq y 224) (815) 9999) (cond (Nat.beq y 225) (826) 9999)) (cond (Nat.blt y 227) (cond (Nat.beq y 226) (841) 9999) (cond (Nat.beq y 227) (856) 9999))))) (cond (Nat.blt y 235) (cond (Nat.blt y 231) (cond (Nat.blt y 229) (cond (Nat.beq y 228) (863) 9999) (cond (Nat.blt y 230) (cond (Nat.beq y 229) (872) 9999) (cond (Nat.beq y 230) (884) 9999))) (cond (Nat.blt y 233) (cond (Nat.blt y 232) (cond (Nat.beq y 231) (891) 9999) (cond (Nat.beq y 232) (899) 9999)) (cond (Nat.blt y 234) (cond (Nat.beq y 233) (906) 9999) (cond (Nat.beq y 234) (910) 9999)))) (cond (Nat.blt y 239) (cond (Nat.blt y 237) (cond (Nat.blt y 236) (cond (Nat.beq y 235) (914) 9999) (cond (Nat.beq y 236) (918) 9999)) (cond (Nat.blt y 238) (cond (Nat.beq y 237) (922) 9999) (cond (Nat.beq y 238) (926) 9999))) (cond (Nat.blt y 241) (cond (Nat.blt y 240) (cond (Nat.beq y 239) (930) 9999) (cond (Nat.beq y 240) (934) 9999)) (cond (Nat.blt y 242) (cond (Nat.beq y 241) (938) 9999) (cond (Nat.beq y 242) (9999) 9999))))))))
def ex_se (y : Nat) : Nat := cond (Nat.blt y 117) (cond (Nat.blt y 58) (cond (Nat.blt y 29) (cond (Nat.blt y 14) (cond (Nat.blt y 7) (cond (Nat.blt y 3) (cond (Nat.blt y 1) (cond (Nat.beq y 0) (9999) 9999) (cond (Nat.blt y 2) (cond (Nat.beq y 1) (667) 9999) (cond (Nat.beq y 2) (607) 9999))) (cond (Nat.blt y 5) (cond (Nat.blt y 4) (cond (Nat.beq y 3) (9999) 9999) (cond (Nat.beq y 4) (478) 9999)) (cond (Nat.blt y 6) (cond (Nat.beq y 5) (533) 9999) (cond (Nat.beq y 6) (663) 9999)))) (cond (Nat.blt y 10) (cond (Nat.blt y 8) (cond (Nat.beq y 7) (778) 9999) (cond (Nat.blt y 9) (cond (Nat.beq y 8) (630) 9999) (cond (Nat.beq y 9) (634) 9999))) (cond (Nat.blt y 12) (cond (Nat.blt y 11) (cond (Nat.beq y 10) (641) 9999) (cond (Nat.beq y 11) (646) 9999)) (cond (Nat.blt y 13) (cond (Nat.beq y 12) (602) 9999) (cond (Nat.beq y 13) (9999) 9999))))) (cond (Nat.blt y 21) (cond (Nat.blt y 17) (cond (Nat.blt y 15) (cond (Nat.beq y 14) (537) 9999) (cond (Nat.blt y 16) (cond (Nat.beq y 15) (552) 9999) (cond (Nat.beq y 16) (3) 9999))) (cond (Nat.blt y 19) (cond (Nat.blt y 18) (cond (Nat.beq y 17) (4) 9999) (cond (Nat.beq y 18) (5) 9999)) (cond (Nat.blt y 20) (cond (Nat.beq y 19) (9999) 9999) (cond (Nat.beq y 20) (800) 9999)))) (cond (Nat.blt y 25) (cond (Nat.blt y 23) (cond (Nat.blt y 22) (cond (Nat.beq y 21) (707) 9999) (cond (Nat.beq y 22) (812) 9999)) (cond (Nat.blt y 24) (cond (Nat.beq y 23) (711) 9999) (cond (Nat.beq y 24) (703) 9999))) (cond (Nat.blt y 27) (cond (Nat.blt y 26) (cond (Nat.beq y 25) (9999) 9999) (cond (Nat.beq y 26) (545) 9999)) (cond (Nat.blt y 28) (cond (Nat.beq y 27) (789) 9999) (cond (Nat.beq y 28) (773) 9999)))))) (cond (Nat.blt y 43) (cond (Nat.blt y 36) (cond (Nat.blt y 32) (cond (Nat.blt y 30) (cond (Nat.beq y 29) (9999) 9999) (cond (Nat.blt y 31) (cond (Nat.beq y 30) (849) 9999) (cond (Nat.beq y 31) (853) 9999))) (cond (Nat.blt y 34) (cond (Nat.blt y 33) (cond (Nat.beq y 32) (654) 9999) (cond (Nat.beq y 33) (671) 9999)) (cond (Nat.blt y 35) (cond (Nat.beq y 34) (659) 9999) (cond (Nat.beq y 35) (611) 9999)))) (cond (Nat.blt y 39) (cond (Nat.blt y 37) (cond (Nat.beq y 36) (9999) 9999) (cond (Nat.blt y 38) (cond (Nat.beq y 37) (473) 9999) (cond (Nat.beq y 38) (490) 9999))) (cond (Nat.blt y 41) (cond (Nat.blt y 40) (cond (Nat.beq y 39) (433) 9999) (cond (Nat.beq y 40) (823) 9999)) (cond (Nat.blt y 42) (cond (Nat.beq y 41) (834) 9999) (cond (Nat.beq y 42) (621) 9999))))) (cond (Nat.blt y 50) (cond (Nat.blt y 46) (cond (Nat.blt y 44) (cond (Nat.beq y 43) (6) 9999) (cond (Nat.blt y 45) (cond (Nat.beq y 44) (7) 9999) (cond (Nat.beq y 45) (8) 9999))) (cond (Nat.blt y 48) (cond (Nat.blt y 47) (cond (Nat.beq y 46) (9) 9999) (cond (Nat.beq y 47) (10) 9999)) (cond (Nat.blt y 49) (cond (Nat.beq y 48) (768) 9999) (cond (Nat.beq y 49) (482) 9999)))) (cond (Nat.blt y 54) (cond (Nat.blt y 52) (cond (Nat.blt y 51) (cond (Nat.beq y 50) (495) 9999) (cond (Nat.beq y 51) (503) 9999)) (cond (Nat.blt y 53) (cond (Nat.beq y 52) (429) 9999) (cond (Nat.beq y 53) (453) 9999))) (cond (Nat.blt y 56) (cond (Nat.blt y 55) (cond (Nat.beq y 54) (461) 9999) (cond (Nat.beq y 55) (465) 9999)) (cond (Nat.blt y 57) (cond (Nat.beq y 56) (337) 9999) (cond (Nat.beq y 57) (425) 9999))))))) (cond (Nat.blt y 87) (cond (Nat.blt y 72) (cond (Nat.blt y 65) (cond (Nat.blt y 61) (cond (Nat.blt y 59) (cond (Nat.beq y 58) (333) 9999) (cond (Nat.blt y 60) (cond (Nat.beq y 59) (597) 9999) (cond (Nat.beq y 60) (9999) 9999))) (cond (Nat.blt y 63) (cond (Nat.blt y 62) (cond (Nat.beq y 61) (838) 9999) (cond (Nat.beq y 62) (529) 9999)) (cond (Nat.blt y 64) (cond (Nat.beq y 63) (499) 9999) (cond (Nat.beq y 64) (719) 9999)))) (cond (Nat.blt y 68) (cond (Nat.blt y 66) (cond (Nat.beq y 65) (696) 9999) (cond (Nat.blt y 67) (cond (Nat.beq y 66) (691) 9999) (cond (Nat.beq y 67) (715) 9999))) (cond (Nat.blt y 70) (cond (Nat.blt y 69) (cond (Nat.beq y 68) (723) 9999) (cond (Nat.beq y 69) (578) 9999)) (cond (Nat.blt y 71) (cond (Nat.beq y 70) (457) 9999) (cond (Nat.beq y 71) (615) 9999))))) (cond (Nat.blt y 79) (cond (Nat.blt y 75) (cond (Nat.blt y 73) (cond (Nat.beq y 72) (9999) 9999) (cond (Nat.blt y 74) (cond (Nat.beq y 73) (738) 9999) (cond (Nat.beq y 74) (764) 9999))) (cond (Nat.blt y 77) (cond (Nat.blt y 76) (cond (Nat.beq y 75) (785) 9999) (cond (Nat.beq y 76) (796) 9999)) (cond (Nat.blt y 78) (cond (Nat.beq y 77) (807) 9999) (cond (Nat.beq y 78) (819) 9999)))) (cond (Nat.blt y 83) (cond (Nat.blt y 81) (cond (Nat.blt y 80) (cond (Nat.beq y 79) (830) 9999) (cond (Nat.beq y 80) (845) 9999)) (cond (Nat.blt y 82) (cond (Nat.beq y 81) (860) 9999) (cond (Nat.beq y 82) (867) 9999))) (cond (Nat.blt y 85) (cond (Nat.blt y 84) (cond (Nat.beq y 83) (876) 9999) (cond (Nat.beq y 84) (888) 9999)) (cond (Nat.blt y 86) (cond (Nat.beq y 85) (895) 9999) (cond (Nat.beq y 86) (903) 9999)))))) (cond (Nat.blt y 102) (cond (Nat.blt y 94) (cond (Nat.blt y 90) (cond (Nat.blt y 88) (cond (Nat.beq y 87) (469) 9999) (cond (Nat.blt y 89) (cond (Nat.beq y 88) (486) 9999) (cond (Nat.beq y 89) (574) 9999))) (cond (Nat.blt y 92) (cond (Nat.blt y 91) (cond (Nat.beq y 90) (727) 9999) (cond (Nat.beq y 91) (347) 9999)) (cond (Nat.blt y 93) (cond (Nat.beq y 92) (329) 9999) (cond (Nat.beq y 93) (582) 9999)))) (cond (Nat.blt y 98) (cond (Nat.blt y 96) (cond (Nat.blt y 95) (cond (Nat.beq y 94) (586) 9999) (cond (Nat.beq y 95) (507) 9999)) (cond (Nat.blt y 97) (cond (Nat.beq y 96) (590) 9999) (cond (Nat.beq y 97) (341) 9999))) (cond (Nat.blt y 100) (cond (Nat.blt y 99) (cond (Nat.beq y 98) (2) 9999) (cond (Nat.beq y 99) (1) 9999)) (cond (Nat.blt y 101) (cond (Nat.beq y 100) (9999) 9999) (cond (Nat.beq y 101) (9999) 9999))))) (cond (Nat.blt y 109) (cond (Nat.blt y 105) (cond (Nat.blt y 103) (cond (Nat.beq y 102) (9999) 9999) (cond (Nat.blt y 104) (cond (Nat.beq y 103) (9999) 9999) (cond (Nat.beq y 104) (9999) 9999))) (cond (Nat.blt y 107) (cond (Nat.blt y 106) (cond (Nat.beq y 105) (9999) 9999) (cond (Nat.beq y 106) (9999) 9999)) (cond (Nat.blt y 108) (cond (Nat.beq y 107) (9999) 9999) (cond (Nat.beq y 108) (9999) 9999)))) (cond (Nat.blt y 113) (cond (Nat.blt y 111) (cond (Nat.blt y 110) (cond (Nat.beq y 109) (9999) 9999) (cond (Nat.beq y 110) (1608) 9999)) (cond (Nat.blt y 112) (cond (Nat.beq y 111) (9999) 9999) (cond (Nat.beq y 112) (1498) 9999))) (cond (Nat.blt y 115) (cond (Nat.blt y 114) (cond (Nat.beq y 113) (9999) 9999) (cond (Nat.beq y 114) (1601) 9999)) (cond (Nat.blt y 116) (cond (Nat.beq y 115) (1487) 9999) (cond (Nat.beq y 116) (26) 9999)))))))) (cond (Nat.blt y 176) (cond (Nat.blt y 146) (cond (Nat.blt y 131) (cond (Nat.blt y 124) (cond (Nat.blt y 120) (cond (Nat.blt y 118) (cond (Nat.beq y 117) (1424) 9999) (cond (Nat.blt y 119) (cond (Nat.beq y 118) (23) 9999) (cond (Nat.beq y 119) (24) 9999))) (cond (Nat.blt y 122) (cond (Nat.blt y 121) (cond (Nat.beq y 120) (25) 9999) (cond (Nat.beq y 121) (30) 9999)) (cond (Nat.blt y 123) (cond (Nat.beq y 122) (28) 9999) (cond (Nat.beq y 123) (29) 9999)))) (cond (Nat.blt y 127) (cond (Nat.blt y 125) (cond (Nat.beq y 124) (31) 9999) (cond (Nat.blt y 126) (cond (Nat.beq y 125) (38) 9999) (cond (Nat.beq y 126) (37) 9999))) (cond (Nat.blt y 129) (cond (Nat.blt y 128) (cond (Nat.beq y 127) (1563) 9999) (cond (Nat.beq y 128) (1579) 9999)) (cond (Nat.blt y 130) (cond (Nat.beq y 129) (1392) 9999) (cond (Nat.beq y 130) (1551) 9999))))) (cond (Nat.blt y 138) (cond (Nat.blt y 134) (cond (Nat.blt y 132) (cond (Nat.beq y 131) (9999) 9999) (cond (Nat.blt y 133) (cond (Nat.beq y 132) (1629) 9999) (cond (Nat.beq y 133) (1406) 9999))) (cond (Nat.blt y 136) (cond (Nat.blt y 135) (cond (Nat.beq y 134) (1380) 9999) (cond (Nat.beq y 135) (1547) 9999)) (cond (Nat.blt y 137) (cond (Nat.beq y 136) (9999) 9999) (cond (Nat.beq y 137) (9999) 9999)))) (cond (Nat.blt y 142) (cond (Nat.blt y 140) (cond (Nat.blt y 139) (cond (Nat.beq y 138) (9999) 9999) (cond (Nat.beq y 139) (9999) 9999)) (cond (Nat.blt y 141) (cond (Nat.beq y 140) (1028) 9999) (cond (Nat.beq y 141) (12) 9999))) (cond (Nat.blt y 144) (cond (Nat.blt y 143) (cond (Nat.beq y 142) (11) 9999) (cond (Nat.beq y 143) (9999) 9999)) (cond (Nat.blt y 145) (cond (Nat.beq y 144) (19) 9999) (cond (Nat.beq y 145) (20) 9999)))))) (cond (Nat.blt y 161) (cond (Nat.blt y 153) (cond (Nat.blt y 149) (cond (Nat.blt y 147) (cond (Nat.beq y 146) (21) 9999) (cond (Nat.blt y 148) (cond (Nat.beq y 147) (9999) 9999) (cond (Nat.beq y 148) (15) 9999))) (cond (Nat.blt y 151) (cond (Nat.blt y 150) (cond (Nat.beq y 149) (13) 9999) (cond (Nat.beq y 150) (14) 9999)) (cond (Nat.blt y 152) (cond (Nat.beq y 151) (1032) 9999) (cond (Nat.beq y 152) (1050) 9999)))) (cond (Nat.blt y 157) (cond (Nat.blt y 155) (cond (Nat.blt y 154) (cond (Nat.beq y 153) (1115) 9999) (cond (Nat.beq y 154) (1208) 9999)) (cond (Nat.blt y 156) (cond (Nat.beq y 155) (1230) 9999) (cond (Nat.beq y 156) (1238) 9999))) (cond (Nat.blt y 159) (cond (Nat.blt y 158) (cond (Nat.beq y 157) (1275) 9999) (cond (Nat.beq y 158) (1340) 9999)) (cond (Nat.blt y 160) (cond (Nat.beq y 159) (1368) 9999) (cond (Nat.beq y 160) (1372) 9999))))) (cond (Nat.blt y 168) (cond (Nat.blt y 164) (cond (Nat.blt y 162) (cond (Nat.beq y 161) (22) 9999) (cond (Nat.blt y 163) (cond (Nat.beq y 162) (1384) 9999) (cond (Nat.beq y 163) (1402) 9999))) (cond (Nat.blt y 166) (cond (Nat.blt y 165) (cond (Nat.beq y 164) (1412) 9999) (cond (Nat.beq y 165) (1417) 9999)) (cond (Nat.blt y 167) (cond (Nat.beq y 166) (32) 9999) (cond (Nat.beq y 167) (1505) 9999)))) (cond (Nat.blt y 172) (cond (Nat.blt y 170) (cond (Nat.blt y 169) (cond (Nat.beq y 168) (34) 9999) (cond (Nat.beq y 169) (33) 9999)) (cond (Nat.blt y 171) (cond (Nat.beq y 170) (1514) 9999) (cond (Nat.beq y 171) (35) 9999))) (cond (Nat.blt y 174) (cond (Nat.blt y 173) (cond (Nat.beq y 172) (1526) 9999) (cond (Nat.beq y 173) (1534) 9999)) (cond (Nat.blt y 175) (cond (Nat.beq y 174) (36) 9999) (cond (Nat.beq y 175) (1539) 9999))))))) (cond (Nat.blt y 209) (cond (Nat.blt y 194) (cond (Nat.blt y 183) (cond (Nat.blt y 179) (cond (Nat.blt y 177) (cond (Nat.beq y 176) (1555) 9999) (cond (Nat.blt y 178) (cond (Nat.beq y 177) (1559) 9999) (cond (Nat.beq y 178) (1575) 9999))) (cond (Nat.blt y 181) (cond (Nat.blt y 180) (cond (Nat.beq y 179) (39) 9999) (cond (Nat.beq y 180) (1584) 9999)) (cond (Nat.blt y 182) (cond (Nat.beq y 181) (40) 9999) (cond (Nat.beq y 182) (1593) 9999)))) (cond (Nat.blt y 187) (cond (Nat.blt y 184) (cond (Nat.beq y 183) (9999) 9999) (cond (Nat.blt y 185) (cond (Nat.beq y 184) (1637) 9999) (cond (Nat.beq y 185) (9999) 9999))) (cond (Nat.blt y 192) (cond (Nat.blt y 191) (cond (Nat.beq y 187) (1452) 9999) (cond (Nat.beq y 191) (9999) 9999)) (cond (Nat.blt y 193) (cond (Nat.beq y 192) (9999) 9999) (cond (Nat.beq y 193) (9999) 9999))))) (cond (Nat.blt y 201) (cond (Nat.blt y 197) (cond (Nat.blt y 195) (cond (Nat.beq y 194) (9999) 9999) (cond (Nat.blt y 196) (cond (Nat.beq y 195) (9999) 9999) (cond (Nat.beq y 196) (9999) 9999))) (cond (Nat.blt y 199) (cond (Nat.blt y 198) (cond (Nat.beq y 197) (1100) 9999) (cond (Nat.beq y 198) (9999) 9999)) (cond (Nat.blt y 200) (cond (Nat.beq y 199) (18) 9999) (cond (Nat.beq y 200) (17) 9999)))) (cond (Nat.blt y 205) (cond (Nat.blt y 203) (cond (Nat.blt y 202) (cond (Nat.beq y 201) (1119) 9999) (cond (Nat.beq y 202) (1446) 9999)) (cond (Nat.blt y 204) (cond (Nat.beq y 203) (9999) 9999) (cond (Nat.beq y 204) (1226) 9999))) (cond (Nat.blt y 207) (cond (Nat.blt y 206) (cond (Nat.beq y 205) (1216) 9999) (cond (Nat.beq y 206) (16) 9999)) (cond (Nat.blt y 208) (cond (Nat.beq y 207) (1145) 9999) (cond (Nat.beq y 208) (1465) 9999)))))) (cond (Nat.blt y 228) (cond (Nat.blt y 220) (cond (Nat.blt y 212) (cond (Nat.blt y 210) (cond (Nat.beq y 209) (27) 9999) (cond (Nat.blt y 211) (cond (Nat.beq y 210) (1376) 9999) (cond (Nat.beq y 211) (1614) 9999))) (cond (Nat.blt y 218) (cond (Nat.blt y 215) (cond (Nat.beq y 212) (1058) 9999) (cond (Nat.beq y 215) (9999) 9999)) (cond (Nat.blt y 219) (cond (Nat.beq y 218) (9999) 9999) (cond (Nat.beq y 219) (9999) 9999)))) (cond (Nat.blt y 224) (cond (Nat.blt y 222) (cond (Nat.blt y 221) (cond (Nat.beq y 220) (9999) 9999) (cond (Nat.beq y 221) (9999) 9999)) (cond (Nat.blt y 223) (cond (Nat.beq y 222) (9999) 9999) (cond (Nat.beq y 223) (9999) 9999))) (cond (Nat.blt y 226) (cond (Nat.blt y 225) (cond (Nat.beq y 224) (9999) 9999) (cond (Nat.beq y 225) (9999) 9999)) (cond (Nat.blt y 227) (cond (Nat.beq y 226) (9999) 9999) (cond (Nat.beq y 227) (9999) 9999))))) (cond (Nat.blt y 235) (cond (Nat.blt y 231) (cond (Nat.blt y 229) (cond (Nat.beq y 228) (9999) 9999) (cond (Nat.blt y 230) (cond (Nat.beq y 229) (9999) 9999) (cond (Nat.beq y 230) (9999) 9999))) (cond (Nat.blt y 233) (cond (Nat.blt y 232) (cond (Nat.beq y 231) (9999) 9999) (cond (Nat.beq y 232) (9999) 9999)) (cond (Nat.blt y 234) (cond (Nat.beq y 233) (9999) 9999) (cond (Nat.beq y 234) (9999) 9999)))) (cond (Nat.blt y 239) (cond (Nat.blt y 237) (cond (Nat.blt y 236) (cond (Nat.beq y 235) (9999) 9999) (cond (Nat.beq y 236) (9999) 9999)) (cond (Nat.blt y 238) (cond (Nat.beq y 237) (9999) 9999) (cond (Nat.beq y 238) (9999) 9999))) (cond (Nat.blt y 241) (cond (Nat.blt y 240) (cond (Nat.beq y 239) (9999) 9999) (cond (Nat.beq y 240) (9999) 9999)) (cond (Nat.blt y 242) (cond (Nat.beq y 241) (9999) 9999) (cond (Nat.beq y 242) (9999) 9999))))))))
def ev_NW : List Cond := [(Cond.methodLinkNest "ChannelWinter$Ports" (17 : Nat) ({ cls := "ChannelWinter$Port", name := "<init>", desc := "()V" } : MethodName) "ChannelWinter"), (Cond.methodLinkNest "ChannelWinter$Sea" (29 : Nat) ({ cls := "ChannelWinter$Cell", name := "<init>", desc := "()V" } : MethodName) "ChannelWinter"), (Cond.methodLinkNest "ChannelWinter$Sea" (30 : Nat) ({ cls := "ChannelWinter$Breaker", name := "<init>", desc := "()V" } : MethodName) "ChannelWinter"), (Cond.methodLinkNest "ChannelWinter$Breaker" (11 : Nat) ({ cls := "ChannelWinter$Route", name := "<init>", desc := "()V" } : MethodName) "ChannelWinter"), (Cond.methodLinkNest "ChannelWinter$Sea" (31 : Nat) ({ cls := "ChannelWinter$Ship", name := "<init>", desc := "()V" } : MethodName) "ChannelWinter"), (Cond.methodLinkNest "ChannelWinter$Ship" (11 : Nat) ({ cls := "ChannelWinter$Route", name := "<init>", desc := "()V" } : MethodName) "ChannelWinter"), (Cond.methodLinkNest "ChannelWinter" (28 : Nat) ({ cls := "ChannelWinter$Chart", name := "<init>", desc := "()V" } : MethodName) "ChannelWinter"), (Cond.methodLinkNest "ChannelWinter$Chart" (29 : Nat) ({ cls := "ChannelWinter", name := "neighbour", desc := "(II)I" } : MethodName) "ChannelWinter"), (Cond.methodLinkNest "ChannelWinter$Sea" (99 : Nat) ({ cls := "ChannelWinter", name := "neighbour", desc := "(II)I" } : MethodName) "ChannelWinter"), (Cond.methodLinkNest "ChannelWinter$Sea" (130 : Nat) ({ cls := "ChannelWinter", name := "distance", desc := "(II)I" } : MethodName) "ChannelWinter"), (Cond.methodLinkNest "ChannelWinterModel" (21 : Nat) ({ cls := "ChannelWinterModel$Sea", name := "<init>", desc := "()V" } : MethodName) "ChannelWinterModel"), (Cond.fieldLinkNest "java/util/ArrayList$Itr" (28 : Nat) "java/util/ArrayList" "size" "I" "java/util/ArrayList"), (Cond.fieldLinkNest "ChannelWinterModel$Ship" (51 : Nat) "ChannelWinterModel" "BEARS" "[I" "ChannelWinterModel"), (Cond.methodLinkNest "ChannelWinterModel$Sea" (105 : Nat) ({ cls := "ChannelWinterModel", name := "beside", desc := "(II)I" } : MethodName) "ChannelWinterModel"), (Cond.methodLinkNest "ChannelWinterModel$Sea" (82 : Nat) ({ cls := "ChannelWinterModel", name := "far", desc := "(II)I" } : MethodName) "ChannelWinterModel")]
def ex_at (i : Nat) : Option Cond := cond (Nat.blt i 41) ((k2_sels lw_privs)[i]?) (cond (Nat.blt i 281) (tables_1_1[i - 41]?) (cond (Nat.blt i 521) (tables_1_2[i - 281]?) (cond (Nat.blt i 761) (tables_1_3[i - 521]?) (cond (Nat.blt i 1001) (tables_1_4[i - 761]?) (cond (Nat.blt i 1241) (tables_1_5[i - 1001]?) (cond (Nat.blt i 1481) (tables_1_6[i - 1241]?) (tables_1_7[i - 1481]?)))))))
theorem ex_at_ok {i : Nat} {u : Cond} (h : ex_at i = some u) : u ∈ lw_tbl := by
  unfold ex_at at h
  have ht : ∀ k, k ∈ tables_1 → k ∈ lw_tbl := fun k hk => List.mem_append_right _ hk
  have m1 : ∀ k, k ∈ tables_1_1 → k ∈ tables_1 := fun k hk => List.mem_append_left _ hk
  have r1 : ∀ k, k ∈ (tables_1_2 ++ (tables_1_3 ++ (tables_1_4 ++ (tables_1_5 ++ (tables_1_6 ++ tables_1_7))))) → k ∈ tables_1 := fun k hk => List.mem_append_right _ hk
  cases hb : Nat.blt i 41 with
  | true => rw [hb] at h; exact List.mem_append_left _ (List.mem_of_getElem? h)
  | false =>
    rw [hb] at h
    dsimp only [cond_false] at h
    cases hb0 : Nat.blt i 281 with
    | true => rw [hb0] at h; exact ht _ (m1 _ (List.mem_of_getElem? h))
    | false =>
      rw [hb0] at h
      dsimp only [cond_false] at h
      cases hb1 : Nat.blt i 521 with
      | true => rw [hb1] at h; exact ht _ (r1 _ (List.mem_append_left _ (List.mem_of_getElem? h)))
      | false =>
        rw [hb1] at h
        dsimp only [cond_false] at h
        cases hb2 : Nat.blt i 761 with
        | true => rw [hb2] at h; exact ht _ (r1 _ (List.mem_append_right _ (List.mem_append_left _ (List.mem_of_getElem? h))))
        | false =>
          rw [hb2] at h
          dsimp only [cond_false] at h
          cases hb3 : Nat.blt i 1001 with
          | true => rw [hb3] at h; exact ht _ (r1 _ (List.mem_append_right _ (List.mem_append_right _ (List.mem_append_left _ (List.mem_of_getElem? h)))))
          | false =>
            rw [hb3] at h
            dsimp only [cond_false] at h
            cases hb4 : Nat.blt i 1241 with
            | true => rw [hb4] at h; exact ht _ (r1 _ (List.mem_append_right _ (List.mem_append_right _ (List.mem_append_right _ (List.mem_append_left _ (List.mem_of_getElem? h))))))
            | false =>
              rw [hb4] at h
              dsimp only [cond_false] at h
              cases hb5 : Nat.blt i 1481 with
              | true => rw [hb5] at h; exact ht _ (r1 _ (List.mem_append_right _ (List.mem_append_right _ (List.mem_append_right _ (List.mem_append_right _ (List.mem_append_left _ (List.mem_of_getElem? h)))))))
              | false =>
                rw [hb5] at h
                dsimp only [cond_false] at h
                exact ht _ (r1 _ (List.mem_append_right _ (List.mem_append_right _ (List.mem_append_right _ (List.mem_append_right _ (List.mem_append_right _ (List.mem_of_getElem? h)))))))
def ex_si (cl x : Nat) : Nat := cond (Nat.blt cl 14) (cond (Nat.beq cl 2) (cond (Nat.beq x 42) (1621) 9999) 9999) (cond (Nat.blt cl 16) (cond (Nat.beq cl 14) (cond (Nat.blt x 59) (cond (Nat.beq x 53) (1084) 9999) (cond (Nat.beq x 59) (1093) 9999)) 9999) (cond (Nat.beq cl 16) (cond (Nat.blt x 60) (cond (Nat.beq x 54) (1084) 9999) (cond (Nat.beq x 60) (1093) 9999)) 9999))
def ex_lk (i : Nat) (u : Cond) : Bool := match ex_at i with
  | some u' => decide (u' = u) && goodWord u'
  | none => false
theorem ex_lk_ok {i : Nat} {u : Cond} (h : ex_lk i u = true) : u ∈ ew_TW := by
  unfold ex_lk at h
  split at h
  · rename_i u' hu
    rw [Bool.and_eq_true, decide_eq_true_eq] at h
    obtain ⟨rfl, h2⟩ := h
    exact List.mem_filter.mpr ⟨ex_at_ok hu, h2⟩
  · cases h

def ex_sf : Nat := 973
def ex_ty (o : Option FieldType) (t : Nat) : Bool := match o, t with
  | some .int, 0 => true
  | some .boolean, 1 => true
  | some (.object _), 2 => true
  | some (.array _), 2 => true
  | some .long, 3 => true
  | _, _ => false
def ev_fd (cl x : Nat) : Bool := match et_fd cl x with
  | none => true
  | some (ci, s, t) => Nat.blt ci 17 && (match vwCl[ci]? with
    | none => false
    | some r => Nat.blt s r.2.2 && ex_ty (parseFieldDescriptor (r.2.1 s).2.2.1) t && decide ((r.2.1 s).2.2.2 = et_fin ci s) && (!et_fin ci s || decide ((r.2.1 s).1 = r.1)) &&
      (bif et_fn cl x then ev_NW.any (fun u => match u with
        | .fieldLinkNest _ _ _ _ _ host => decide (u = .fieldLinkNest (ew_on cl) x (r.2.1 s).1 (r.2.1 s).2.1 (r.2.1 s).2.2.1 host)
        | _ => false)
      else match ex_at (ex_fw cl x) with
        | some (.fieldLink o x' ref n d) => decide (o = ew_on cl) && Nat.beq x' x && decide (n = (r.2.1 s).2.1) && decide (d = (r.2.1 s).2.2.1) && (decide ((r.2.1 s).1 = ref) || ex_lk ex_sf (.sameField ref (r.2.1 s).1 (r.2.1 s).2.1 (r.2.1 s).2.2.1)) && ex_lk (ex_fw cl x) (.fieldLink o x' ref n d)
        | _ => false))
def ex_df (v : Value) (t : FieldType) : Bool := match v, defaultValue t with
  | .int x, .int y => decide (x = y)
  | .null, .null => true
  | _, _ => false
def ev_cl (ci : Nat) : Bool := match vwCl[ci]? with
  | none => true
  | some r => (List.range r.2.2).all (fun k => ex_lk (ex_ly ci k) (u_lay r.1 r.2.1 k) && (match parseFieldDescriptor (r.2.1 k).2.2.1 with
      | some ty => ex_df (ew_c (fun _ _ => 0) (et_dv ci k)) ty
      | none => false) && (List.range r.2.2).all (fun j => Nat.beq j k || !decide ((r.2.1 k).2.1 = (r.2.1 j).2.1))) && Nat.beq (et_N ci) r.2.2 && decide (r.1 = ew_on ci) && ex_lk (ex_in ci) (.instantiable r.1 r.2.2) && ex_lk (ex_zd ci) (.initialized r.1)
def ev_nw (cl x : Nat) : Bool := match et_nw cl x with
  | none => true
  | some c => (!Nat.blt c 17 || ex_lk (ex_kw cl x) (.classLink (ew_on cl) x (ew_on c))) && (!Nat.beq c 17 || ex_lk (ex_kw cl x) (.classLink (ew_on cl) x "[I")) && (!Nat.beq c 90 || ex_lk (ex_kw cl x) (.classLink (ew_on cl) x "java/lang/Object"))
def ev_cc (cl x : Nat) : Bool := match et_cl cl x with
  | none => true
  | some v => ex_lk (ex_cw cl x) (.constantLong (ew_on cl) x v)
def ex_pl (m : MethodName) : Bool := !decide (m.cls = "java/lang/invoke/MethodHandle") && !decide (m.cls = "java/lang/invoke/VarHandle")
def ex_ds (m : MethodName) (n : Nat) : Bool := match parseMethodDescriptor m.desc with
  | some d => Nat.beq d.parameters.length n
  | none => false
def ex_us (z : Nat) : Bool := Nat.blt z 243 && Nat.blt (ex_co z) 9999
def ev_yp (z : Nat) : Bool := ex_lk (ex_zd (et_cls z)) (.initialized (ew_nm z).cls) && ex_pl (ew_nm z) && Nat.ble (et_mx z) 13 &&
  (bif Nat.beq (et_kd z) 0 then ex_lk (ex_st z) (.static (ew_nm z)) else bif Nat.beq (et_kd z) 1 then ex_lk (ex_st z) (.instanceMethod (ew_nm z)) else bif Nat.beq (et_kd z) 2 then ex_lk (ex_st z) (.instanceMethod (ew_nm z)) && decide ((ew_nm z).name = "<init>") && decide (ew_rt z = none) else true)
def ev_yw (z : Nat) : Bool := ex_lk (ex_zd (et_cls z)) (.initialized (ew_nm z).cls) && ex_pl (ew_nm z) && Nat.ble (et_mx z) 13 && ex_lk (ex_st z) (.static (ew_nm z))
def ex_xn (cl x : Nat) : MethodName := bif Nat.beq cl 2 then ⟨"java/util/Collection", "toArray", "()[Ljava/lang/Object;"⟩ else bif Nat.beq x (bif Nat.beq cl 16 then 54 else 53) then ⟨"java/util/Iterator", "hasNext", "()Z"⟩ else ⟨"java/util/Iterator", "next", "()Ljava/lang/Object;"⟩
def ex_LP (cl x z n : Nat) : Bool := (ex_lk (ex_lw cl x) (.methodLink (ew_on cl) x (ew_nm z)) || ev_NW.any (fun u => match u with
    | .methodLinkNest _ _ _ host => decide (u = .methodLinkNest (ew_on cl) x (ew_nm z) host)
    | _ => false)) && ex_ds (ew_nm z) n
def ev_md (cl x : Nat) : Bool := match et_md cl x with
  | none => true
  | some (z, n, c) => bif Nat.ble 900 z then Nat.beq (et_kd z) 9 && !et_if cl x && !et_wr z && Nat.ble z 904 && (bif Nat.beq z 900 then ex_lk (ex_lw cl x) (.methodLink (ew_on cl) x Lib.Math.max.name) else bif Nat.beq z 901 then ex_lk (ex_lw cl x) (.methodLink (ew_on cl) x Lib.Math.min.name) else bif Nat.beq z 902 then ex_lk (ex_lw cl x) (.methodLink (ew_on cl) x Lib.Math.abs.name) else bif Nat.beq z 903 then ex_lk (ex_lw cl x) (.methodLink (ew_on cl) x arraycopyName) else Nat.beq n 0 && ex_lk (ex_lw cl x) (.methodLink (ew_on cl) x objectInit))
    else bif et_wr z then Nat.beq (et_kd z) 0 && Nat.ble 185 z && !et_if cl x && ex_us z && ex_ds (ew_nm z) n && ex_lk (ex_lw cl x) (.methodLink (ew_on cl) x (ew_nm z))
    else ex_us z && (bif et_if cl x then Nat.blt c 17 && Nat.beq (et_kd z) 1 && Nat.ble 185 z && ex_lk (ex_lw cl x) (.methodLink (ew_on cl) x (ex_xn cl x)) && ex_lk (ex_si cl x) (.selects (ew_on c) (ex_xn cl x) (ew_nm z)) && ex_pl (ex_xn cl x) && ex_ds (ex_xn cl x) n
      else ex_LP cl x z n && (!Nat.beq (et_kd z) 1 || (Nat.blt c 17 && decide ((ew_nm z).cls = ew_on c) && ex_lk (ex_se z) (.selects (ew_nm z).cls (ew_nm z) (ew_nm z)))) && (!ew_th z || ex_lk (ex_lw cl x) (.methodLink (ew_on cl) x (ew_nm z))))

def ev_yy (z : Nat) : Bool := !ex_us z || (bif et_wr z then ev_yw z else ev_yp z)
theorem ex_cz_0 : ew_cw 0 ∈ ew_TW := List.mem_filter.mpr ⟨ex_at_ok (i := 169) rfl, rfl⟩
theorem ex_cz_1 : ew_cw 1 ∈ ew_TW := List.mem_filter.mpr ⟨ex_at_ok (i := 668) rfl, rfl⟩
theorem ex_cz_2 : ew_cw 2 ∈ ew_TW := List.mem_filter.mpr ⟨ex_at_ok (i := 608) rfl, rfl⟩
theorem ex_cz_3 : ew_cw 3 ∈ ew_TW := List.mem_filter.mpr ⟨ex_at_ok (i := 140) rfl, rfl⟩
theorem ex_cz_4 : ew_cw 4 ∈ ew_TW := List.mem_filter.mpr ⟨ex_at_ok (i := 479) rfl, rfl⟩
theorem ex_cz_5 : ew_cw 5 ∈ ew_TW := List.mem_filter.mpr ⟨ex_at_ok (i := 534) rfl, rfl⟩
theorem ex_cz_6 : ew_cw 6 ∈ ew_TW := List.mem_filter.mpr ⟨ex_at_ok (i := 664) rfl, rfl⟩
theorem ex_cz_7 : ew_cw 7 ∈ ew_TW := List.mem_filter.mpr ⟨ex_at_ok (i := 779) rfl, rfl⟩
theorem ex_cz_8 : ew_cw 8 ∈ ew_TW := List.mem_filter.mpr ⟨ex_at_ok (i := 631) rfl, rfl⟩
theorem ex_cz_9 : ew_cw 9 ∈ ew_TW := List.mem_filter.mpr ⟨ex_at_ok (i := 635) rfl, rfl⟩
theorem ex_cz_10 : ew_cw 10 ∈ ew_TW := List.mem_filter.mpr ⟨ex_at_ok (i := 642) rfl, rfl⟩
theorem ex_cz_11 : ew_cw 11 ∈ ew_TW := List.mem_filter.mpr ⟨ex_at_ok (i := 647) rfl, rfl⟩
theorem ex_cz_12 : ew_cw 12 ∈ ew_TW := List.mem_filter.mpr ⟨ex_at_ok (i := 603) rfl, rfl⟩
theorem ex_cz_13 : ew_cw 13 ∈ ew_TW := List.mem_filter.mpr ⟨ex_at_ok (i := 305) rfl, rfl⟩
theorem ex_cz_14 : ew_cw 14 ∈ ew_TW := List.mem_filter.mpr ⟨ex_at_ok (i := 538) rfl, rfl⟩
theorem ex_cz_15 : ew_cw 15 ∈ ew_TW := List.mem_filter.mpr ⟨ex_at_ok (i := 553) rfl, rfl⟩
theorem ex_cz_16 : ew_cw 16 ∈ ew_TW := List.mem_filter.mpr ⟨ex_at_ok (i := 557) rfl, rfl⟩
theorem ex_cz_17 : ew_cw 17 ∈ ew_TW := List.mem_filter.mpr ⟨ex_at_ok (i := 561) rfl, rfl⟩
theorem ex_cz_18 : ew_cw 18 ∈ ew_TW := List.mem_filter.mpr ⟨ex_at_ok (i := 568) rfl, rfl⟩
theorem ex_cz_19 : ew_cw 19 ∈ ew_TW := List.mem_filter.mpr ⟨ex_at_ok (i := 94) rfl, rfl⟩
theorem ex_cz_20 : ew_cw 20 ∈ ew_TW := List.mem_filter.mpr ⟨ex_at_ok (i := 801) rfl, rfl⟩
theorem ex_cz_21 : ew_cw 21 ∈ ew_TW := List.mem_filter.mpr ⟨ex_at_ok (i := 708) rfl, rfl⟩
theorem ex_cz_22 : ew_cw 22 ∈ ew_TW := List.mem_filter.mpr ⟨ex_at_ok (i := 813) rfl, rfl⟩
theorem ex_cz_23 : ew_cw 23 ∈ ew_TW := List.mem_filter.mpr ⟨ex_at_ok (i := 712) rfl, rfl⟩
theorem ex_cz_24 : ew_cw 24 ∈ ew_TW := List.mem_filter.mpr ⟨ex_at_ok (i := 704) rfl, rfl⟩
theorem ex_cz_25 : ew_cw 25 ∈ ew_TW := List.mem_filter.mpr ⟨ex_at_ok (i := 87) rfl, rfl⟩
theorem ex_cz_26 : ew_cw 26 ∈ ew_TW := List.mem_filter.mpr ⟨ex_at_ok (i := 546) rfl, rfl⟩
theorem ex_cz_27 : ew_cw 27 ∈ ew_TW := List.mem_filter.mpr ⟨ex_at_ok (i := 790) rfl, rfl⟩
theorem ex_cz_28 : ew_cw 28 ∈ ew_TW := List.mem_filter.mpr ⟨ex_at_ok (i := 774) rfl, rfl⟩
theorem ex_cz_29 : ew_cw 29 ∈ ew_TW := List.mem_filter.mpr ⟨ex_at_ok (i := 175) rfl, rfl⟩
theorem ex_cz_30 : ew_cw 30 ∈ ew_TW := List.mem_filter.mpr ⟨ex_at_ok (i := 850) rfl, rfl⟩
theorem ex_cz_31 : ew_cw 31 ∈ ew_TW := List.mem_filter.mpr ⟨ex_at_ok (i := 854) rfl, rfl⟩
theorem ex_cz_32 : ew_cw 32 ∈ ew_TW := List.mem_filter.mpr ⟨ex_at_ok (i := 655) rfl, rfl⟩
theorem ex_cz_33 : ew_cw 33 ∈ ew_TW := List.mem_filter.mpr ⟨ex_at_ok (i := 672) rfl, rfl⟩
theorem ex_cz_34 : ew_cw 34 ∈ ew_TW := List.mem_filter.mpr ⟨ex_at_ok (i := 660) rfl, rfl⟩
theorem ex_cz_35 : ew_cw 35 ∈ ew_TW := List.mem_filter.mpr ⟨ex_at_ok (i := 612) rfl, rfl⟩
theorem ex_cz_36 : ew_cw 36 ∈ ew_TW := List.mem_filter.mpr ⟨ex_at_ok (i := 129) rfl, rfl⟩
theorem ex_cz_37 : ew_cw 37 ∈ ew_TW := List.mem_filter.mpr ⟨ex_at_ok (i := 474) rfl, rfl⟩
theorem ex_cz_38 : ew_cw 38 ∈ ew_TW := List.mem_filter.mpr ⟨ex_at_ok (i := 491) rfl, rfl⟩
theorem ex_cz_39 : ew_cw 39 ∈ ew_TW := List.mem_filter.mpr ⟨ex_at_ok (i := 434) rfl, rfl⟩
theorem ex_cz_40 : ew_cw 40 ∈ ew_TW := List.mem_filter.mpr ⟨ex_at_ok (i := 824) rfl, rfl⟩
theorem ex_cz_41 : ew_cw 41 ∈ ew_TW := List.mem_filter.mpr ⟨ex_at_ok (i := 835) rfl, rfl⟩
theorem ex_cz_42 : ew_cw 42 ∈ ew_TW := List.mem_filter.mpr ⟨ex_at_ok (i := 622) rfl, rfl⟩
theorem ex_cz_43 : ew_cw 43 ∈ ew_TW := List.mem_filter.mpr ⟨ex_at_ok (i := 626) rfl, rfl⟩
theorem ex_cz_44 : ew_cw 44 ∈ ew_TW := List.mem_filter.mpr ⟨ex_at_ok (i := 651) rfl, rfl⟩
theorem ex_cz_45 : ew_cw 45 ∈ ew_TW := List.mem_filter.mpr ⟨ex_at_ok (i := 677) rfl, rfl⟩
theorem ex_cz_46 : ew_cw 46 ∈ ew_TW := List.mem_filter.mpr ⟨ex_at_ok (i := 681) rfl, rfl⟩
theorem ex_cz_47 : ew_cw 47 ∈ ew_TW := List.mem_filter.mpr ⟨ex_at_ok (i := 688) rfl, rfl⟩
theorem ex_cz_48 : ew_cw 48 ∈ ew_TW := List.mem_filter.mpr ⟨ex_at_ok (i := 769) rfl, rfl⟩
theorem ex_cz_49 : ew_cw 49 ∈ ew_TW := List.mem_filter.mpr ⟨ex_at_ok (i := 483) rfl, rfl⟩
theorem ex_cz_50 : ew_cw 50 ∈ ew_TW := List.mem_filter.mpr ⟨ex_at_ok (i := 496) rfl, rfl⟩
theorem ex_cz_51 : ew_cw 51 ∈ ew_TW := List.mem_filter.mpr ⟨ex_at_ok (i := 504) rfl, rfl⟩
theorem ex_cz_52 : ew_cw 52 ∈ ew_TW := List.mem_filter.mpr ⟨ex_at_ok (i := 430) rfl, rfl⟩
theorem ex_cz_53 : ew_cw 53 ∈ ew_TW := List.mem_filter.mpr ⟨ex_at_ok (i := 454) rfl, rfl⟩
theorem ex_cz_54 : ew_cw 54 ∈ ew_TW := List.mem_filter.mpr ⟨ex_at_ok (i := 462) rfl, rfl⟩
theorem ex_cz_55 : ew_cw 55 ∈ ew_TW := List.mem_filter.mpr ⟨ex_at_ok (i := 466) rfl, rfl⟩
theorem ex_cz_56 : ew_cw 56 ∈ ew_TW := List.mem_filter.mpr ⟨ex_at_ok (i := 338) rfl, rfl⟩
theorem ex_cz_57 : ew_cw 57 ∈ ew_TW := List.mem_filter.mpr ⟨ex_at_ok (i := 426) rfl, rfl⟩
theorem ex_cz_58 : ew_cw 58 ∈ ew_TW := List.mem_filter.mpr ⟨ex_at_ok (i := 334) rfl, rfl⟩
theorem ex_cz_59 : ew_cw 59 ∈ ew_TW := List.mem_filter.mpr ⟨ex_at_ok (i := 598) rfl, rfl⟩
theorem ex_cz_60 : ew_cw 60 ∈ ew_TW := List.mem_filter.mpr ⟨ex_at_ok (i := 214) rfl, rfl⟩
theorem ex_cz_61 : ew_cw 61 ∈ ew_TW := List.mem_filter.mpr ⟨ex_at_ok (i := 839) rfl, rfl⟩
theorem ex_cz_62 : ew_cw 62 ∈ ew_TW := List.mem_filter.mpr ⟨ex_at_ok (i := 530) rfl, rfl⟩
theorem ex_cz_63 : ew_cw 63 ∈ ew_TW := List.mem_filter.mpr ⟨ex_at_ok (i := 500) rfl, rfl⟩
theorem ex_cz_64 : ew_cw 64 ∈ ew_TW := List.mem_filter.mpr ⟨ex_at_ok (i := 720) rfl, rfl⟩
theorem ex_cz_65 : ew_cw 65 ∈ ew_TW := List.mem_filter.mpr ⟨ex_at_ok (i := 697) rfl, rfl⟩
theorem ex_cz_66 : ew_cw 66 ∈ ew_TW := List.mem_filter.mpr ⟨ex_at_ok (i := 692) rfl, rfl⟩
theorem ex_cz_67 : ew_cw 67 ∈ ew_TW := List.mem_filter.mpr ⟨ex_at_ok (i := 716) rfl, rfl⟩
theorem ex_cz_68 : ew_cw 68 ∈ ew_TW := List.mem_filter.mpr ⟨ex_at_ok (i := 724) rfl, rfl⟩
theorem ex_cz_69 : ew_cw 69 ∈ ew_TW := List.mem_filter.mpr ⟨ex_at_ok (i := 579) rfl, rfl⟩
theorem ex_cz_70 : ew_cw 70 ∈ ew_TW := List.mem_filter.mpr ⟨ex_at_ok (i := 458) rfl, rfl⟩
theorem ex_cz_71 : ew_cw 71 ∈ ew_TW := List.mem_filter.mpr ⟨ex_at_ok (i := 616) rfl, rfl⟩
theorem ex_cz_72 : ew_cw 72 ∈ ew_TW := List.mem_filter.mpr ⟨ex_at_ok (i := 79) rfl, rfl⟩
theorem ex_cz_73 : ew_cw 73 ∈ ew_TW := List.mem_filter.mpr ⟨ex_at_ok (i := 739) rfl, rfl⟩
theorem ex_cz_74 : ew_cw 74 ∈ ew_TW := List.mem_filter.mpr ⟨ex_at_ok (i := 765) rfl, rfl⟩
theorem ex_cz_75 : ew_cw 75 ∈ ew_TW := List.mem_filter.mpr ⟨ex_at_ok (i := 786) rfl, rfl⟩
theorem ex_cz_76 : ew_cw 76 ∈ ew_TW := List.mem_filter.mpr ⟨ex_at_ok (i := 797) rfl, rfl⟩
theorem ex_cz_77 : ew_cw 77 ∈ ew_TW := List.mem_filter.mpr ⟨ex_at_ok (i := 808) rfl, rfl⟩
theorem ex_cz_78 : ew_cw 78 ∈ ew_TW := List.mem_filter.mpr ⟨ex_at_ok (i := 820) rfl, rfl⟩
theorem ex_cz_79 : ew_cw 79 ∈ ew_TW := List.mem_filter.mpr ⟨ex_at_ok (i := 831) rfl, rfl⟩
theorem ex_cz_80 : ew_cw 80 ∈ ew_TW := List.mem_filter.mpr ⟨ex_at_ok (i := 846) rfl, rfl⟩
theorem ex_cz_81 : ew_cw 81 ∈ ew_TW := List.mem_filter.mpr ⟨ex_at_ok (i := 861) rfl, rfl⟩
theorem ex_cz_82 : ew_cw 82 ∈ ew_TW := List.mem_filter.mpr ⟨ex_at_ok (i := 868) rfl, rfl⟩
theorem ex_cz_83 : ew_cw 83 ∈ ew_TW := List.mem_filter.mpr ⟨ex_at_ok (i := 877) rfl, rfl⟩
theorem ex_cz_84 : ew_cw 84 ∈ ew_TW := List.mem_filter.mpr ⟨ex_at_ok (i := 889) rfl, rfl⟩
theorem ex_cz_85 : ew_cw 85 ∈ ew_TW := List.mem_filter.mpr ⟨ex_at_ok (i := 896) rfl, rfl⟩
theorem ex_cz_86 : ew_cw 86 ∈ ew_TW := List.mem_filter.mpr ⟨ex_at_ok (i := 904) rfl, rfl⟩
theorem ex_cz_87 : ew_cw 87 ∈ ew_TW := List.mem_filter.mpr ⟨ex_at_ok (i := 470) rfl, rfl⟩
theorem ex_cz_88 : ew_cw 88 ∈ ew_TW := List.mem_filter.mpr ⟨ex_at_ok (i := 487) rfl, rfl⟩
theorem ex_cz_89 : ew_cw 89 ∈ ew_TW := List.mem_filter.mpr ⟨ex_at_ok (i := 575) rfl, rfl⟩
theorem ex_cz_90 : ew_cw 90 ∈ ew_TW := List.mem_filter.mpr ⟨ex_at_ok (i := 728) rfl, rfl⟩
theorem ex_cz_91 : ew_cw 91 ∈ ew_TW := List.mem_filter.mpr ⟨ex_at_ok (i := 348) rfl, rfl⟩
theorem ex_cz_92 : ew_cw 92 ∈ ew_TW := List.mem_filter.mpr ⟨ex_at_ok (i := 330) rfl, rfl⟩
theorem ex_cz_93 : ew_cw 93 ∈ ew_TW := List.mem_filter.mpr ⟨ex_at_ok (i := 583) rfl, rfl⟩
theorem ex_cz_94 : ew_cw 94 ∈ ew_TW := List.mem_filter.mpr ⟨ex_at_ok (i := 587) rfl, rfl⟩
theorem ex_cz_95 : ew_cw 95 ∈ ew_TW := List.mem_filter.mpr ⟨ex_at_ok (i := 508) rfl, rfl⟩
theorem ex_cz_96 : ew_cw 96 ∈ ew_TW := List.mem_filter.mpr ⟨ex_at_ok (i := 591) rfl, rfl⟩
theorem ex_cz_97 : ew_cw 97 ∈ ew_TW := List.mem_filter.mpr ⟨ex_at_ok (i := 342) rfl, rfl⟩
theorem ex_cz_98 : ew_cw 98 ∈ ew_TW := List.mem_filter.mpr ⟨ex_at_ok (i := 542) rfl, rfl⟩
theorem ex_cz_99 : ew_cw 99 ∈ ew_TW := List.mem_filter.mpr ⟨ex_at_ok (i := 520) rfl, rfl⟩
theorem ex_cz_100 : ew_cw 100 ∈ ew_TW := List.mem_filter.mpr ⟨ex_at_ok (i := 523) rfl, rfl⟩
theorem ex_cz_101 : ew_cw 101 ∈ ew_TW := List.mem_filter.mpr ⟨ex_at_ok (i := 526) rfl, rfl⟩
theorem ex_cz_102 : ew_cw 102 ∈ ew_TW := List.mem_filter.mpr ⟨ex_at_ok (i := 880) rfl, rfl⟩
theorem ex_cz_103 : ew_cw 103 ∈ ew_TW := List.mem_filter.mpr ⟨ex_at_ok (i := 594) rfl, rfl⟩
theorem ex_cz_104 : ew_cw 104 ∈ ew_TW := List.mem_filter.mpr ⟨ex_at_ok (i := 351) rfl, rfl⟩
theorem ex_cz_105 : ew_cw 105 ∈ ew_TW := List.mem_filter.mpr ⟨ex_at_ok (i := 354) rfl, rfl⟩
theorem ex_cz_106 : ew_cw 106 ∈ ew_TW := List.mem_filter.mpr ⟨ex_at_ok (i := 742) rfl, rfl⟩
theorem ex_cz_107 : ew_cw 107 ∈ ew_TW := List.mem_filter.mpr ⟨ex_at_ok (i := 564) rfl, rfl⟩
theorem ex_cz_108 : ew_cw 108 ∈ ew_TW := List.mem_filter.mpr ⟨ex_at_ok (i := 512) rfl, rfl⟩
theorem ex_cz_109 : ew_cw 109 ∈ ew_TW := List.mem_filter.mpr ⟨ex_at_ok (i := 1243) rfl, rfl⟩
theorem ex_cz_110 : ew_cw 110 ∈ ew_TW := List.mem_filter.mpr ⟨ex_at_ok (i := 1609) rfl, rfl⟩
theorem ex_cz_111 : ew_cw 111 ∈ ew_TW := List.mem_filter.mpr ⟨ex_at_ok (i := 1124) rfl, rfl⟩
theorem ex_cz_112 : ew_cw 112 ∈ ew_TW := List.mem_filter.mpr ⟨ex_at_ok (i := 1499) rfl, rfl⟩
theorem ex_cz_113 : ew_cw 113 ∈ ew_TW := List.mem_filter.mpr ⟨ex_at_ok (i := 951) rfl, rfl⟩
theorem ex_cz_114 : ew_cw 114 ∈ ew_TW := List.mem_filter.mpr ⟨ex_at_ok (i := 1602) rfl, rfl⟩
theorem ex_cz_115 : ew_cw 115 ∈ ew_TW := List.mem_filter.mpr ⟨ex_at_ok (i := 1488) rfl, rfl⟩
theorem ex_cz_116 : ew_cw 116 ∈ ew_TW := List.mem_filter.mpr ⟨ex_at_ok (i := 1457) rfl, rfl⟩
theorem ex_cz_117 : ew_cw 117 ∈ ew_TW := List.mem_filter.mpr ⟨ex_at_ok (i := 1425) rfl, rfl⟩
theorem ex_cz_118 : ew_cw 118 ∈ ew_TW := List.mem_filter.mpr ⟨ex_at_ok (i := 1429) rfl, rfl⟩
theorem ex_cz_119 : ew_cw 119 ∈ ew_TW := List.mem_filter.mpr ⟨ex_at_ok (i := 1437) rfl, rfl⟩
theorem ex_cz_120 : ew_cw 120 ∈ ew_TW := List.mem_filter.mpr ⟨ex_at_ok (i := 1443) rfl, rfl⟩
theorem ex_cz_121 : ew_cw 121 ∈ ew_TW := List.mem_filter.mpr ⟨ex_at_ok (i := 1484) rfl, rfl⟩
theorem ex_cz_122 : ew_cw 122 ∈ ew_TW := List.mem_filter.mpr ⟨ex_at_ok (i := 1476) rfl, rfl⟩
theorem ex_cz_123 : ew_cw 123 ∈ ew_TW := List.mem_filter.mpr ⟨ex_at_ok (i := 1480) rfl, rfl⟩
theorem ex_cz_124 : ew_cw 124 ∈ ew_TW := List.mem_filter.mpr ⟨ex_at_ok (i := 1493) rfl, rfl⟩
theorem ex_cz_125 : ew_cw 125 ∈ ew_TW := List.mem_filter.mpr ⟨ex_at_ok (i := 1572) rfl, rfl⟩
theorem ex_cz_126 : ew_cw 126 ∈ ew_TW := List.mem_filter.mpr ⟨ex_at_ok (i := 1568) rfl, rfl⟩
theorem ex_cz_127 : ew_cw 127 ∈ ew_TW := List.mem_filter.mpr ⟨ex_at_ok (i := 1564) rfl, rfl⟩
theorem ex_cz_128 : ew_cw 128 ∈ ew_TW := List.mem_filter.mpr ⟨ex_at_ok (i := 1580) rfl, rfl⟩
theorem ex_cz_129 : ew_cw 129 ∈ ew_TW := List.mem_filter.mpr ⟨ex_at_ok (i := 1393) rfl, rfl⟩
theorem ex_cz_130 : ew_cw 130 ∈ ew_TW := List.mem_filter.mpr ⟨ex_at_ok (i := 1552) rfl, rfl⟩
theorem ex_cz_131 : ew_cw 131 ∈ ew_TW := List.mem_filter.mpr ⟨ex_at_ok (i := 1280) rfl, rfl⟩
theorem ex_cz_132 : ew_cw 132 ∈ ew_TW := List.mem_filter.mpr ⟨ex_at_ok (i := 1630) rfl, rfl⟩
theorem ex_cz_133 : ew_cw 133 ∈ ew_TW := List.mem_filter.mpr ⟨ex_at_ok (i := 1407) rfl, rfl⟩
theorem ex_cz_134 : ew_cw 134 ∈ ew_TW := List.mem_filter.mpr ⟨ex_at_ok (i := 1381) rfl, rfl⟩
theorem ex_cz_135 : ew_cw 135 ∈ ew_TW := List.mem_filter.mpr ⟨ex_at_ok (i := 1548) rfl, rfl⟩
theorem ex_cz_136 : ew_cw 136 ∈ ew_TW := List.mem_filter.mpr ⟨ex_at_ok (i := 1039) rfl, rfl⟩
theorem ex_cz_137 : ew_cw 137 ∈ ew_TW := List.mem_filter.mpr ⟨ex_at_ok (i := 1432) rfl, rfl⟩
theorem ex_cz_138 : ew_cw 138 ∈ ew_TW := List.mem_filter.mpr ⟨ex_at_ok (i := 1460) rfl, rfl⟩
theorem ex_cz_139 : ew_cw 139 ∈ ew_TW := List.mem_filter.mpr ⟨ex_at_ok (i := 945) rfl, rfl⟩
theorem ex_cz_140 : ew_cw 140 ∈ ew_TW := List.mem_filter.mpr ⟨ex_at_ok (i := 1029) rfl, rfl⟩
theorem ex_cz_141 : ew_cw 141 ∈ ew_TW := List.mem_filter.mpr ⟨ex_at_ok (i := 1047) rfl, rfl⟩
theorem ex_cz_142 : ew_cw 142 ∈ ew_TW := List.mem_filter.mpr ⟨ex_at_ok (i := 1043) rfl, rfl⟩
theorem ex_cz_143 : ew_cw 143 ∈ ew_TW := List.mem_filter.mpr ⟨ex_at_ok (i := 1036) rfl, rfl⟩
theorem ex_cz_144 : ew_cw 144 ∈ ew_TW := List.mem_filter.mpr ⟨ex_at_ok (i := 1213) rfl, rfl⟩
theorem ex_cz_145 : ew_cw 145 ∈ ew_TW := List.mem_filter.mpr ⟨ex_at_ok (i := 1235) rfl, rfl⟩
theorem ex_cz_146 : ew_cw 146 ∈ ew_TW := List.mem_filter.mpr ⟨ex_at_ok (i := 1345) rfl, rfl⟩
theorem ex_cz_147 : ew_cw 147 ∈ ew_TW := List.mem_filter.mpr ⟨ex_at_ok (i := 1421) rfl, rfl⟩
theorem ex_cz_148 : ew_cw 148 ∈ ew_TW := List.mem_filter.mpr ⟨ex_at_ok (i := 1111) rfl, rfl⟩
theorem ex_cz_149 : ew_cw 149 ∈ ew_TW := List.mem_filter.mpr ⟨ex_at_ok (i := 1055) rfl, rfl⟩
theorem ex_cz_150 : ew_cw 150 ∈ ew_TW := List.mem_filter.mpr ⟨ex_at_ok (i := 1106) rfl, rfl⟩
theorem ex_cz_151 : ew_cw 151 ∈ ew_TW := List.mem_filter.mpr ⟨ex_at_ok (i := 1033) rfl, rfl⟩
theorem ex_cz_152 : ew_cw 152 ∈ ew_TW := List.mem_filter.mpr ⟨ex_at_ok (i := 1051) rfl, rfl⟩
theorem ex_cz_153 : ew_cw 153 ∈ ew_TW := List.mem_filter.mpr ⟨ex_at_ok (i := 1116) rfl, rfl⟩
theorem ex_cz_154 : ew_cw 154 ∈ ew_TW := List.mem_filter.mpr ⟨ex_at_ok (i := 1209) rfl, rfl⟩
theorem ex_cz_155 : ew_cw 155 ∈ ew_TW := List.mem_filter.mpr ⟨ex_at_ok (i := 1231) rfl, rfl⟩
theorem ex_cz_156 : ew_cw 156 ∈ ew_TW := List.mem_filter.mpr ⟨ex_at_ok (i := 1239) rfl, rfl⟩
theorem ex_cz_157 : ew_cw 157 ∈ ew_TW := List.mem_filter.mpr ⟨ex_at_ok (i := 1276) rfl, rfl⟩
theorem ex_cz_158 : ew_cw 158 ∈ ew_TW := List.mem_filter.mpr ⟨ex_at_ok (i := 1341) rfl, rfl⟩
theorem ex_cz_159 : ew_cw 159 ∈ ew_TW := List.mem_filter.mpr ⟨ex_at_ok (i := 1369) rfl, rfl⟩
theorem ex_cz_160 : ew_cw 160 ∈ ew_TW := List.mem_filter.mpr ⟨ex_at_ok (i := 1373) rfl, rfl⟩
theorem ex_cz_161 : ew_cw 161 ∈ ew_TW := List.mem_filter.mpr ⟨ex_at_ok (i := 1389) rfl, rfl⟩
theorem ex_cz_162 : ew_cw 162 ∈ ew_TW := List.mem_filter.mpr ⟨ex_at_ok (i := 1385) rfl, rfl⟩
theorem ex_cz_163 : ew_cw 163 ∈ ew_TW := List.mem_filter.mpr ⟨ex_at_ok (i := 1403) rfl, rfl⟩
theorem ex_cz_164 : ew_cw 164 ∈ ew_TW := List.mem_filter.mpr ⟨ex_at_ok (i := 1413) rfl, rfl⟩
theorem ex_cz_165 : ew_cw 165 ∈ ew_TW := List.mem_filter.mpr ⟨ex_at_ok (i := 1418) rfl, rfl⟩
theorem ex_cz_166 : ew_cw 166 ∈ ew_TW := List.mem_filter.mpr ⟨ex_at_ok (i := 1510) rfl, rfl⟩
theorem ex_cz_167 : ew_cw 167 ∈ ew_TW := List.mem_filter.mpr ⟨ex_at_ok (i := 1506) rfl, rfl⟩
theorem ex_cz_168 : ew_cw 168 ∈ ew_TW := List.mem_filter.mpr ⟨ex_at_ok (i := 1523) rfl, rfl⟩
theorem ex_cz_169 : ew_cw 169 ∈ ew_TW := List.mem_filter.mpr ⟨ex_at_ok (i := 1519) rfl, rfl⟩
theorem ex_cz_170 : ew_cw 170 ∈ ew_TW := List.mem_filter.mpr ⟨ex_at_ok (i := 1515) rfl, rfl⟩
theorem ex_cz_171 : ew_cw 171 ∈ ew_TW := List.mem_filter.mpr ⟨ex_at_ok (i := 1531) rfl, rfl⟩
theorem ex_cz_172 : ew_cw 172 ∈ ew_TW := List.mem_filter.mpr ⟨ex_at_ok (i := 1527) rfl, rfl⟩
theorem ex_cz_173 : ew_cw 173 ∈ ew_TW := List.mem_filter.mpr ⟨ex_at_ok (i := 1535) rfl, rfl⟩
theorem ex_cz_174 : ew_cw 174 ∈ ew_TW := List.mem_filter.mpr ⟨ex_at_ok (i := 1544) rfl, rfl⟩
theorem ex_cz_175 : ew_cw 175 ∈ ew_TW := List.mem_filter.mpr ⟨ex_at_ok (i := 1540) rfl, rfl⟩
theorem ex_cz_176 : ew_cw 176 ∈ ew_TW := List.mem_filter.mpr ⟨ex_at_ok (i := 1556) rfl, rfl⟩
theorem ex_cz_177 : ew_cw 177 ∈ ew_TW := List.mem_filter.mpr ⟨ex_at_ok (i := 1560) rfl, rfl⟩
theorem ex_cz_178 : ew_cw 178 ∈ ew_TW := List.mem_filter.mpr ⟨ex_at_ok (i := 1576) rfl, rfl⟩
theorem ex_cz_179 : ew_cw 179 ∈ ew_TW := List.mem_filter.mpr ⟨ex_at_ok (i := 1589) rfl, rfl⟩
theorem ex_cz_180 : ew_cw 180 ∈ ew_TW := List.mem_filter.mpr ⟨ex_at_ok (i := 1585) rfl, rfl⟩
theorem ex_cz_181 : ew_cw 181 ∈ ew_TW := List.mem_filter.mpr ⟨ex_at_ok (i := 1598) rfl, rfl⟩
theorem ex_cz_182 : ew_cw 182 ∈ ew_TW := List.mem_filter.mpr ⟨ex_at_ok (i := 1594) rfl, rfl⟩
theorem ex_cz_183 : ew_cw 183 ∈ ew_TW := List.mem_filter.mpr ⟨ex_at_ok (i := 1642) rfl, rfl⟩
theorem ex_cz_184 : ew_cw 184 ∈ ew_TW := List.mem_filter.mpr ⟨ex_at_ok (i := 1638) rfl, rfl⟩
theorem ex_cz_185 : ew_cw 185 ∈ ew_TW := List.mem_filter.mpr ⟨ex_at_ok (i := 1348) rfl, rfl⟩
theorem ex_cz_187 : ew_cw 187 ∈ ew_TW := List.mem_filter.mpr ⟨ex_at_ok (i := 1453) rfl, rfl⟩
theorem ex_cz_191 : ew_cw 191 ∈ ew_TW := List.mem_filter.mpr ⟨ex_at_ok (i := 1360) rfl, rfl⟩
theorem ex_cz_192 : ew_cw 192 ∈ ew_TW := List.mem_filter.mpr ⟨ex_at_ok (i := 963) rfl, rfl⟩
theorem ex_cz_193 : ew_cw 193 ∈ ew_TW := List.mem_filter.mpr ⟨ex_at_ok (i := 960) rfl, rfl⟩
theorem ex_cz_194 : ew_cw 194 ∈ ew_TW := List.mem_filter.mpr ⟨ex_at_ok (i := 1064) rfl, rfl⟩
theorem ex_cz_195 : ew_cw 195 ∈ ew_TW := List.mem_filter.mpr ⟨ex_at_ok (i := 1088) rfl, rfl⟩
theorem ex_cz_196 : ew_cw 196 ∈ ew_TW := List.mem_filter.mpr ⟨ex_at_ok (i := 1097) rfl, rfl⟩
theorem ex_cz_197 : ew_cw 197 ∈ ew_TW := List.mem_filter.mpr ⟨ex_at_ok (i := 1101) rfl, rfl⟩
theorem ex_cz_198 : ew_cw 198 ∈ ew_TW := List.mem_filter.mpr ⟨ex_at_ok (i := 957) rfl, rfl⟩
theorem ex_cz_199 : ew_cw 199 ∈ ew_TW := List.mem_filter.mpr ⟨ex_at_ok (i := 1158) rfl, rfl⟩
theorem ex_cz_200 : ew_cw 200 ∈ ew_TW := List.mem_filter.mpr ⟨ex_at_ok (i := 1154) rfl, rfl⟩
theorem ex_cz_201 : ew_cw 201 ∈ ew_TW := List.mem_filter.mpr ⟨ex_at_ok (i := 1120) rfl, rfl⟩
theorem ex_cz_202 : ew_cw 202 ∈ ew_TW := List.mem_filter.mpr ⟨ex_at_ok (i := 1447) rfl, rfl⟩
theorem ex_cz_203 : ew_cw 203 ∈ ew_TW := List.mem_filter.mpr ⟨ex_at_ok (i := 1625) rfl, rfl⟩
theorem ex_cz_204 : ew_cw 204 ∈ ew_TW := List.mem_filter.mpr ⟨ex_at_ok (i := 1227) rfl, rfl⟩
theorem ex_cz_205 : ew_cw 205 ∈ ew_TW := List.mem_filter.mpr ⟨ex_at_ok (i := 1217) rfl, rfl⟩
theorem ex_cz_206 : ew_cw 206 ∈ ew_TW := List.mem_filter.mpr ⟨ex_at_ok (i := 1150) rfl, rfl⟩
theorem ex_cz_207 : ew_cw 207 ∈ ew_TW := List.mem_filter.mpr ⟨ex_at_ok (i := 1146) rfl, rfl⟩
theorem ex_cz_208 : ew_cw 208 ∈ ew_TW := List.mem_filter.mpr ⟨ex_at_ok (i := 1466) rfl, rfl⟩
theorem ex_cz_209 : ew_cw 209 ∈ ew_TW := List.mem_filter.mpr ⟨ex_at_ok (i := 1470) rfl, rfl⟩
theorem ex_cz_210 : ew_cw 210 ∈ ew_TW := List.mem_filter.mpr ⟨ex_at_ok (i := 1377) rfl, rfl⟩
theorem ex_cz_211 : ew_cw 211 ∈ ew_TW := List.mem_filter.mpr ⟨ex_at_ok (i := 1615) rfl, rfl⟩
theorem ex_cz_212 : ew_cw 212 ∈ ew_TW := List.mem_filter.mpr ⟨ex_at_ok (i := 1059) rfl, rfl⟩
theorem ex_cz_215 : ew_cw 215 ∈ ew_TW := List.mem_filter.mpr ⟨ex_at_ok (i := 1220) rfl, rfl⟩
theorem ex_cz_218 : ew_cw 218 ∈ ew_TW := List.mem_filter.mpr ⟨ex_at_ok (i := 1223) rfl, rfl⟩
theorem ex_cz_219 : ew_cv 219 ∈ ew_TW := List.mem_filter.mpr ⟨ex_at_ok (i := 732) rfl, rfl⟩
theorem ex_cz_220 : ew_cv 220 ∈ ew_TW := List.mem_filter.mpr ⟨ex_at_ok (i := 761) rfl, rfl⟩
theorem ex_cz_221 : ew_cv 221 ∈ ew_TW := List.mem_filter.mpr ⟨ex_at_ok (i := 782) rfl, rfl⟩
theorem ex_cz_222 : ew_cv 222 ∈ ew_TW := List.mem_filter.mpr ⟨ex_at_ok (i := 793) rfl, rfl⟩
theorem ex_cz_223 : ew_cv 223 ∈ ew_TW := List.mem_filter.mpr ⟨ex_at_ok (i := 804) rfl, rfl⟩
theorem ex_cz_224 : ew_cv 224 ∈ ew_TW := List.mem_filter.mpr ⟨ex_at_ok (i := 816) rfl, rfl⟩
theorem ex_cz_225 : ew_cv 225 ∈ ew_TW := List.mem_filter.mpr ⟨ex_at_ok (i := 827) rfl, rfl⟩
theorem ex_cz_226 : ew_cv 226 ∈ ew_TW := List.mem_filter.mpr ⟨ex_at_ok (i := 842) rfl, rfl⟩
theorem ex_cz_227 : ew_cv 227 ∈ ew_TW := List.mem_filter.mpr ⟨ex_at_ok (i := 857) rfl, rfl⟩
theorem ex_cz_228 : ew_cv 228 ∈ ew_TW := List.mem_filter.mpr ⟨ex_at_ok (i := 864) rfl, rfl⟩
theorem ex_cz_229 : ew_cv 229 ∈ ew_TW := List.mem_filter.mpr ⟨ex_at_ok (i := 873) rfl, rfl⟩
theorem ex_cz_230 : ew_cv 230 ∈ ew_TW := List.mem_filter.mpr ⟨ex_at_ok (i := 885) rfl, rfl⟩
theorem ex_cz_231 : ew_cv 231 ∈ ew_TW := List.mem_filter.mpr ⟨ex_at_ok (i := 892) rfl, rfl⟩
theorem ex_cz_232 : ew_cv 232 ∈ ew_TW := List.mem_filter.mpr ⟨ex_at_ok (i := 900) rfl, rfl⟩
theorem ex_cz_233 : ew_cv 233 ∈ ew_TW := List.mem_filter.mpr ⟨ex_at_ok (i := 907) rfl, rfl⟩
theorem ex_cz_234 : ew_cv 234 ∈ ew_TW := List.mem_filter.mpr ⟨ex_at_ok (i := 911) rfl, rfl⟩
theorem ex_cz_235 : ew_cv 235 ∈ ew_TW := List.mem_filter.mpr ⟨ex_at_ok (i := 915) rfl, rfl⟩
theorem ex_cz_236 : ew_cv 236 ∈ ew_TW := List.mem_filter.mpr ⟨ex_at_ok (i := 919) rfl, rfl⟩
theorem ex_cz_237 : ew_cv 237 ∈ ew_TW := List.mem_filter.mpr ⟨ex_at_ok (i := 923) rfl, rfl⟩
theorem ex_cz_238 : ew_cv 238 ∈ ew_TW := List.mem_filter.mpr ⟨ex_at_ok (i := 927) rfl, rfl⟩
theorem ex_cz_239 : ew_cv 239 ∈ ew_TW := List.mem_filter.mpr ⟨ex_at_ok (i := 931) rfl, rfl⟩
theorem ex_cz_240 : ew_cv 240 ∈ ew_TW := List.mem_filter.mpr ⟨ex_at_ok (i := 935) rfl, rfl⟩
theorem ex_cz_241 : ew_cv 241 ∈ ew_TW := List.mem_filter.mpr ⟨ex_at_ok (i := 939) rfl, rfl⟩
theorem ex_cz_ok (z : Nat) (hz : z < 243) (hu : ex_us z = true) : (et_wr z = false → ew_cw z ∈ ew_TW) ∧ (et_wr z = true → ew_cv z ∈ ew_TW) := by
  by_cases h0_243 : z < 121
  · skip
    by_cases h0_121 : z < 60
    · skip
      by_cases h0_60 : z < 30
      · skip
        by_cases h0_30 : z < 15
        · skip
          by_cases h0_15 : z < 7
          · skip
            by_cases h0_7 : z < 3
            · skip
              by_cases h0_3 : z < 1
              · skip
                obtain rfl : z = 0 := by omega
                exact ⟨fun _ => ex_cz_0, fun h => absurd h (by decide +kernel)⟩
              · skip
                by_cases h1_3 : z < 2
                · skip
                  obtain rfl : z = 1 := by omega
                  exact ⟨fun _ => ex_cz_1, fun h => absurd h (by decide +kernel)⟩
                · skip
                  obtain rfl : z = 2 := by omega
                  exact ⟨fun _ => ex_cz_2, fun h => absurd h (by decide +kernel)⟩
            · skip
              by_cases h3_7 : z < 5
              · skip
                by_cases h3_5 : z < 4
                · skip
                  obtain rfl : z = 3 := by omega
                  exact ⟨fun _ => ex_cz_3, fun h => absurd h (by decide +kernel)⟩
                · skip
                  obtain rfl : z = 4 := by omega
                  exact ⟨fun _ => ex_cz_4, fun h => absurd h (by decide +kernel)⟩
              · skip
                by_cases h5_7 : z < 6
                · skip
                  obtain rfl : z = 5 := by omega
                  exact ⟨fun _ => ex_cz_5, fun h => absurd h (by decide +kernel)⟩
                · skip
                  obtain rfl : z = 6 := by omega
                  exact ⟨fun _ => ex_cz_6, fun h => absurd h (by decide +kernel)⟩
          · skip
            by_cases h7_15 : z < 11
            · skip
              by_cases h7_11 : z < 9
              · skip
                by_cases h7_9 : z < 8
                · skip
                  obtain rfl : z = 7 := by omega
                  exact ⟨fun _ => ex_cz_7, fun h => absurd h (by decide +kernel)⟩
                · skip
                  obtain rfl : z = 8 := by omega
                  exact ⟨fun _ => ex_cz_8, fun h => absurd h (by decide +kernel)⟩
              · skip
                by_cases h9_11 : z < 10
                · skip
                  obtain rfl : z = 9 := by omega
                  exact ⟨fun _ => ex_cz_9, fun h => absurd h (by decide +kernel)⟩
                · skip
                  obtain rfl : z = 10 := by omega
                  exact ⟨fun _ => ex_cz_10, fun h => absurd h (by decide +kernel)⟩
            · skip
              by_cases h11_15 : z < 13
              · skip
                by_cases h11_13 : z < 12
                · skip
                  obtain rfl : z = 11 := by omega
                  exact ⟨fun _ => ex_cz_11, fun h => absurd h (by decide +kernel)⟩
                · skip
                  obtain rfl : z = 12 := by omega
                  exact ⟨fun _ => ex_cz_12, fun h => absurd h (by decide +kernel)⟩
              · skip
                by_cases h13_15 : z < 14
                · skip
                  obtain rfl : z = 13 := by omega
                  exact ⟨fun _ => ex_cz_13, fun h => absurd h (by decide +kernel)⟩
                · skip
                  obtain rfl : z = 14 := by omega
                  exact ⟨fun _ => ex_cz_14, fun h => absurd h (by decide +kernel)⟩
        · skip
          by_cases h15_30 : z < 22
          · skip
            by_cases h15_22 : z < 18
            · skip
              by_cases h15_18 : z < 16
              · skip
                obtain rfl : z = 15 := by omega
                exact ⟨fun _ => ex_cz_15, fun h => absurd h (by decide +kernel)⟩
              · skip
                by_cases h16_18 : z < 17
                · skip
                  obtain rfl : z = 16 := by omega
                  exact ⟨fun _ => ex_cz_16, fun h => absurd h (by decide +kernel)⟩
                · skip
                  obtain rfl : z = 17 := by omega
                  exact ⟨fun _ => ex_cz_17, fun h => absurd h (by decide +kernel)⟩
            · skip
              by_cases h18_22 : z < 20
              · skip
                by_cases h18_20 : z < 19
                · skip
                  obtain rfl : z = 18 := by omega
                  exact ⟨fun _ => ex_cz_18, fun h => absurd h (by decide +kernel)⟩
                · skip
                  obtain rfl : z = 19 := by omega
                  exact ⟨fun _ => ex_cz_19, fun h => absurd h (by decide +kernel)⟩
              · skip
                by_cases h20_22 : z < 21
                · skip
                  obtain rfl : z = 20 := by omega
                  exact ⟨fun _ => ex_cz_20, fun h => absurd h (by decide +kernel)⟩
                · skip
                  obtain rfl : z = 21 := by omega
                  exact ⟨fun _ => ex_cz_21, fun h => absurd h (by decide +kernel)⟩
          · skip
            by_cases h22_30 : z < 26
            · skip
              by_cases h22_26 : z < 24
              · skip
                by_cases h22_24 : z < 23
                · skip
                  obtain rfl : z = 22 := by omega
                  exact ⟨fun _ => ex_cz_22, fun h => absurd h (by decide +kernel)⟩
                · skip
                  obtain rfl : z = 23 := by omega
                  exact ⟨fun _ => ex_cz_23, fun h => absurd h (by decide +kernel)⟩
              · skip
                by_cases h24_26 : z < 25
                · skip
                  obtain rfl : z = 24 := by omega
                  exact ⟨fun _ => ex_cz_24, fun h => absurd h (by decide +kernel)⟩
                · skip
                  obtain rfl : z = 25 := by omega
                  exact ⟨fun _ => ex_cz_25, fun h => absurd h (by decide +kernel)⟩
            · skip
              by_cases h26_30 : z < 28
              · skip
                by_cases h26_28 : z < 27
                · skip
                  obtain rfl : z = 26 := by omega
                  exact ⟨fun _ => ex_cz_26, fun h => absurd h (by decide +kernel)⟩
                · skip
                  obtain rfl : z = 27 := by omega
                  exact ⟨fun _ => ex_cz_27, fun h => absurd h (by decide +kernel)⟩
              · skip
                by_cases h28_30 : z < 29
                · skip
                  obtain rfl : z = 28 := by omega
                  exact ⟨fun _ => ex_cz_28, fun h => absurd h (by decide +kernel)⟩
                · skip
                  obtain rfl : z = 29 := by omega
                  exact ⟨fun _ => ex_cz_29, fun h => absurd h (by decide +kernel)⟩
      · skip
        by_cases h30_60 : z < 45
        · skip
          by_cases h30_45 : z < 37
          · skip
            by_cases h30_37 : z < 33
            · skip
              by_cases h30_33 : z < 31
              · skip
                obtain rfl : z = 30 := by omega
                exact ⟨fun _ => ex_cz_30, fun h => absurd h (by decide +kernel)⟩
              · skip
                by_cases h31_33 : z < 32
                · skip
                  obtain rfl : z = 31 := by omega
                  exact ⟨fun _ => ex_cz_31, fun h => absurd h (by decide +kernel)⟩
                · skip
                  obtain rfl : z = 32 := by omega
                  exact ⟨fun _ => ex_cz_32, fun h => absurd h (by decide +kernel)⟩
            · skip
              by_cases h33_37 : z < 35
              · skip
                by_cases h33_35 : z < 34
                · skip
                  obtain rfl : z = 33 := by omega
                  exact ⟨fun _ => ex_cz_33, fun h => absurd h (by decide +kernel)⟩
                · skip
                  obtain rfl : z = 34 := by omega
                  exact ⟨fun _ => ex_cz_34, fun h => absurd h (by decide +kernel)⟩
              · skip
                by_cases h35_37 : z < 36
                · skip
                  obtain rfl : z = 35 := by omega
                  exact ⟨fun _ => ex_cz_35, fun h => absurd h (by decide +kernel)⟩
                · skip
                  obtain rfl : z = 36 := by omega
                  exact ⟨fun _ => ex_cz_36, fun h => absurd h (by decide +kernel)⟩
          · skip
            by_cases h37_45 : z < 41
            · skip
              by_cases h37_41 : z < 39
              · skip
                by_cases h37_39 : z < 38
                · skip
                  obtain rfl : z = 37 := by omega
                  exact ⟨fun _ => ex_cz_37, fun h => absurd h (by decide +kernel)⟩
                · skip
                  obtain rfl : z = 38 := by omega
                  exact ⟨fun _ => ex_cz_38, fun h => absurd h (by decide +kernel)⟩
              · skip
                by_cases h39_41 : z < 40
                · skip
                  obtain rfl : z = 39 := by omega
                  exact ⟨fun _ => ex_cz_39, fun h => absurd h (by decide +kernel)⟩
                · skip
                  obtain rfl : z = 40 := by omega
                  exact ⟨fun _ => ex_cz_40, fun h => absurd h (by decide +kernel)⟩
            · skip
              by_cases h41_45 : z < 43
              · skip
                by_cases h41_43 : z < 42
                · skip
                  obtain rfl : z = 41 := by omega
                  exact ⟨fun _ => ex_cz_41, fun h => absurd h (by decide +kernel)⟩
                · skip
                  obtain rfl : z = 42 := by omega
                  exact ⟨fun _ => ex_cz_42, fun h => absurd h (by decide +kernel)⟩
              · skip
                by_cases h43_45 : z < 44
                · skip
                  obtain rfl : z = 43 := by omega
                  exact ⟨fun _ => ex_cz_43, fun h => absurd h (by decide +kernel)⟩
                · skip
                  obtain rfl : z = 44 := by omega
                  exact ⟨fun _ => ex_cz_44, fun h => absurd h (by decide +kernel)⟩
        · skip
          by_cases h45_60 : z < 52
          · skip
            by_cases h45_52 : z < 48
            · skip
              by_cases h45_48 : z < 46
              · skip
                obtain rfl : z = 45 := by omega
                exact ⟨fun _ => ex_cz_45, fun h => absurd h (by decide +kernel)⟩
              · skip
                by_cases h46_48 : z < 47
                · skip
                  obtain rfl : z = 46 := by omega
                  exact ⟨fun _ => ex_cz_46, fun h => absurd h (by decide +kernel)⟩
                · skip
                  obtain rfl : z = 47 := by omega
                  exact ⟨fun _ => ex_cz_47, fun h => absurd h (by decide +kernel)⟩
            · skip
              by_cases h48_52 : z < 50
              · skip
                by_cases h48_50 : z < 49
                · skip
                  obtain rfl : z = 48 := by omega
                  exact ⟨fun _ => ex_cz_48, fun h => absurd h (by decide +kernel)⟩
                · skip
                  obtain rfl : z = 49 := by omega
                  exact ⟨fun _ => ex_cz_49, fun h => absurd h (by decide +kernel)⟩
              · skip
                by_cases h50_52 : z < 51
                · skip
                  obtain rfl : z = 50 := by omega
                  exact ⟨fun _ => ex_cz_50, fun h => absurd h (by decide +kernel)⟩
                · skip
                  obtain rfl : z = 51 := by omega
                  exact ⟨fun _ => ex_cz_51, fun h => absurd h (by decide +kernel)⟩
          · skip
            by_cases h52_60 : z < 56
            · skip
              by_cases h52_56 : z < 54
              · skip
                by_cases h52_54 : z < 53
                · skip
                  obtain rfl : z = 52 := by omega
                  exact ⟨fun _ => ex_cz_52, fun h => absurd h (by decide +kernel)⟩
                · skip
                  obtain rfl : z = 53 := by omega
                  exact ⟨fun _ => ex_cz_53, fun h => absurd h (by decide +kernel)⟩
              · skip
                by_cases h54_56 : z < 55
                · skip
                  obtain rfl : z = 54 := by omega
                  exact ⟨fun _ => ex_cz_54, fun h => absurd h (by decide +kernel)⟩
                · skip
                  obtain rfl : z = 55 := by omega
                  exact ⟨fun _ => ex_cz_55, fun h => absurd h (by decide +kernel)⟩
            · skip
              by_cases h56_60 : z < 58
              · skip
                by_cases h56_58 : z < 57
                · skip
                  obtain rfl : z = 56 := by omega
                  exact ⟨fun _ => ex_cz_56, fun h => absurd h (by decide +kernel)⟩
                · skip
                  obtain rfl : z = 57 := by omega
                  exact ⟨fun _ => ex_cz_57, fun h => absurd h (by decide +kernel)⟩
              · skip
                by_cases h58_60 : z < 59
                · skip
                  obtain rfl : z = 58 := by omega
                  exact ⟨fun _ => ex_cz_58, fun h => absurd h (by decide +kernel)⟩
                · skip
                  obtain rfl : z = 59 := by omega
                  exact ⟨fun _ => ex_cz_59, fun h => absurd h (by decide +kernel)⟩
    · skip
      by_cases h60_121 : z < 90
      · skip
        by_cases h60_90 : z < 75
        · skip
          by_cases h60_75 : z < 67
          · skip
            by_cases h60_67 : z < 63
            · skip
              by_cases h60_63 : z < 61
              · skip
                obtain rfl : z = 60 := by omega
                exact ⟨fun _ => ex_cz_60, fun h => absurd h (by decide +kernel)⟩
              · skip
                by_cases h61_63 : z < 62
                · skip
                  obtain rfl : z = 61 := by omega
                  exact ⟨fun _ => ex_cz_61, fun h => absurd h (by decide +kernel)⟩
                · skip
                  obtain rfl : z = 62 := by omega
                  exact ⟨fun _ => ex_cz_62, fun h => absurd h (by decide +kernel)⟩
            · skip
              by_cases h63_67 : z < 65
              · skip
                by_cases h63_65 : z < 64
                · skip
                  obtain rfl : z = 63 := by omega
                  exact ⟨fun _ => ex_cz_63, fun h => absurd h (by decide +kernel)⟩
                · skip
                  obtain rfl : z = 64 := by omega
                  exact ⟨fun _ => ex_cz_64, fun h => absurd h (by decide +kernel)⟩
              · skip
                by_cases h65_67 : z < 66
                · skip
                  obtain rfl : z = 65 := by omega
                  exact ⟨fun _ => ex_cz_65, fun h => absurd h (by decide +kernel)⟩
                · skip
                  obtain rfl : z = 66 := by omega
                  exact ⟨fun _ => ex_cz_66, fun h => absurd h (by decide +kernel)⟩
          · skip
            by_cases h67_75 : z < 71
            · skip
              by_cases h67_71 : z < 69
              · skip
                by_cases h67_69 : z < 68
                · skip
                  obtain rfl : z = 67 := by omega
                  exact ⟨fun _ => ex_cz_67, fun h => absurd h (by decide +kernel)⟩
                · skip
                  obtain rfl : z = 68 := by omega
                  exact ⟨fun _ => ex_cz_68, fun h => absurd h (by decide +kernel)⟩
              · skip
                by_cases h69_71 : z < 70
                · skip
                  obtain rfl : z = 69 := by omega
                  exact ⟨fun _ => ex_cz_69, fun h => absurd h (by decide +kernel)⟩
                · skip
                  obtain rfl : z = 70 := by omega
                  exact ⟨fun _ => ex_cz_70, fun h => absurd h (by decide +kernel)⟩
            · skip
              by_cases h71_75 : z < 73
              · skip
                by_cases h71_73 : z < 72
                · skip
                  obtain rfl : z = 71 := by omega
                  exact ⟨fun _ => ex_cz_71, fun h => absurd h (by decide +kernel)⟩
                · skip
                  obtain rfl : z = 72 := by omega
                  exact ⟨fun _ => ex_cz_72, fun h => absurd h (by decide +kernel)⟩
              · skip
                by_cases h73_75 : z < 74
                · skip
                  obtain rfl : z = 73 := by omega
                  exact ⟨fun _ => ex_cz_73, fun h => absurd h (by decide +kernel)⟩
                · skip
                  obtain rfl : z = 74 := by omega
                  exact ⟨fun _ => ex_cz_74, fun h => absurd h (by decide +kernel)⟩
        · skip
          by_cases h75_90 : z < 82
          · skip
            by_cases h75_82 : z < 78
            · skip
              by_cases h75_78 : z < 76
              · skip
                obtain rfl : z = 75 := by omega
                exact ⟨fun _ => ex_cz_75, fun h => absurd h (by decide +kernel)⟩
              · skip
                by_cases h76_78 : z < 77
                · skip
                  obtain rfl : z = 76 := by omega
                  exact ⟨fun _ => ex_cz_76, fun h => absurd h (by decide +kernel)⟩
                · skip
                  obtain rfl : z = 77 := by omega
                  exact ⟨fun _ => ex_cz_77, fun h => absurd h (by decide +kernel)⟩
            · skip
              by_cases h78_82 : z < 80
              · skip
                by_cases h78_80 : z < 79
                · skip
                  obtain rfl : z = 78 := by omega
                  exact ⟨fun _ => ex_cz_78, fun h => absurd h (by decide +kernel)⟩
                · skip
                  obtain rfl : z = 79 := by omega
                  exact ⟨fun _ => ex_cz_79, fun h => absurd h (by decide +kernel)⟩
              · skip
                by_cases h80_82 : z < 81
                · skip
                  obtain rfl : z = 80 := by omega
                  exact ⟨fun _ => ex_cz_80, fun h => absurd h (by decide +kernel)⟩
                · skip
                  obtain rfl : z = 81 := by omega
                  exact ⟨fun _ => ex_cz_81, fun h => absurd h (by decide +kernel)⟩
          · skip
            by_cases h82_90 : z < 86
            · skip
              by_cases h82_86 : z < 84
              · skip
                by_cases h82_84 : z < 83
                · skip
                  obtain rfl : z = 82 := by omega
                  exact ⟨fun _ => ex_cz_82, fun h => absurd h (by decide +kernel)⟩
                · skip
                  obtain rfl : z = 83 := by omega
                  exact ⟨fun _ => ex_cz_83, fun h => absurd h (by decide +kernel)⟩
              · skip
                by_cases h84_86 : z < 85
                · skip
                  obtain rfl : z = 84 := by omega
                  exact ⟨fun _ => ex_cz_84, fun h => absurd h (by decide +kernel)⟩
                · skip
                  obtain rfl : z = 85 := by omega
                  exact ⟨fun _ => ex_cz_85, fun h => absurd h (by decide +kernel)⟩
            · skip
              by_cases h86_90 : z < 88
              · skip
                by_cases h86_88 : z < 87
                · skip
                  obtain rfl : z = 86 := by omega
                  exact ⟨fun _ => ex_cz_86, fun h => absurd h (by decide +kernel)⟩
                · skip
                  obtain rfl : z = 87 := by omega
                  exact ⟨fun _ => ex_cz_87, fun h => absurd h (by decide +kernel)⟩
              · skip
                by_cases h88_90 : z < 89
                · skip
                  obtain rfl : z = 88 := by omega
                  exact ⟨fun _ => ex_cz_88, fun h => absurd h (by decide +kernel)⟩
                · skip
                  obtain rfl : z = 89 := by omega
                  exact ⟨fun _ => ex_cz_89, fun h => absurd h (by decide +kernel)⟩
      · skip
        by_cases h90_121 : z < 105
        · skip
          by_cases h90_105 : z < 97
          · skip
            by_cases h90_97 : z < 93
            · skip
              by_cases h90_93 : z < 91
              · skip
                obtain rfl : z = 90 := by omega
                exact ⟨fun _ => ex_cz_90, fun h => absurd h (by decide +kernel)⟩
              · skip
                by_cases h91_93 : z < 92
                · skip
                  obtain rfl : z = 91 := by omega
                  exact ⟨fun _ => ex_cz_91, fun h => absurd h (by decide +kernel)⟩
                · skip
                  obtain rfl : z = 92 := by omega
                  exact ⟨fun _ => ex_cz_92, fun h => absurd h (by decide +kernel)⟩
            · skip
              by_cases h93_97 : z < 95
              · skip
                by_cases h93_95 : z < 94
                · skip
                  obtain rfl : z = 93 := by omega
                  exact ⟨fun _ => ex_cz_93, fun h => absurd h (by decide +kernel)⟩
                · skip
                  obtain rfl : z = 94 := by omega
                  exact ⟨fun _ => ex_cz_94, fun h => absurd h (by decide +kernel)⟩
              · skip
                by_cases h95_97 : z < 96
                · skip
                  obtain rfl : z = 95 := by omega
                  exact ⟨fun _ => ex_cz_95, fun h => absurd h (by decide +kernel)⟩
                · skip
                  obtain rfl : z = 96 := by omega
                  exact ⟨fun _ => ex_cz_96, fun h => absurd h (by decide +kernel)⟩
          · skip
            by_cases h97_105 : z < 101
            · skip
              by_cases h97_101 : z < 99
              · skip
                by_cases h97_99 : z < 98
                · skip
                  obtain rfl : z = 97 := by omega
                  exact ⟨fun _ => ex_cz_97, fun h => absurd h (by decide +kernel)⟩
                · skip
                  obtain rfl : z = 98 := by omega
                  exact ⟨fun _ => ex_cz_98, fun h => absurd h (by decide +kernel)⟩
              · skip
                by_cases h99_101 : z < 100
                · skip
                  obtain rfl : z = 99 := by omega
                  exact ⟨fun _ => ex_cz_99, fun h => absurd h (by decide +kernel)⟩
                · skip
                  obtain rfl : z = 100 := by omega
                  exact ⟨fun _ => ex_cz_100, fun h => absurd h (by decide +kernel)⟩
            · skip
              by_cases h101_105 : z < 103
              · skip
                by_cases h101_103 : z < 102
                · skip
                  obtain rfl : z = 101 := by omega
                  exact ⟨fun _ => ex_cz_101, fun h => absurd h (by decide +kernel)⟩
                · skip
                  obtain rfl : z = 102 := by omega
                  exact ⟨fun _ => ex_cz_102, fun h => absurd h (by decide +kernel)⟩
              · skip
                by_cases h103_105 : z < 104
                · skip
                  obtain rfl : z = 103 := by omega
                  exact ⟨fun _ => ex_cz_103, fun h => absurd h (by decide +kernel)⟩
                · skip
                  obtain rfl : z = 104 := by omega
                  exact ⟨fun _ => ex_cz_104, fun h => absurd h (by decide +kernel)⟩
        · skip
          by_cases h105_121 : z < 113
          · skip
            by_cases h105_113 : z < 109
            · skip
              by_cases h105_109 : z < 107
              · skip
                by_cases h105_107 : z < 106
                · skip
                  obtain rfl : z = 105 := by omega
                  exact ⟨fun _ => ex_cz_105, fun h => absurd h (by decide +kernel)⟩
                · skip
                  obtain rfl : z = 106 := by omega
                  exact ⟨fun _ => ex_cz_106, fun h => absurd h (by decide +kernel)⟩
              · skip
                by_cases h107_109 : z < 108
                · skip
                  obtain rfl : z = 107 := by omega
                  exact ⟨fun _ => ex_cz_107, fun h => absurd h (by decide +kernel)⟩
                · skip
                  obtain rfl : z = 108 := by omega
                  exact ⟨fun _ => ex_cz_108, fun h => absurd h (by decide +kernel)⟩
            · skip
              by_cases h109_113 : z < 111
              · skip
                by_cases h109_111 : z < 110
                · skip
                  obtain rfl : z = 109 := by omega
                  exact ⟨fun _ => ex_cz_109, fun h => absurd h (by decide +kernel)⟩
                · skip
                  obtain rfl : z = 110 := by omega
                  exact ⟨fun _ => ex_cz_110, fun h => absurd h (by decide +kernel)⟩
              · skip
                by_cases h111_113 : z < 112
                · skip
                  obtain rfl : z = 111 := by omega
                  exact ⟨fun _ => ex_cz_111, fun h => absurd h (by decide +kernel)⟩
                · skip
                  obtain rfl : z = 112 := by omega
                  exact ⟨fun _ => ex_cz_112, fun h => absurd h (by decide +kernel)⟩
          · skip
            by_cases h113_121 : z < 117
            · skip
              by_cases h113_117 : z < 115
              · skip
                by_cases h113_115 : z < 114
                · skip
                  obtain rfl : z = 113 := by omega
                  exact ⟨fun _ => ex_cz_113, fun h => absurd h (by decide +kernel)⟩
                · skip
                  obtain rfl : z = 114 := by omega
                  exact ⟨fun _ => ex_cz_114, fun h => absurd h (by decide +kernel)⟩
              · skip
                by_cases h115_117 : z < 116
                · skip
                  obtain rfl : z = 115 := by omega
                  exact ⟨fun _ => ex_cz_115, fun h => absurd h (by decide +kernel)⟩
                · skip
                  obtain rfl : z = 116 := by omega
                  exact ⟨fun _ => ex_cz_116, fun h => absurd h (by decide +kernel)⟩
            · skip
              by_cases h117_121 : z < 119
              · skip
                by_cases h117_119 : z < 118
                · skip
                  obtain rfl : z = 117 := by omega
                  exact ⟨fun _ => ex_cz_117, fun h => absurd h (by decide +kernel)⟩
                · skip
                  obtain rfl : z = 118 := by omega
                  exact ⟨fun _ => ex_cz_118, fun h => absurd h (by decide +kernel)⟩
              · skip
                by_cases h119_121 : z < 120
                · skip
                  obtain rfl : z = 119 := by omega
                  exact ⟨fun _ => ex_cz_119, fun h => absurd h (by decide +kernel)⟩
                · skip
                  obtain rfl : z = 120 := by omega
                  exact ⟨fun _ => ex_cz_120, fun h => absurd h (by decide +kernel)⟩
  · skip
    by_cases h121_243 : z < 182
    · skip
      by_cases h121_182 : z < 151
      · skip
        by_cases h121_151 : z < 136
        · skip
          by_cases h121_136 : z < 128
          · skip
            by_cases h121_128 : z < 124
            · skip
              by_cases h121_124 : z < 122
              · skip
                obtain rfl : z = 121 := by omega
                exact ⟨fun _ => ex_cz_121, fun h => absurd h (by decide +kernel)⟩
              · skip
                by_cases h122_124 : z < 123
                · skip
                  obtain rfl : z = 122 := by omega
                  exact ⟨fun _ => ex_cz_122, fun h => absurd h (by decide +kernel)⟩
                · skip
                  obtain rfl : z = 123 := by omega
                  exact ⟨fun _ => ex_cz_123, fun h => absurd h (by decide +kernel)⟩
            · skip
              by_cases h124_128 : z < 126
              · skip
                by_cases h124_126 : z < 125
                · skip
                  obtain rfl : z = 124 := by omega
                  exact ⟨fun _ => ex_cz_124, fun h => absurd h (by decide +kernel)⟩
                · skip
                  obtain rfl : z = 125 := by omega
                  exact ⟨fun _ => ex_cz_125, fun h => absurd h (by decide +kernel)⟩
              · skip
                by_cases h126_128 : z < 127
                · skip
                  obtain rfl : z = 126 := by omega
                  exact ⟨fun _ => ex_cz_126, fun h => absurd h (by decide +kernel)⟩
                · skip
                  obtain rfl : z = 127 := by omega
                  exact ⟨fun _ => ex_cz_127, fun h => absurd h (by decide +kernel)⟩
          · skip
            by_cases h128_136 : z < 132
            · skip
              by_cases h128_132 : z < 130
              · skip
                by_cases h128_130 : z < 129
                · skip
                  obtain rfl : z = 128 := by omega
                  exact ⟨fun _ => ex_cz_128, fun h => absurd h (by decide +kernel)⟩
                · skip
                  obtain rfl : z = 129 := by omega
                  exact ⟨fun _ => ex_cz_129, fun h => absurd h (by decide +kernel)⟩
              · skip
                by_cases h130_132 : z < 131
                · skip
                  obtain rfl : z = 130 := by omega
                  exact ⟨fun _ => ex_cz_130, fun h => absurd h (by decide +kernel)⟩
                · skip
                  obtain rfl : z = 131 := by omega
                  exact ⟨fun _ => ex_cz_131, fun h => absurd h (by decide +kernel)⟩
            · skip
              by_cases h132_136 : z < 134
              · skip
                by_cases h132_134 : z < 133
                · skip
                  obtain rfl : z = 132 := by omega
                  exact ⟨fun _ => ex_cz_132, fun h => absurd h (by decide +kernel)⟩
                · skip
                  obtain rfl : z = 133 := by omega
                  exact ⟨fun _ => ex_cz_133, fun h => absurd h (by decide +kernel)⟩
              · skip
                by_cases h134_136 : z < 135
                · skip
                  obtain rfl : z = 134 := by omega
                  exact ⟨fun _ => ex_cz_134, fun h => absurd h (by decide +kernel)⟩
                · skip
                  obtain rfl : z = 135 := by omega
                  exact ⟨fun _ => ex_cz_135, fun h => absurd h (by decide +kernel)⟩
        · skip
          by_cases h136_151 : z < 143
          · skip
            by_cases h136_143 : z < 139
            · skip
              by_cases h136_139 : z < 137
              · skip
                obtain rfl : z = 136 := by omega
                exact ⟨fun _ => ex_cz_136, fun h => absurd h (by decide +kernel)⟩
              · skip
                by_cases h137_139 : z < 138
                · skip
                  obtain rfl : z = 137 := by omega
                  exact ⟨fun _ => ex_cz_137, fun h => absurd h (by decide +kernel)⟩
                · skip
                  obtain rfl : z = 138 := by omega
                  exact ⟨fun _ => ex_cz_138, fun h => absurd h (by decide +kernel)⟩
            · skip
              by_cases h139_143 : z < 141
              · skip
                by_cases h139_141 : z < 140
                · skip
                  obtain rfl : z = 139 := by omega
                  exact ⟨fun _ => ex_cz_139, fun h => absurd h (by decide +kernel)⟩
                · skip
                  obtain rfl : z = 140 := by omega
                  exact ⟨fun _ => ex_cz_140, fun h => absurd h (by decide +kernel)⟩
              · skip
                by_cases h141_143 : z < 142
                · skip
                  obtain rfl : z = 141 := by omega
                  exact ⟨fun _ => ex_cz_141, fun h => absurd h (by decide +kernel)⟩
                · skip
                  obtain rfl : z = 142 := by omega
                  exact ⟨fun _ => ex_cz_142, fun h => absurd h (by decide +kernel)⟩
          · skip
            by_cases h143_151 : z < 147
            · skip
              by_cases h143_147 : z < 145
              · skip
                by_cases h143_145 : z < 144
                · skip
                  obtain rfl : z = 143 := by omega
                  exact ⟨fun _ => ex_cz_143, fun h => absurd h (by decide +kernel)⟩
                · skip
                  obtain rfl : z = 144 := by omega
                  exact ⟨fun _ => ex_cz_144, fun h => absurd h (by decide +kernel)⟩
              · skip
                by_cases h145_147 : z < 146
                · skip
                  obtain rfl : z = 145 := by omega
                  exact ⟨fun _ => ex_cz_145, fun h => absurd h (by decide +kernel)⟩
                · skip
                  obtain rfl : z = 146 := by omega
                  exact ⟨fun _ => ex_cz_146, fun h => absurd h (by decide +kernel)⟩
            · skip
              by_cases h147_151 : z < 149
              · skip
                by_cases h147_149 : z < 148
                · skip
                  obtain rfl : z = 147 := by omega
                  exact ⟨fun _ => ex_cz_147, fun h => absurd h (by decide +kernel)⟩
                · skip
                  obtain rfl : z = 148 := by omega
                  exact ⟨fun _ => ex_cz_148, fun h => absurd h (by decide +kernel)⟩
              · skip
                by_cases h149_151 : z < 150
                · skip
                  obtain rfl : z = 149 := by omega
                  exact ⟨fun _ => ex_cz_149, fun h => absurd h (by decide +kernel)⟩
                · skip
                  obtain rfl : z = 150 := by omega
                  exact ⟨fun _ => ex_cz_150, fun h => absurd h (by decide +kernel)⟩
      · skip
        by_cases h151_182 : z < 166
        · skip
          by_cases h151_166 : z < 158
          · skip
            by_cases h151_158 : z < 154
            · skip
              by_cases h151_154 : z < 152
              · skip
                obtain rfl : z = 151 := by omega
                exact ⟨fun _ => ex_cz_151, fun h => absurd h (by decide +kernel)⟩
              · skip
                by_cases h152_154 : z < 153
                · skip
                  obtain rfl : z = 152 := by omega
                  exact ⟨fun _ => ex_cz_152, fun h => absurd h (by decide +kernel)⟩
                · skip
                  obtain rfl : z = 153 := by omega
                  exact ⟨fun _ => ex_cz_153, fun h => absurd h (by decide +kernel)⟩
            · skip
              by_cases h154_158 : z < 156
              · skip
                by_cases h154_156 : z < 155
                · skip
                  obtain rfl : z = 154 := by omega
                  exact ⟨fun _ => ex_cz_154, fun h => absurd h (by decide +kernel)⟩
                · skip
                  obtain rfl : z = 155 := by omega
                  exact ⟨fun _ => ex_cz_155, fun h => absurd h (by decide +kernel)⟩
              · skip
                by_cases h156_158 : z < 157
                · skip
                  obtain rfl : z = 156 := by omega
                  exact ⟨fun _ => ex_cz_156, fun h => absurd h (by decide +kernel)⟩
                · skip
                  obtain rfl : z = 157 := by omega
                  exact ⟨fun _ => ex_cz_157, fun h => absurd h (by decide +kernel)⟩
          · skip
            by_cases h158_166 : z < 162
            · skip
              by_cases h158_162 : z < 160
              · skip
                by_cases h158_160 : z < 159
                · skip
                  obtain rfl : z = 158 := by omega
                  exact ⟨fun _ => ex_cz_158, fun h => absurd h (by decide +kernel)⟩
                · skip
                  obtain rfl : z = 159 := by omega
                  exact ⟨fun _ => ex_cz_159, fun h => absurd h (by decide +kernel)⟩
              · skip
                by_cases h160_162 : z < 161
                · skip
                  obtain rfl : z = 160 := by omega
                  exact ⟨fun _ => ex_cz_160, fun h => absurd h (by decide +kernel)⟩
                · skip
                  obtain rfl : z = 161 := by omega
                  exact ⟨fun _ => ex_cz_161, fun h => absurd h (by decide +kernel)⟩
            · skip
              by_cases h162_166 : z < 164
              · skip
                by_cases h162_164 : z < 163
                · skip
                  obtain rfl : z = 162 := by omega
                  exact ⟨fun _ => ex_cz_162, fun h => absurd h (by decide +kernel)⟩
                · skip
                  obtain rfl : z = 163 := by omega
                  exact ⟨fun _ => ex_cz_163, fun h => absurd h (by decide +kernel)⟩
              · skip
                by_cases h164_166 : z < 165
                · skip
                  obtain rfl : z = 164 := by omega
                  exact ⟨fun _ => ex_cz_164, fun h => absurd h (by decide +kernel)⟩
                · skip
                  obtain rfl : z = 165 := by omega
                  exact ⟨fun _ => ex_cz_165, fun h => absurd h (by decide +kernel)⟩
        · skip
          by_cases h166_182 : z < 174
          · skip
            by_cases h166_174 : z < 170
            · skip
              by_cases h166_170 : z < 168
              · skip
                by_cases h166_168 : z < 167
                · skip
                  obtain rfl : z = 166 := by omega
                  exact ⟨fun _ => ex_cz_166, fun h => absurd h (by decide +kernel)⟩
                · skip
                  obtain rfl : z = 167 := by omega
                  exact ⟨fun _ => ex_cz_167, fun h => absurd h (by decide +kernel)⟩
              · skip
                by_cases h168_170 : z < 169
                · skip
                  obtain rfl : z = 168 := by omega
                  exact ⟨fun _ => ex_cz_168, fun h => absurd h (by decide +kernel)⟩
                · skip
                  obtain rfl : z = 169 := by omega
                  exact ⟨fun _ => ex_cz_169, fun h => absurd h (by decide +kernel)⟩
            · skip
              by_cases h170_174 : z < 172
              · skip
                by_cases h170_172 : z < 171
                · skip
                  obtain rfl : z = 170 := by omega
                  exact ⟨fun _ => ex_cz_170, fun h => absurd h (by decide +kernel)⟩
                · skip
                  obtain rfl : z = 171 := by omega
                  exact ⟨fun _ => ex_cz_171, fun h => absurd h (by decide +kernel)⟩
              · skip
                by_cases h172_174 : z < 173
                · skip
                  obtain rfl : z = 172 := by omega
                  exact ⟨fun _ => ex_cz_172, fun h => absurd h (by decide +kernel)⟩
                · skip
                  obtain rfl : z = 173 := by omega
                  exact ⟨fun _ => ex_cz_173, fun h => absurd h (by decide +kernel)⟩
          · skip
            by_cases h174_182 : z < 178
            · skip
              by_cases h174_178 : z < 176
              · skip
                by_cases h174_176 : z < 175
                · skip
                  obtain rfl : z = 174 := by omega
                  exact ⟨fun _ => ex_cz_174, fun h => absurd h (by decide +kernel)⟩
                · skip
                  obtain rfl : z = 175 := by omega
                  exact ⟨fun _ => ex_cz_175, fun h => absurd h (by decide +kernel)⟩
              · skip
                by_cases h176_178 : z < 177
                · skip
                  obtain rfl : z = 176 := by omega
                  exact ⟨fun _ => ex_cz_176, fun h => absurd h (by decide +kernel)⟩
                · skip
                  obtain rfl : z = 177 := by omega
                  exact ⟨fun _ => ex_cz_177, fun h => absurd h (by decide +kernel)⟩
            · skip
              by_cases h178_182 : z < 180
              · skip
                by_cases h178_180 : z < 179
                · skip
                  obtain rfl : z = 178 := by omega
                  exact ⟨fun _ => ex_cz_178, fun h => absurd h (by decide +kernel)⟩
                · skip
                  obtain rfl : z = 179 := by omega
                  exact ⟨fun _ => ex_cz_179, fun h => absurd h (by decide +kernel)⟩
              · skip
                by_cases h180_182 : z < 181
                · skip
                  obtain rfl : z = 180 := by omega
                  exact ⟨fun _ => ex_cz_180, fun h => absurd h (by decide +kernel)⟩
                · skip
                  obtain rfl : z = 181 := by omega
                  exact ⟨fun _ => ex_cz_181, fun h => absurd h (by decide +kernel)⟩
    · skip
      by_cases h182_243 : z < 212
      · skip
        by_cases h182_212 : z < 197
        · skip
          by_cases h182_197 : z < 189
          · skip
            by_cases h182_189 : z < 185
            · skip
              by_cases h182_185 : z < 183
              · skip
                obtain rfl : z = 182 := by omega
                exact ⟨fun _ => ex_cz_182, fun h => absurd h (by decide +kernel)⟩
              · skip
                by_cases h183_185 : z < 184
                · skip
                  obtain rfl : z = 183 := by omega
                  exact ⟨fun _ => ex_cz_183, fun h => absurd h (by decide +kernel)⟩
                · skip
                  obtain rfl : z = 184 := by omega
                  exact ⟨fun _ => ex_cz_184, fun h => absurd h (by decide +kernel)⟩
            · skip
              by_cases h185_189 : z < 187
              · skip
                by_cases h185_187 : z < 186
                · skip
                  obtain rfl : z = 185 := by omega
                  exact ⟨fun _ => ex_cz_185, fun h => absurd h (by decide +kernel)⟩
                · skip
                  obtain rfl : z = 186 := by omega
                  exact absurd hu (by decide +kernel)
              · skip
                by_cases h187_189 : z < 188
                · skip
                  obtain rfl : z = 187 := by omega
                  exact ⟨fun _ => ex_cz_187, fun h => absurd h (by decide +kernel)⟩
                · skip
                  obtain rfl : z = 188 := by omega
                  exact absurd hu (by decide +kernel)
          · skip
            by_cases h189_197 : z < 193
            · skip
              by_cases h189_193 : z < 191
              · skip
                by_cases h189_191 : z < 190
                · skip
                  obtain rfl : z = 189 := by omega
                  exact absurd hu (by decide +kernel)
                · skip
                  obtain rfl : z = 190 := by omega
                  exact absurd hu (by decide +kernel)
              · skip
                by_cases h191_193 : z < 192
                · skip
                  obtain rfl : z = 191 := by omega
                  exact ⟨fun _ => ex_cz_191, fun h => absurd h (by decide +kernel)⟩
                · skip
                  obtain rfl : z = 192 := by omega
                  exact ⟨fun _ => ex_cz_192, fun h => absurd h (by decide +kernel)⟩
            · skip
              by_cases h193_197 : z < 195
              · skip
                by_cases h193_195 : z < 194
                · skip
                  obtain rfl : z = 193 := by omega
                  exact ⟨fun _ => ex_cz_193, fun h => absurd h (by decide +kernel)⟩
                · skip
                  obtain rfl : z = 194 := by omega
                  exact ⟨fun _ => ex_cz_194, fun h => absurd h (by decide +kernel)⟩
              · skip
                by_cases h195_197 : z < 196
                · skip
                  obtain rfl : z = 195 := by omega
                  exact ⟨fun _ => ex_cz_195, fun h => absurd h (by decide +kernel)⟩
                · skip
                  obtain rfl : z = 196 := by omega
                  exact ⟨fun _ => ex_cz_196, fun h => absurd h (by decide +kernel)⟩
        · skip
          by_cases h197_212 : z < 204
          · skip
            by_cases h197_204 : z < 200
            · skip
              by_cases h197_200 : z < 198
              · skip
                obtain rfl : z = 197 := by omega
                exact ⟨fun _ => ex_cz_197, fun h => absurd h (by decide +kernel)⟩
              · skip
                by_cases h198_200 : z < 199
                · skip
                  obtain rfl : z = 198 := by omega
                  exact ⟨fun _ => ex_cz_198, fun h => absurd h (by decide +kernel)⟩
                · skip
                  obtain rfl : z = 199 := by omega
                  exact ⟨fun _ => ex_cz_199, fun h => absurd h (by decide +kernel)⟩
            · skip
              by_cases h200_204 : z < 202
              · skip
                by_cases h200_202 : z < 201
                · skip
                  obtain rfl : z = 200 := by omega
                  exact ⟨fun _ => ex_cz_200, fun h => absurd h (by decide +kernel)⟩
                · skip
                  obtain rfl : z = 201 := by omega
                  exact ⟨fun _ => ex_cz_201, fun h => absurd h (by decide +kernel)⟩
              · skip
                by_cases h202_204 : z < 203
                · skip
                  obtain rfl : z = 202 := by omega
                  exact ⟨fun _ => ex_cz_202, fun h => absurd h (by decide +kernel)⟩
                · skip
                  obtain rfl : z = 203 := by omega
                  exact ⟨fun _ => ex_cz_203, fun h => absurd h (by decide +kernel)⟩
          · skip
            by_cases h204_212 : z < 208
            · skip
              by_cases h204_208 : z < 206
              · skip
                by_cases h204_206 : z < 205
                · skip
                  obtain rfl : z = 204 := by omega
                  exact ⟨fun _ => ex_cz_204, fun h => absurd h (by decide +kernel)⟩
                · skip
                  obtain rfl : z = 205 := by omega
                  exact ⟨fun _ => ex_cz_205, fun h => absurd h (by decide +kernel)⟩
              · skip
                by_cases h206_208 : z < 207
                · skip
                  obtain rfl : z = 206 := by omega
                  exact ⟨fun _ => ex_cz_206, fun h => absurd h (by decide +kernel)⟩
                · skip
                  obtain rfl : z = 207 := by omega
                  exact ⟨fun _ => ex_cz_207, fun h => absurd h (by decide +kernel)⟩
            · skip
              by_cases h208_212 : z < 210
              · skip
                by_cases h208_210 : z < 209
                · skip
                  obtain rfl : z = 208 := by omega
                  exact ⟨fun _ => ex_cz_208, fun h => absurd h (by decide +kernel)⟩
                · skip
                  obtain rfl : z = 209 := by omega
                  exact ⟨fun _ => ex_cz_209, fun h => absurd h (by decide +kernel)⟩
              · skip
                by_cases h210_212 : z < 211
                · skip
                  obtain rfl : z = 210 := by omega
                  exact ⟨fun _ => ex_cz_210, fun h => absurd h (by decide +kernel)⟩
                · skip
                  obtain rfl : z = 211 := by omega
                  exact ⟨fun _ => ex_cz_211, fun h => absurd h (by decide +kernel)⟩
      · skip
        by_cases h212_243 : z < 227
        · skip
          by_cases h212_227 : z < 219
          · skip
            by_cases h212_219 : z < 215
            · skip
              by_cases h212_215 : z < 213
              · skip
                obtain rfl : z = 212 := by omega
                exact ⟨fun _ => ex_cz_212, fun h => absurd h (by decide +kernel)⟩
              · skip
                by_cases h213_215 : z < 214
                · skip
                  obtain rfl : z = 213 := by omega
                  exact absurd hu (by decide +kernel)
                · skip
                  obtain rfl : z = 214 := by omega
                  exact absurd hu (by decide +kernel)
            · skip
              by_cases h215_219 : z < 217
              · skip
                by_cases h215_217 : z < 216
                · skip
                  obtain rfl : z = 215 := by omega
                  exact ⟨fun _ => ex_cz_215, fun h => absurd h (by decide +kernel)⟩
                · skip
                  obtain rfl : z = 216 := by omega
                  exact absurd hu (by decide +kernel)
              · skip
                by_cases h217_219 : z < 218
                · skip
                  obtain rfl : z = 217 := by omega
                  exact absurd hu (by decide +kernel)
                · skip
                  obtain rfl : z = 218 := by omega
                  exact ⟨fun _ => ex_cz_218, fun h => absurd h (by decide +kernel)⟩
          · skip
            by_cases h219_227 : z < 223
            · skip
              by_cases h219_223 : z < 221
              · skip
                by_cases h219_221 : z < 220
                · skip
                  obtain rfl : z = 219 := by omega
                  exact ⟨fun h => absurd h (by decide +kernel), fun _ => ex_cz_219⟩
                · skip
                  obtain rfl : z = 220 := by omega
                  exact ⟨fun h => absurd h (by decide +kernel), fun _ => ex_cz_220⟩
              · skip
                by_cases h221_223 : z < 222
                · skip
                  obtain rfl : z = 221 := by omega
                  exact ⟨fun h => absurd h (by decide +kernel), fun _ => ex_cz_221⟩
                · skip
                  obtain rfl : z = 222 := by omega
                  exact ⟨fun h => absurd h (by decide +kernel), fun _ => ex_cz_222⟩
            · skip
              by_cases h223_227 : z < 225
              · skip
                by_cases h223_225 : z < 224
                · skip
                  obtain rfl : z = 223 := by omega
                  exact ⟨fun h => absurd h (by decide +kernel), fun _ => ex_cz_223⟩
                · skip
                  obtain rfl : z = 224 := by omega
                  exact ⟨fun h => absurd h (by decide +kernel), fun _ => ex_cz_224⟩
              · skip
                by_cases h225_227 : z < 226
                · skip
                  obtain rfl : z = 225 := by omega
                  exact ⟨fun h => absurd h (by decide +kernel), fun _ => ex_cz_225⟩
                · skip
                  obtain rfl : z = 226 := by omega
                  exact ⟨fun h => absurd h (by decide +kernel), fun _ => ex_cz_226⟩
        · skip
          by_cases h227_243 : z < 235
          · skip
            by_cases h227_235 : z < 231
            · skip
              by_cases h227_231 : z < 229
              · skip
                by_cases h227_229 : z < 228
                · skip
                  obtain rfl : z = 227 := by omega
                  exact ⟨fun h => absurd h (by decide +kernel), fun _ => ex_cz_227⟩
                · skip
                  obtain rfl : z = 228 := by omega
                  exact ⟨fun h => absurd h (by decide +kernel), fun _ => ex_cz_228⟩
              · skip
                by_cases h229_231 : z < 230
                · skip
                  obtain rfl : z = 229 := by omega
                  exact ⟨fun h => absurd h (by decide +kernel), fun _ => ex_cz_229⟩
                · skip
                  obtain rfl : z = 230 := by omega
                  exact ⟨fun h => absurd h (by decide +kernel), fun _ => ex_cz_230⟩
            · skip
              by_cases h231_235 : z < 233
              · skip
                by_cases h231_233 : z < 232
                · skip
                  obtain rfl : z = 231 := by omega
                  exact ⟨fun h => absurd h (by decide +kernel), fun _ => ex_cz_231⟩
                · skip
                  obtain rfl : z = 232 := by omega
                  exact ⟨fun h => absurd h (by decide +kernel), fun _ => ex_cz_232⟩
              · skip
                by_cases h233_235 : z < 234
                · skip
                  obtain rfl : z = 233 := by omega
                  exact ⟨fun h => absurd h (by decide +kernel), fun _ => ex_cz_233⟩
                · skip
                  obtain rfl : z = 234 := by omega
                  exact ⟨fun h => absurd h (by decide +kernel), fun _ => ex_cz_234⟩
          · skip
            by_cases h235_243 : z < 239
            · skip
              by_cases h235_239 : z < 237
              · skip
                by_cases h235_237 : z < 236
                · skip
                  obtain rfl : z = 235 := by omega
                  exact ⟨fun h => absurd h (by decide +kernel), fun _ => ex_cz_235⟩
                · skip
                  obtain rfl : z = 236 := by omega
                  exact ⟨fun h => absurd h (by decide +kernel), fun _ => ex_cz_236⟩
              · skip
                by_cases h237_239 : z < 238
                · skip
                  obtain rfl : z = 237 := by omega
                  exact ⟨fun h => absurd h (by decide +kernel), fun _ => ex_cz_237⟩
                · skip
                  obtain rfl : z = 238 := by omega
                  exact ⟨fun h => absurd h (by decide +kernel), fun _ => ex_cz_238⟩
            · skip
              by_cases h239_243 : z < 241
              · skip
                by_cases h239_241 : z < 240
                · skip
                  obtain rfl : z = 239 := by omega
                  exact ⟨fun h => absurd h (by decide +kernel), fun _ => ex_cz_239⟩
                · skip
                  obtain rfl : z = 240 := by omega
                  exact ⟨fun h => absurd h (by decide +kernel), fun _ => ex_cz_240⟩
              · skip
                by_cases h241_243 : z < 242
                · skip
                  obtain rfl : z = 241 := by omega
                  exact ⟨fun h => absurd h (by decide +kernel), fun _ => ex_cz_241⟩
                · skip
                  obtain rfl : z = 242 := by omega
                  exact absurd hu (by decide +kernel)
