/-! Places of the words that the tables rest on; checks of the tables. Written by a program. -/
def ex_fw (cl x : Nat) : Nat := cond (Nat.blt cl 7) (cond (Nat.blt cl 5) (cond (Nat.blt cl 4) (cond (Nat.beq cl 3) (cond (Nat.blt x 22) (cond (Nat.blt x 18) (cond (Nat.beq x 12) (139) 9999) (cond (Nat.beq x 18) (151) 9999)) (cond (Nat.blt x 25) (cond (Nat.beq x 22) (145) 9999) (cond (Nat.blt x 35) (cond (Nat.beq x 25) (142) 9999) (cond (Nat.beq x 35) (148) 9999)))) 9999) (cond (Nat.beq cl 4) (cond (Nat.blt x 18) (cond (Nat.blt x 15) (cond (Nat.beq x 9) (101) 9999) (cond (Nat.beq x 15) (95) 9999)) (cond (Nat.blt x 21) (cond (Nat.beq x 18) (98) 9999) (cond (Nat.blt x 25) (cond (Nat.beq x 21) (105) 9999) (cond (Nat.beq x 25) (107) 9999)))) 9999)) (cond (Nat.blt cl 6) (cond (Nat.beq cl 5) (cond (Nat.blt x 15) (cond (Nat.beq x 9) (260) 9999) (cond (Nat.beq x 15) (261) 9999)) 9999) (cond (Nat.beq cl 6) (cond (Nat.blt x 18) (cond (Nat.blt x 15) (cond (Nat.beq x 9) (49) 9999) (cond (Nat.beq x 15) (50) 9999)) (cond (Nat.blt x 22) (cond (Nat.beq x 18) (51) 9999) (cond (Nat.beq x 22) (52) 9999))) 9999))) (cond (Nat.blt cl 9) (cond (Nat.blt cl 8) (cond (Nat.beq cl 7) (cond (Nat.blt x 18) (cond (Nat.beq x 11) (70) 9999) (cond (Nat.blt x 33) (cond (Nat.beq x 18) (71) 9999) (cond (Nat.beq x 33) (54) 9999))) 9999) (cond (Nat.beq cl 8) (cond (Nat.blt x 15) (cond (Nat.beq x 9) (130) 9999) (cond (Nat.beq x 15) (131) 9999)) 9999)) (cond (Nat.blt cl 10) (cond (Nat.beq cl 9) (cond (Nat.blt x 117) (cond (Nat.blt x 57) (cond (Nat.blt x 39) (cond (Nat.blt x 19) (cond (Nat.beq x 11) (228) 9999) (cond (Nat.blt x 25) (cond (Nat.beq x 19) (229) 9999) (cond (Nat.beq x 25) (230) 9999))) (cond (Nat.blt x 45) (cond (Nat.beq x 39) (231) 9999) (cond (Nat.blt x 54) (cond (Nat.beq x 45) (233) 9999) (cond (Nat.beq x 54) (143) 9999)))) (cond (Nat.blt x 72) (cond (Nat.blt x 64) (cond (Nat.beq x 57) (146) 9999) (cond (Nat.blt x 69) (cond (Nat.beq x 64) (175) 9999) (cond (Nat.beq x 69) (184) 9999))) (cond (Nat.blt x 81) (cond (Nat.blt x 75) (cond (Nat.beq x 72) (186) 9999) (cond (Nat.beq x 75) (236) 9999)) (cond (Nat.blt x 114) (cond (Nat.beq x 81) (237) 9999) (cond (Nat.beq x 114) (152) 9999))))) (cond (Nat.blt x 172) (cond (Nat.blt x 140) (cond (Nat.blt x 121) (cond (Nat.beq x 117) (140) 9999) (cond (Nat.blt x 133) (cond (Nat.beq x 121) (132) 9999) (cond (Nat.beq x 133) (106) 9999))) (cond (Nat.blt x 153) (cond (Nat.blt x 146) (cond (Nat.beq x 140) (97) 9999) (cond (Nat.beq x 146) (149) 9999)) (cond (Nat.blt x 156) (cond (Nat.beq x 153) (102) 9999) (cond (Nat.beq x 156) (190) 9999)))) (cond (Nat.blt x 191) (cond (Nat.blt x 175) (cond (Nat.beq x 172) (55) 9999) (cond (Nat.blt x 188) (cond (Nat.beq x 175) (179) 9999) (cond (Nat.beq x 188) (195) 9999))) (cond (Nat.blt x 205) (cond (Nat.blt x 194) (cond (Nat.beq x 191) (99) 9999) (cond (Nat.beq x 194) (173) 9999)) (cond (Nat.blt x 224) (cond (Nat.beq x 205) (193) 9999) (cond (Nat.beq x 224) (200) 9999)))))) 9999) (cond (Nat.blt cl 11) (cond (Nat.beq cl 10) (cond (Nat.blt x 35) (cond (Nat.blt x 26) (cond (Nat.blt x 18) (cond (Nat.beq x 12) (171) 9999) (cond (Nat.blt x 22) (cond (Nat.beq x 18) (174) 9999) (cond (Nat.beq x 22) (189) 9999))) (cond (Nat.blt x 29) (cond (Nat.beq x 26) (192) 9999) (cond (Nat.blt x 32) (cond (Nat.beq x 29) (201) 9999) (cond (Nat.beq x 32) (178) 9999)))) (cond (Nat.blt x 55) (cond (Nat.blt x 38) (cond (Nat.beq x 35) (181) 9999) (cond (Nat.blt x 48) (cond (Nat.beq x 38) (183) 9999) (cond (Nat.beq x 48) (176) 9999))) (cond (Nat.blt x 70) (cond (Nat.beq x 55) (198) 9999) (cond (Nat.blt x 73) (cond (Nat.beq x 70) (187) 9999) (cond (Nat.beq x 73) (196) 9999))))) 9999) (cond (Nat.beq cl 11) (cond (Nat.blt x 168) (cond (Nat.blt x 79) (cond (Nat.blt x 29) (cond (Nat.blt x 19) (cond (Nat.beq x 10) (267) 9999) (cond (Nat.blt x 23) (cond (Nat.beq x 19) (268) 9999) (cond (Nat.beq x 23) (269) 9999))) (cond (Nat.blt x 54) (cond (Nat.blt x 45) (cond (Nat.beq x 29) (270) 9999) (cond (Nat.beq x 45) (104) 9999)) (cond (Nat.blt x 68) (cond (Nat.beq x 54) (96) 9999) (cond (Nat.beq x 68) (72) 9999)))) (cond (Nat.blt x 120) (cond (Nat.blt x 102) (cond (Nat.blt x 84) (cond (Nat.beq x 79) (53) 9999) (cond (Nat.beq x 84) (235) 9999)) (cond (Nat.blt x 109) (cond (Nat.beq x 102) (232) 9999) (cond (Nat.beq x 109) (234) 9999))) (cond (Nat.blt x 140) (cond (Nat.blt x 135) (cond (Nat.beq x 120) (141) 9999) (cond (Nat.beq x 135) (191) 9999)) (cond (Nat.blt x 162) (cond (Nat.beq x 140) (172) 9999) (cond (Nat.beq x 162) (180) 9999))))) (cond (Nat.blt x 208) (cond (Nat.blt x 192) (cond (Nat.blt x 174) (cond (Nat.blt x 171) (cond (Nat.beq x 168) (182) 9999) (cond (Nat.beq x 171) (144) 9999)) (cond (Nat.blt x 189) (cond (Nat.beq x 174) (147) 9999) (cond (Nat.beq x 189) (100) 9999))) (cond (Nat.blt x 204) (cond (Nat.blt x 201) (cond (Nat.beq x 192) (103) 9999) (cond (Nat.beq x 201) (133) 9999)) (cond (Nat.blt x 207) (cond (Nat.beq x 204) (150) 9999) (cond (Nat.beq x 207) (177) 9999)))) (cond (Nat.blt x 220) (cond (Nat.blt x 214) (cond (Nat.blt x 211) (cond (Nat.beq x 208) (185) 9999) (cond (Nat.beq x 211) (188) 9999)) (cond (Nat.blt x 217) (cond (Nat.beq x 214) (194) 9999) (cond (Nat.beq x 217) (197) 9999))) (cond (Nat.blt x 247) (cond (Nat.blt x 223) (cond (Nat.beq x 220) (199) 9999) (cond (Nat.beq x 223) (202) 9999)) (cond (Nat.blt x 312) (cond (Nat.beq x 247) (238) 9999) (cond (Nat.beq x 312) (56) 9999)))))) 9999))))
def ex_lw (cl x : Nat) : Nat := cond (Nat.blt cl 8) (cond (Nat.blt cl 5) (cond (Nat.blt cl 4) (cond (Nat.beq cl 3) (cond (Nat.blt x 28) (cond (Nat.beq x 3) (123) 9999) (cond (Nat.blt x 31) (cond (Nat.beq x 28) (715) 9999) (cond (Nat.beq x 31) (655) 9999))) 9999) (cond (Nat.beq cl 4) (cond (Nat.blt x 28) (cond (Nat.beq x 3) (94) 9999) (cond (Nat.blt x 34) (cond (Nat.beq x 28) (682) 9999) (cond (Nat.beq x 34) (689) 9999))) 9999)) (cond (Nat.blt cl 6) (cond (Nat.beq cl 5) (cond (Nat.blt x 22) (cond (Nat.blt x 18) (cond (Nat.beq x 3) (259) 9999) (cond (Nat.beq x 18) (598) 9999)) (cond (Nat.blt x 26) (cond (Nat.beq x 22) (609) 9999) (cond (Nat.blt x 33) (cond (Nat.beq x 26) (602) 9999) (cond (Nat.beq x 33) (613) 9999)))) 9999) (cond (Nat.blt cl 7) (cond (Nat.beq cl 6) (cond (Nat.blt x 26) (cond (Nat.beq x 3) (48) 9999) (cond (Nat.blt x 30) (cond (Nat.beq x 26) (751) 9999) (cond (Nat.beq x 30) (755) 9999))) 9999) (cond (Nat.beq cl 7) (cond (Nat.blt x 26) (cond (Nat.beq x 3) (41) 9999) (cond (Nat.blt x 29) (cond (Nat.beq x 26) (411) 9999) (cond (Nat.beq x 29) (405) 9999))) 9999)))) (cond (Nat.blt cl 10) (cond (Nat.blt cl 9) (cond (Nat.beq cl 8) (cond (Nat.blt x 19) (cond (Nat.beq x 3) (129) 9999) (cond (Nat.beq x 19) (719) 9999)) 9999) (cond (Nat.beq cl 9) (cond (Nat.blt x 149) (cond (Nat.blt x 91) (cond (Nat.blt x 65) (cond (Nat.blt x 50) (cond (Nat.blt x 36) (cond (Nat.beq x 3) (83) 9999) (cond (Nat.beq x 36) (330) 9999)) (cond (Nat.blt x 60) (cond (Nat.beq x 50) (433) 9999) (cond (Nat.beq x 60) (446) 9999))) (cond (Nat.blt x 84) (cond (Nat.blt x 78) (cond (Nat.beq x 65) (451) 9999) (cond (Nat.beq x 78) (669) 9999)) (cond (Nat.blt x 88) (cond (Nat.beq x 84) (685) 9999) (cond (Nat.beq x 88) (690) 9999)))) (cond (Nat.blt x 111) (cond (Nat.blt x 103) (cond (Nat.blt x 95) (cond (Nat.beq x 91) (694) 9999) (cond (Nat.beq x 95) (720) 9999)) (cond (Nat.blt x 107) (cond (Nat.beq x 103) (646) 9999) (cond (Nat.beq x 107) (674) 9999))) (cond (Nat.blt x 137) (cond (Nat.blt x 126) (cond (Nat.beq x 111) (678) 9999) (cond (Nat.beq x 126) (698) 9999)) (cond (Nat.blt x 143) (cond (Nat.beq x 137) (703) 9999) (cond (Nat.beq x 143) (707) 9999))))) (cond (Nat.blt x 198) (cond (Nat.blt x 178) (cond (Nat.blt x 163) (cond (Nat.blt x 159) (cond (Nat.beq x 149) (711) 9999) (cond (Nat.beq x 159) (724) 9999)) (cond (Nat.blt x 166) (cond (Nat.beq x 163) (731) 9999) (cond (Nat.beq x 166) (746) 9999))) (cond (Nat.blt x 185) (cond (Nat.blt x 182) (cond (Nat.beq x 178) (747) 9999) (cond (Nat.beq x 182) (759) 9999)) (cond (Nat.blt x 195) (cond (Nat.beq x 185) (764) 9999) (cond (Nat.beq x 195) (728) 9999)))) (cond (Nat.blt x 217) (cond (Nat.blt x 208) (cond (Nat.blt x 202) (cond (Nat.beq x 198) (729) 9999) (cond (Nat.beq x 202) (730) 9999)) (cond (Nat.blt x 211) (cond (Nat.beq x 208) (735) 9999) (cond (Nat.beq x 211) (745) 9999))) (cond (Nat.blt x 227) (cond (Nat.blt x 221) (cond (Nat.beq x 217) (488) 9999) (cond (Nat.beq x 221) (545) 9999)) (cond (Nat.blt x 230) (cond (Nat.beq x 227) (647) 9999) (cond (Nat.blt x 232) (cond (Nat.beq x 230) (651) 9999) (cond (Nat.beq x 232) (659) 9999))))))) 9999)) (cond (Nat.blt cl 11) (cond (Nat.beq cl 10) (cond (Nat.blt x 51) (cond (Nat.blt x 41) (cond (Nat.beq x 3) (168) 9999) (cond (Nat.blt x 45) (cond (Nat.beq x 41) (739) 9999) (cond (Nat.beq x 45) (740) 9999))) (cond (Nat.blt x 62) (cond (Nat.blt x 58) (cond (Nat.beq x 51) (744) 9999) (cond (Nat.beq x 58) (763) 9999)) (cond (Nat.blt x 66) (cond (Nat.beq x 62) (663) 9999) (cond (Nat.beq x 66) (664) 9999)))) 9999) (cond (Nat.blt cl 40) (cond (Nat.beq cl 11) (cond (Nat.blt x 232) (cond (Nat.blt x 116) (cond (Nat.blt x 62) (cond (Nat.blt x 33) (cond (Nat.blt x 9) (cond (Nat.beq x 1) (33) 9999) (cond (Nat.blt x 18) (cond (Nat.beq x 9) (38) 9999) (cond (Nat.beq x 18) (80) 9999))) (cond (Nat.blt x 41) (cond (Nat.blt x 37) (cond (Nat.beq x 33) (284) 9999) (cond (Nat.beq x 37) (356) 9999)) (cond (Nat.blt x 51) (cond (Nat.beq x 41) (359) 9999) (cond (Nat.beq x 51) (378) 9999)))) (cond (Nat.blt x 87) (cond (Nat.blt x 71) (cond (Nat.beq x 62) (401) 9999) (cond (Nat.blt x 75) (cond (Nat.beq x 71) (412) 9999) (cond (Nat.beq x 75) (420) 9999))) (cond (Nat.blt x 105) (cond (Nat.blt x 91) (cond (Nat.beq x 87) (421) 9999) (cond (Nat.beq x 91) (472) 9999)) (cond (Nat.blt x 112) (cond (Nat.beq x 105) (429) 9999) (cond (Nat.beq x 112) (442) 9999))))) (cond (Nat.blt x 165) (cond (Nat.blt x 148) (cond (Nat.blt x 126) (cond (Nat.beq x 116) (459) 9999) (cond (Nat.blt x 132) (cond (Nat.beq x 126) (460) 9999) (cond (Nat.beq x 132) (464) 9999))) (cond (Nat.blt x 156) (cond (Nat.blt x 152) (cond (Nat.beq x 148) (477) 9999) (cond (Nat.beq x 152) (480) 9999)) (cond (Nat.blt x 159) (cond (Nat.beq x 156) (484) 9999) (cond (Nat.beq x 159) (489) 9999)))) (cond (Nat.blt x 195) (cond (Nat.blt x 182) (cond (Nat.beq x 165) (497) 9999) (cond (Nat.blt x 185) (cond (Nat.beq x 182) (639) 9999) (cond (Nat.beq x 185) (665) 9999))) (cond (Nat.blt x 226) (cond (Nat.blt x 198) (cond (Nat.beq x 195) (505) 9999) (cond (Nat.beq x 198) (509) 9999)) (cond (Nat.blt x 229) (cond (Nat.beq x 226) (521) 9999) (cond (Nat.beq x 229) (772) 9999)))))) (cond (Nat.blt x 285) (cond (Nat.blt x 260) (cond (Nat.blt x 241) (cond (Nat.blt x 235) (cond (Nat.beq x 232) (529) 9999) (cond (Nat.blt x 238) (cond (Nat.beq x 235) (533) 9999) (cond (Nat.beq x 238) (537) 9999))) (cond (Nat.blt x 250) (cond (Nat.blt x 244) (cond (Nat.beq x 241) (541) 9999) (cond (Nat.beq x 244) (549) 9999)) (cond (Nat.blt x 256) (cond (Nat.beq x 250) (553) 9999) (cond (Nat.beq x 256) (575) 9999)))) (cond (Nat.blt x 270) (cond (Nat.blt x 263) (cond (Nat.beq x 260) (586) 9999) (cond (Nat.blt x 266) (cond (Nat.beq x 263) (594) 9999) (cond (Nat.beq x 266) (568) 9999))) (cond (Nat.blt x 274) (cond (Nat.blt x 273) (cond (Nat.beq x 270) (561) 9999) (cond (Nat.beq x 273) (567) 9999)) (cond (Nat.blt x 282) (cond (Nat.beq x 274) (642) 9999) (cond (Nat.beq x 282) (622) 9999))))) (cond (Nat.blt x 306) (cond (Nat.blt x 294) (cond (Nat.blt x 288) (cond (Nat.beq x 285) (623) 9999) (cond (Nat.blt x 291) (cond (Nat.beq x 288) (624) 9999) (cond (Nat.beq x 291) (625) 9999))) (cond (Nat.blt x 300) (cond (Nat.blt x 297) (cond (Nat.beq x 294) (626) 9999) (cond (Nat.beq x 297) (590) 9999)) (cond (Nat.blt x 303) (cond (Nat.beq x 300) (627) 9999) (cond (Nat.beq x 303) (631) 9999)))) (cond (Nat.blt x 320) (cond (Nat.blt x 313) (cond (Nat.blt x 309) (cond (Nat.beq x 306) (635) 9999) (cond (Nat.beq x 309) (768) 9999)) (cond (Nat.blt x 317) (cond (Nat.beq x 313) (572) 9999) (cond (Nat.beq x 317) (582) 9999))) (cond (Nat.blt x 335) (cond (Nat.blt x 328) (cond (Nat.beq x 320) (578) 9999) (cond (Nat.beq x 328) (372) 9999)) (cond (Nat.blt x 336) (cond (Nat.beq x 335) (391) 9999) (cond (Nat.beq x 336) (564) 9999))))))) 9999) (cond (Nat.beq cl 40) (cond (Nat.blt x 57) (cond (Nat.blt x 35) (cond (Nat.blt x 22) (cond (Nat.blt x 12) (cond (Nat.beq x 11) (30) 9999) (cond (Nat.blt x 18) (cond (Nat.beq x 12) (777) 9999) (cond (Nat.beq x 18) (773) 9999))) (cond (Nat.blt x 29) (cond (Nat.blt x 25) (cond (Nat.beq x 22) (280) 9999) (cond (Nat.beq x 25) (397) 9999)) (cond (Nat.blt x 32) (cond (Nat.beq x 29) (425) 9999) (cond (Nat.beq x 32) (513) 9999)))) (cond (Nat.blt x 45) (cond (Nat.blt x 39) (cond (Nat.beq x 35) (438) 9999) (cond (Nat.blt x 42) (cond (Nat.beq x 39) (525) 9999) (cond (Nat.beq x 42) (517) 9999))) (cond (Nat.blt x 51) (cond (Nat.blt x 48) (cond (Nat.beq x 45) (501) 9999) (cond (Nat.beq x 48) (781) 9999)) (cond (Nat.blt x 54) (cond (Nat.beq x 51) (455) 9999) (cond (Nat.beq x 54) (468) 9999))))) (cond (Nat.blt x 83) (cond (Nat.blt x 67) (cond (Nat.blt x 60) (cond (Nat.beq x 57) (473) 9999) (cond (Nat.blt x 63) (cond (Nat.beq x 60) (493) 9999) (cond (Nat.beq x 63) (416) 9999))) (cond (Nat.blt x 75) (cond (Nat.blt x 71) (cond (Nat.beq x 67) (800) 9999) (cond (Nat.beq x 71) (788) 9999)) (cond (Nat.blt x 79) (cond (Nat.beq x 75) (804) 9999) (cond (Nat.beq x 79) (616) 9999)))) (cond (Nat.blt x 101) (cond (Nat.blt x 91) (cond (Nat.blt x 86) (cond (Nat.beq x 83) (557) 9999) (cond (Nat.beq x 86) (787) 9999)) (cond (Nat.blt x 97) (cond (Nat.beq x 91) (784) 9999) (cond (Nat.beq x 97) (793) 9999))) (cond (Nat.blt x 107) (cond (Nat.blt x 104) (cond (Nat.beq x 101) (796) 9999) (cond (Nat.beq x 104) (803) 9999)) (cond (Nat.blt x 110) (cond (Nat.beq x 107) (807) 9999) (cond (Nat.beq x 110) (808) 9999)))))) 9999))))
def ex_kw (cl x : Nat) : Nat := cond (Nat.blt cl 10) (cond (Nat.blt cl 7) (cond (Nat.beq cl 3) (cond (Nat.beq x 9) (124) 9999) 9999) (cond (Nat.blt cl 9) (cond (Nat.beq cl 7) (cond (Nat.blt x 22) (cond (Nat.beq x 9) (42) 9999) (cond (Nat.beq x 22) (409) 9999)) 9999) (cond (Nat.beq cl 9) (cond (Nat.blt x 23) (cond (Nat.blt x 17) (cond (Nat.beq x 9) (84) 9999) (cond (Nat.beq x 17) (86) 9999)) (cond (Nat.blt x 32) (cond (Nat.beq x 23) (88) 9999) (cond (Nat.beq x 32) (288) 9999))) 9999))) (cond (Nat.blt cl 11) (cond (Nat.beq cl 10) (cond (Nat.beq x 9) (169) 9999) 9999) (cond (Nat.blt cl 40) (cond (Nat.beq cl 11) (cond (Nat.blt x 26) (cond (Nat.blt x 16) (cond (Nat.beq x 7) (36) 9999) (cond (Nat.beq x 16) (78) 9999)) (cond (Nat.blt x 324) (cond (Nat.beq x 26) (254) 9999) (cond (Nat.blt x 331) (cond (Nat.beq x 324) (362) 9999) (cond (Nat.beq x 331) (381) 9999)))) 9999) (cond (Nat.beq cl 40) (cond (Nat.blt x 95) (cond (Nat.beq x 9) (28) 9999) (cond (Nat.beq x 95) (791) 9999)) 9999)))
def ex_cw (cl x : Nat) : Nat := cond (Nat.beq cl 11) (cond (Nat.blt x 280) (cond (Nat.beq x 278) (620) 9999) (cond (Nat.beq x 280) (621) 9999)) 9999
def ex_ci (cl x : Nat) : Nat := cond (Nat.beq cl 40) (cond (Nat.blt x 8) (cond (Nat.beq x 7) (776) 9999) (cond (Nat.beq x 8) (780) 9999)) 9999
def ex_ly (cl x : Nat) : Nat := cond (Nat.blt cl 8) (cond (Nat.blt cl 4) (cond (Nat.blt cl 2) (cond (Nat.blt cl 1) (cond (Nat.beq cl 0) (cond (Nat.blt x 2) (cond (Nat.blt x 1) (cond (Nat.beq x 0) (153) 9999) (cond (Nat.beq x 1) (155) 9999)) (cond (Nat.blt x 3) (cond (Nat.beq x 2) (157) 9999) (cond (Nat.blt x 4) (cond (Nat.beq x 3) (159) 9999) (cond (Nat.beq x 4) (161) 9999)))) 9999) (cond (Nat.beq cl 1) (cond (Nat.blt x 2) (cond (Nat.blt x 1) (cond (Nat.beq x 0) (153) 9999) (cond (Nat.beq x 1) (155) 9999)) (cond (Nat.blt x 3) (cond (Nat.beq x 2) (157) 9999) (cond (Nat.blt x 4) (cond (Nat.beq x 3) (159) 9999) (cond (Nat.beq x 4) (161) 9999)))) 9999)) (cond (Nat.blt cl 3) (cond (Nat.beq cl 2) (cond (Nat.blt x 2) (cond (Nat.blt x 1) (cond (Nat.beq x 0) (153) 9999) (cond (Nat.beq x 1) (155) 9999)) (cond (Nat.blt x 3) (cond (Nat.beq x 2) (157) 9999) (cond (Nat.blt x 4) (cond (Nat.beq x 3) (159) 9999) (cond (Nat.beq x 4) (161) 9999)))) 9999) (cond (Nat.beq cl 3) (cond (Nat.blt x 2) (cond (Nat.blt x 1) (cond (Nat.beq x 0) (153) 9999) (cond (Nat.beq x 1) (155) 9999)) (cond (Nat.blt x 3) (cond (Nat.beq x 2) (157) 9999) (cond (Nat.blt x 4) (cond (Nat.beq x 3) (159) 9999) (cond (Nat.beq x 4) (161) 9999)))) 9999))) (cond (Nat.blt cl 6) (cond (Nat.blt cl 5) (cond (Nat.beq cl 4) (cond (Nat.blt x 2) (cond (Nat.blt x 1) (cond (Nat.beq x 0) (108) 9999) (cond (Nat.beq x 1) (110) 9999)) (cond (Nat.blt x 3) (cond (Nat.beq x 2) (112) 9999) (cond (Nat.blt x 4) (cond (Nat.beq x 3) (114) 9999) (cond (Nat.beq x 4) (116) 9999)))) 9999) (cond (Nat.beq cl 5) (cond (Nat.blt x 1) (cond (Nat.beq x 0) (262) 9999) (cond (Nat.beq x 1) (264) 9999)) 9999)) (cond (Nat.blt cl 7) (cond (Nat.beq cl 6) (cond (Nat.blt x 2) (cond (Nat.blt x 1) (cond (Nat.beq x 0) (57) 9999) (cond (Nat.beq x 1) (59) 9999)) (cond (Nat.blt x 3) (cond (Nat.beq x 2) (61) 9999) (cond (Nat.blt x 4) (cond (Nat.beq x 3) (63) 9999) (cond (Nat.beq x 4) (65) 9999)))) 9999) (cond (Nat.beq cl 7) (cond (Nat.blt x 1) (cond (Nat.beq x 0) (73) 9999) (cond (Nat.beq x 1) (75) 9999)) 9999)))) (cond (Nat.blt cl 12) (cond (Nat.blt cl 10) (cond (Nat.blt cl 9) (cond (Nat.beq cl 8) (cond (Nat.blt x 1) (cond (Nat.beq x 0) (134) 9999) (cond (Nat.beq x 1) (136) 9999)) 9999) (cond (Nat.beq cl 9) (cond (Nat.blt x 3) (cond (Nat.blt x 1) (cond (Nat.beq x 0) (239) 9999) (cond (Nat.blt x 2) (cond (Nat.beq x 1) (241) 9999) (cond (Nat.beq x 2) (243) 9999))) (cond (Nat.blt x 5) (cond (Nat.blt x 4) (cond (Nat.beq x 3) (245) 9999) (cond (Nat.beq x 4) (247) 9999)) (cond (Nat.blt x 6) (cond (Nat.beq x 5) (249) 9999) (cond (Nat.beq x 6) (251) 9999)))) 9999)) (cond (Nat.blt cl 11) (cond (Nat.beq cl 10) (cond (Nat.blt x 6) (cond (Nat.blt x 3) (cond (Nat.blt x 1) (cond (Nat.beq x 0) (203) 9999) (cond (Nat.blt x 2) (cond (Nat.beq x 1) (205) 9999) (cond (Nat.beq x 2) (207) 9999))) (cond (Nat.blt x 4) (cond (Nat.beq x 3) (209) 9999) (cond (Nat.blt x 5) (cond (Nat.beq x 4) (211) 9999) (cond (Nat.beq x 5) (213) 9999)))) (cond (Nat.blt x 9) (cond (Nat.blt x 7) (cond (Nat.beq x 6) (215) 9999) (cond (Nat.blt x 8) (cond (Nat.beq x 7) (217) 9999) (cond (Nat.beq x 8) (219) 9999))) (cond (Nat.blt x 10) (cond (Nat.beq x 9) (221) 9999) (cond (Nat.blt x 11) (cond (Nat.beq x 10) (223) 9999) (cond (Nat.beq x 11) (225) 9999))))) 9999) (cond (Nat.beq cl 11) (cond (Nat.blt x 2) (cond (Nat.blt x 1) (cond (Nat.beq x 0) (271) 9999) (cond (Nat.beq x 1) (273) 9999)) (cond (Nat.blt x 3) (cond (Nat.beq x 2) (275) 9999) (cond (Nat.beq x 3) (277) 9999))) 9999))) (cond (Nat.blt cl 14) (cond (Nat.blt cl 13) (cond (Nat.beq cl 12) (cond (Nat.blt x 2) (cond (Nat.blt x 1) (cond (Nat.beq x 0) (153) 9999) (cond (Nat.beq x 1) (155) 9999)) (cond (Nat.blt x 3) (cond (Nat.beq x 2) (157) 9999) (cond (Nat.blt x 4) (cond (Nat.beq x 3) (159) 9999) (cond (Nat.beq x 4) (161) 9999)))) 9999) (cond (Nat.beq cl 13) (cond (Nat.blt x 2) (cond (Nat.blt x 1) (cond (Nat.beq x 0) (153) 9999) (cond (Nat.beq x 1) (155) 9999)) (cond (Nat.blt x 3) (cond (Nat.beq x 2) (157) 9999) (cond (Nat.blt x 4) (cond (Nat.beq x 3) (159) 9999) (cond (Nat.beq x 4) (161) 9999)))) 9999)) (cond (Nat.blt cl 15) (cond (Nat.beq cl 14) (cond (Nat.blt x 2) (cond (Nat.blt x 1) (cond (Nat.beq x 0) (153) 9999) (cond (Nat.beq x 1) (155) 9999)) (cond (Nat.blt x 3) (cond (Nat.beq x 2) (157) 9999) (cond (Nat.blt x 4) (cond (Nat.beq x 3) (159) 9999) (cond (Nat.beq x 4) (161) 9999)))) 9999) (cond (Nat.blt cl 16) (cond (Nat.beq cl 15) (cond (Nat.blt x 2) (cond (Nat.blt x 1) (cond (Nat.beq x 0) (153) 9999) (cond (Nat.beq x 1) (155) 9999)) (cond (Nat.blt x 3) (cond (Nat.beq x 2) (157) 9999) (cond (Nat.blt x 4) (cond (Nat.beq x 3) (159) 9999) (cond (Nat.beq x 4) (161) 9999)))) 9999) (cond (Nat.beq cl 16) (cond (Nat.blt x 2) (cond (Nat.blt x 1) (cond (Nat.beq x 0) (153) 9999) (cond (Nat.beq x 1) (155) 9999)) (cond (Nat.blt x 3) (cond (Nat.beq x 2) (157) 9999) (cond (Nat.blt x 4) (cond (Nat.beq x 3) (159) 9999) (cond (Nat.beq x 4) (161) 9999)))) 9999)))))
def ex_in (y : Nat) : Nat := cond (Nat.blt y 8) (cond (Nat.blt y 4) (cond (Nat.blt y 2) (cond (Nat.blt y 1) (cond (Nat.beq y 0) (119) 9999) (cond (Nat.beq y 1) (119) 9999)) (cond (Nat.blt y 3) (cond (Nat.beq y 2) (119) 9999) (cond (Nat.beq y 3) (119) 9999))) (cond (Nat.blt y 6) (cond (Nat.blt y 5) (cond (Nat.beq y 4) (90) 9999) (cond (Nat.beq y 5) (255) 9999)) (cond (Nat.blt y 7) (cond (Nat.beq y 6) (44) 9999) (cond (Nat.beq y 7) (37) 9999)))) (cond (Nat.blt y 12) (cond (Nat.blt y 10) (cond (Nat.blt y 9) (cond (Nat.beq y 8) (125) 9999) (cond (Nat.beq y 9) (79) 9999)) (cond (Nat.blt y 11) (cond (Nat.beq y 10) (164) 9999) (cond (Nat.beq y 11) (29) 9999))) (cond (Nat.blt y 14) (cond (Nat.blt y 13) (cond (Nat.beq y 12) (119) 9999) (cond (Nat.beq y 13) (119) 9999)) (cond (Nat.blt y 15) (cond (Nat.beq y 14) (119) 9999) (cond (Nat.blt y 16) (cond (Nat.beq y 15) (119) 9999) (cond (Nat.beq y 16) (119) 9999)))))
def ex_zd (y : Nat) : Nat := cond (Nat.blt y 9) (cond (Nat.blt y 4) (cond (Nat.blt y 2) (cond (Nat.blt y 1) (cond (Nat.beq y 0) (17) 9999) (cond (Nat.beq y 1) (17) 9999)) (cond (Nat.blt y 3) (cond (Nat.beq y 2) (17) 9999) (cond (Nat.beq y 3) (17) 9999))) (cond (Nat.blt y 6) (cond (Nat.blt y 5) (cond (Nat.beq y 4) (16) 9999) (cond (Nat.beq y 5) (20) 9999)) (cond (Nat.blt y 7) (cond (Nat.beq y 6) (14) 9999) (cond (Nat.blt y 8) (cond (Nat.beq y 7) (13) 9999) (cond (Nat.beq y 8) (18) 9999))))) (cond (Nat.blt y 14) (cond (Nat.blt y 11) (cond (Nat.blt y 10) (cond (Nat.beq y 9) (15) 9999) (cond (Nat.beq y 10) (19) 9999)) (cond (Nat.blt y 12) (cond (Nat.beq y 11) (12) 9999) (cond (Nat.blt y 13) (cond (Nat.beq y 12) (17) 9999) (cond (Nat.beq y 13) (17) 9999)))) (cond (Nat.blt y 16) (cond (Nat.blt y 15) (cond (Nat.beq y 14) (17) 9999) (cond (Nat.beq y 15) (17) 9999)) (cond (Nat.blt y 40) (cond (Nat.beq y 16) (17) 9999) (cond (Nat.blt y 43) (cond (Nat.beq y 40) (11) 9999) (cond (Nat.beq y 43) (27) 9999)))))
def ex_co (y : Nat) : Nat := cond (Nat.blt y 57) (cond (Nat.blt y 29) (cond (Nat.blt y 14) (cond (Nat.blt y 6) (cond (Nat.blt y 3) (cond (Nat.blt y 1) (cond (Nat.beq y 0) (122) 9999) (cond (Nat.blt y 2) (cond (Nat.beq y 1) (714) 9999) (cond (Nat.beq y 2) (654) 9999))) (cond (Nat.blt y 4) (cond (Nat.beq y 3) (93) 9999) (cond (Nat.blt y 5) (cond (Nat.beq y 4) (508) 9999) (cond (Nat.beq y 5) (585) 9999)))) (cond (Nat.blt y 10) (cond (Nat.blt y 8) (cond (Nat.beq y 6) (710) 9999) (cond (Nat.blt y 9) (cond (Nat.beq y 8) (677) 9999) (cond (Nat.beq y 9) (681) 9999))) (cond (Nat.blt y 12) (cond (Nat.blt y 11) (cond (Nat.beq y 10) (688) 9999) (cond (Nat.beq y 11) (693) 9999)) (cond (Nat.blt y 13) (cond (Nat.beq y 12) (650) 9999) (cond (Nat.beq y 13) (258) 9999))))) (cond (Nat.blt y 21) (cond (Nat.blt y 17) (cond (Nat.blt y 15) (cond (Nat.beq y 14) (589) 9999) (cond (Nat.blt y 16) (cond (Nat.beq y 15) (597) 9999) (cond (Nat.beq y 16) (601) 9999))) (cond (Nat.blt y 19) (cond (Nat.blt y 18) (cond (Nat.beq y 17) (605) 9999) (cond (Nat.beq y 18) (612) 9999)) (cond (Nat.blt y 20) (cond (Nat.beq y 19) (47) 9999) (cond (Nat.beq y 20) (424) 9999)))) (cond (Nat.blt y 25) (cond (Nat.blt y 23) (cond (Nat.beq y 21) (754) 9999) (cond (Nat.blt y 24) (cond (Nat.beq y 23) (758) 9999) (cond (Nat.beq y 24) (750) 9999))) (cond (Nat.blt y 27) (cond (Nat.blt y 26) (cond (Nat.beq y 25) (40) 9999) (cond (Nat.beq y 26) (408) 9999)) (cond (Nat.blt y 28) (cond (Nat.beq y 27) (415) 9999) (cond (Nat.beq y 28) (404) 9999)))))) (cond (Nat.blt y 42) (cond (Nat.blt y 35) (cond (Nat.blt y 32) (cond (Nat.blt y 30) (cond (Nat.beq y 29) (128) 9999) (cond (Nat.blt y 31) (cond (Nat.beq y 30) (463) 9999) (cond (Nat.beq y 31) (467) 9999))) (cond (Nat.blt y 33) (cond (Nat.beq y 32) (701) 9999) (cond (Nat.blt y 34) (cond (Nat.beq y 33) (718) 9999) (cond (Nat.beq y 34) (706) 9999)))) (cond (Nat.blt y 38) (cond (Nat.blt y 36) (cond (Nat.beq y 35) (658) 9999) (cond (Nat.blt y 37) (cond (Nat.beq y 36) (82) 9999) (cond (Nat.beq y 37) (287) 9999))) (cond (Nat.blt y 40) (cond (Nat.blt y 39) (cond (Nat.beq y 38) (436) 9999) (cond (Nat.beq y 39) (449) 9999)) (cond (Nat.blt y 41) (cond (Nat.beq y 40) (432) 9999) (cond (Nat.beq y 41) (445) 9999))))) (cond (Nat.blt y 50) (cond (Nat.blt y 45) (cond (Nat.blt y 43) (cond (Nat.beq y 42) (668) 9999) (cond (Nat.blt y 44) (cond (Nat.beq y 43) (672) 9999) (cond (Nat.beq y 44) (697) 9999))) (cond (Nat.blt y 47) (cond (Nat.blt y 46) (cond (Nat.beq y 45) (723) 9999) (cond (Nat.beq y 46) (727) 9999)) (cond (Nat.blt y 49) (cond (Nat.beq y 47) (734) 9999) (cond (Nat.beq y 49) (512) 9999)))) (cond (Nat.blt y 53) (cond (Nat.blt y 51) (cond (Nat.beq y 50) (487) 9999) (cond (Nat.blt y 52) (cond (Nat.beq y 51) (500) 9999) (cond (Nat.beq y 52) (540) 9999))) (cond (Nat.blt y 55) (cond (Nat.blt y 54) (cond (Nat.beq y 53) (544) 9999) (cond (Nat.beq y 54) (552) 9999)) (cond (Nat.blt y 56) (cond (Nat.beq y 55) (556) 9999) (cond (Nat.beq y 56) (532) 9999))))))) (cond (Nat.blt y 89) (cond (Nat.blt y 71) (cond (Nat.blt y 64) (cond (Nat.blt y 61) (cond (Nat.blt y 59) (cond (Nat.beq y 57) (536) 9999) (cond (Nat.blt y 60) (cond (Nat.beq y 59) (645) 9999) (cond (Nat.beq y 60) (167) 9999))) (cond (Nat.blt y 62) (cond (Nat.beq y 61) (454) 9999) (cond (Nat.blt y 63) (cond (Nat.beq y 62) (581) 9999) (cond (Nat.beq y 63) (483) 9999)))) (cond (Nat.blt y 67) (cond (Nat.blt y 65) (cond (Nat.beq y 64) (492) 9999) (cond (Nat.blt y 66) (cond (Nat.beq y 65) (743) 9999) (cond (Nat.beq y 66) (738) 9999))) (cond (Nat.blt y 69) (cond (Nat.blt y 68) (cond (Nat.beq y 67) (762) 9999) (cond (Nat.beq y 68) (767) 9999)) (cond (Nat.blt y 70) (cond (Nat.beq y 69) (524) 9999) (cond (Nat.beq y 70) (548) 9999))))) (cond (Nat.blt y 80) (cond (Nat.blt y 75) (cond (Nat.blt y 72) (cond (Nat.beq y 71) (662) 9999) (cond (Nat.blt y 73) (cond (Nat.beq y 72) (32) 9999) (cond (Nat.beq y 73) (283) 9999))) (cond (Nat.blt y 78) (cond (Nat.blt y 76) (cond (Nat.beq y 75) (400) 9999) (cond (Nat.beq y 76) (419) 9999)) (cond (Nat.blt y 79) (cond (Nat.beq y 78) (428) 9999) (cond (Nat.beq y 79) (441) 9999)))) (cond (Nat.blt y 84) (cond (Nat.blt y 81) (cond (Nat.beq y 80) (458) 9999) (cond (Nat.blt y 83) (cond (Nat.beq y 81) (471) 9999) (cond (Nat.beq y 83) (476) 9999))) (cond (Nat.blt y 87) (cond (Nat.blt y 86) (cond (Nat.beq y 84) (496) 9999) (cond (Nat.beq y 86) (799) 9999)) (cond (Nat.blt y 88) (cond (Nat.beq y 87) (504) 9999) (cond (Nat.beq y 88) (516) 9999)))))) (cond (Nat.blt y 104) (cond (Nat.blt y 97) (cond (Nat.blt y 93) (cond (Nat.blt y 90) (cond (Nat.beq y 89) (520) 9999) (cond (Nat.blt y 91) (cond (Nat.beq y 90) (771) 9999) (cond (Nat.beq y 91) (528) 9999))) (cond (Nat.blt y 95) (cond (Nat.blt y 94) (cond (Nat.beq y 93) (630) 9999) (cond (Nat.beq y 94) (634) 9999)) (cond (Nat.blt y 96) (cond (Nat.beq y 95) (560) 9999) (cond (Nat.beq y 96) (638) 9999)))) (cond (Nat.blt y 100) (cond (Nat.blt y 98) (cond (Nat.beq y 97) (619) 9999) (cond (Nat.blt y 99) (cond (Nat.beq y 98) (593) 9999) (cond (Nat.beq y 99) (571) 9999))) (cond (Nat.blt y 102) (cond (Nat.blt y 101) (cond (Nat.beq y 100) (574) 9999) (cond (Nat.beq y 101) (577) 9999)) (cond (Nat.blt y 103) (cond (Nat.beq y 102) (479) 9999) (cond (Nat.beq y 103) (641) 9999))))) (cond (Nat.blt y 221) (cond (Nat.blt y 107) (cond (Nat.blt y 105) (cond (Nat.beq y 104) (358) 9999) (cond (Nat.blt y 106) (cond (Nat.beq y 105) (361) 9999) (cond (Nat.beq y 106) (380) 9999))) (cond (Nat.blt y 219) (cond (Nat.blt y 108) (cond (Nat.beq y 107) (608) 9999) (cond (Nat.beq y 108) (563) 9999)) (cond (Nat.blt y 220) (cond (Nat.beq y 219) (775) 9999) (cond (Nat.beq y 220) (779) 9999)))) (cond (Nat.blt y 224) (cond (Nat.blt y 222) (cond (Nat.beq y 221) (786) 9999) (cond (Nat.blt y 223) (cond (Nat.beq y 222) (783) 9999) (cond (Nat.beq y 223) (795) 9999))) (cond (Nat.blt y 226) (cond (Nat.blt y 225) (cond (Nat.beq y 224) (790) 9999) (cond (Nat.beq y 225) (802) 9999)) (cond (Nat.blt y 242) (cond (Nat.beq y 226) (806) 9999) (cond (Nat.beq y 242) (9999) 9999)))))))
def ex_st (y : Nat) : Nat := cond (Nat.blt y 57) (cond (Nat.blt y 29) (cond (Nat.blt y 14) (cond (Nat.blt y 6) (cond (Nat.blt y 3) (cond (Nat.blt y 1) (cond (Nat.beq y 0) (121) 9999) (cond (Nat.blt y 2) (cond (Nat.beq y 1) (712) 9999) (cond (Nat.beq y 2) (652) 9999))) (cond (Nat.blt y 4) (cond (Nat.beq y 3) (92) 9999) (cond (Nat.blt y 5) (cond (Nat.beq y 4) (506) 9999) (cond (Nat.beq y 5) (583) 9999)))) (cond (Nat.blt y 10) (cond (Nat.blt y 8) (cond (Nat.beq y 6) (708) 9999) (cond (Nat.blt y 9) (cond (Nat.beq y 8) (675) 9999) (cond (Nat.beq y 9) (679) 9999))) (cond (Nat.blt y 12) (cond (Nat.blt y 11) (cond (Nat.beq y 10) (686) 9999) (cond (Nat.beq y 11) (691) 9999)) (cond (Nat.blt y 13) (cond (Nat.beq y 12) (648) 9999) (cond (Nat.beq y 13) (257) 9999))))) (cond (Nat.blt y 21) (cond (Nat.blt y 17) (cond (Nat.blt y 15) (cond (Nat.beq y 14) (587) 9999) (cond (Nat.blt y 16) (cond (Nat.beq y 15) (595) 9999) (cond (Nat.beq y 16) (600) 9999))) (cond (Nat.blt y 19) (cond (Nat.blt y 18) (cond (Nat.beq y 17) (604) 9999) (cond (Nat.beq y 18) (611) 9999)) (cond (Nat.blt y 20) (cond (Nat.beq y 19) (46) 9999) (cond (Nat.beq y 20) (422) 9999)))) (cond (Nat.blt y 25) (cond (Nat.blt y 23) (cond (Nat.beq y 21) (752) 9999) (cond (Nat.blt y 24) (cond (Nat.beq y 23) (756) 9999) (cond (Nat.beq y 24) (748) 9999))) (cond (Nat.blt y 27) (cond (Nat.blt y 26) (cond (Nat.beq y 25) (39) 9999) (cond (Nat.beq y 26) (406) 9999)) (cond (Nat.blt y 28) (cond (Nat.beq y 27) (413) 9999) (cond (Nat.beq y 28) (402) 9999)))))) (cond (Nat.blt y 42) (cond (Nat.blt y 35) (cond (Nat.blt y 32) (cond (Nat.blt y 30) (cond (Nat.beq y 29) (127) 9999) (cond (Nat.blt y 31) (cond (Nat.beq y 30) (461) 9999) (cond (Nat.beq y 31) (465) 9999))) (cond (Nat.blt y 33) (cond (Nat.beq y 32) (699) 9999) (cond (Nat.blt y 34) (cond (Nat.beq y 33) (716) 9999) (cond (Nat.beq y 34) (704) 9999)))) (cond (Nat.blt y 38) (cond (Nat.blt y 36) (cond (Nat.beq y 35) (656) 9999) (cond (Nat.blt y 37) (cond (Nat.beq y 36) (81) 9999) (cond (Nat.beq y 37) (285) 9999))) (cond (Nat.blt y 40) (cond (Nat.blt y 39) (cond (Nat.beq y 38) (434) 9999) (cond (Nat.beq y 39) (447) 9999)) (cond (Nat.blt y 41) (cond (Nat.beq y 40) (430) 9999) (cond (Nat.beq y 41) (443) 9999))))) (cond (Nat.blt y 50) (cond (Nat.blt y 45) (cond (Nat.blt y 43) (cond (Nat.beq y 42) (666) 9999) (cond (Nat.blt y 44) (cond (Nat.beq y 43) (671) 9999) (cond (Nat.beq y 44) (696) 9999))) (cond (Nat.blt y 47) (cond (Nat.blt y 46) (cond (Nat.beq y 45) (722) 9999) (cond (Nat.beq y 46) (726) 9999)) (cond (Nat.blt y 49) (cond (Nat.beq y 47) (733) 9999) (cond (Nat.beq y 49) (510) 9999)))) (cond (Nat.blt y 53) (cond (Nat.blt y 51) (cond (Nat.beq y 50) (485) 9999) (cond (Nat.blt y 52) (cond (Nat.beq y 51) (498) 9999) (cond (Nat.beq y 52) (538) 9999))) (cond (Nat.blt y 55) (cond (Nat.blt y 54) (cond (Nat.beq y 53) (542) 9999) (cond (Nat.beq y 54) (550) 9999)) (cond (Nat.blt y 56) (cond (Nat.beq y 55) (554) 9999) (cond (Nat.beq y 56) (530) 9999))))))) (cond (Nat.blt y 89) (cond (Nat.blt y 71) (cond (Nat.blt y 64) (cond (Nat.blt y 61) (cond (Nat.blt y 59) (cond (Nat.beq y 57) (534) 9999) (cond (Nat.blt y 60) (cond (Nat.beq y 59) (643) 9999) (cond (Nat.beq y 60) (166) 9999))) (cond (Nat.blt y 62) (cond (Nat.beq y 61) (452) 9999) (cond (Nat.blt y 63) (cond (Nat.beq y 62) (579) 9999) (cond (Nat.beq y 63) (481) 9999)))) (cond (Nat.blt y 67) (cond (Nat.blt y 65) (cond (Nat.beq y 64) (490) 9999) (cond (Nat.blt y 66) (cond (Nat.beq y 65) (741) 9999) (cond (Nat.beq y 66) (736) 9999))) (cond (Nat.blt y 69) (cond (Nat.blt y 68) (cond (Nat.beq y 67) (760) 9999) (cond (Nat.beq y 68) (765) 9999)) (cond (Nat.blt y 70) (cond (Nat.beq y 69) (522) 9999) (cond (Nat.beq y 70) (546) 9999))))) (cond (Nat.blt y 80) (cond (Nat.blt y 75) (cond (Nat.blt y 72) (cond (Nat.beq y 71) (660) 9999) (cond (Nat.blt y 73) (cond (Nat.beq y 72) (31) 9999) (cond (Nat.beq y 73) (281) 9999))) (cond (Nat.blt y 78) (cond (Nat.blt y 76) (cond (Nat.beq y 75) (398) 9999) (cond (Nat.beq y 76) (417) 9999)) (cond (Nat.blt y 79) (cond (Nat.beq y 78) (426) 9999) (cond (Nat.beq y 79) (439) 9999)))) (cond (Nat.blt y 84) (cond (Nat.blt y 81) (cond (Nat.beq y 80) (456) 9999) (cond (Nat.blt y 83) (cond (Nat.beq y 81) (469) 9999) (cond (Nat.beq y 83) (474) 9999))) (cond (Nat.blt y 87) (cond (Nat.blt y 86) (cond (Nat.beq y 84) (494) 9999) (cond (Nat.beq y 86) (797) 9999)) (cond (Nat.blt y 88) (cond (Nat.beq y 87) (502) 9999) (cond (Nat.beq y 88) (514) 9999)))))) (cond (Nat.blt y 104) (cond (Nat.blt y 97) (cond (Nat.blt y 93) (cond (Nat.blt y 90) (cond (Nat.beq y 89) (518) 9999) (cond (Nat.blt y 91) (cond (Nat.beq y 90) (769) 9999) (cond (Nat.beq y 91) (526) 9999))) (cond (Nat.blt y 95) (cond (Nat.blt y 94) (cond (Nat.beq y 93) (628) 9999) (cond (Nat.beq y 94) (632) 9999)) (cond (Nat.blt y 96) (cond (Nat.beq y 95) (558) 9999) (cond (Nat.beq y 96) (636) 9999)))) (cond (Nat.blt y 100) (cond (Nat.blt y 98) (cond (Nat.beq y 97) (617) 9999) (cond (Nat.blt y 99) (cond (Nat.beq y 98) (592) 9999) (cond (Nat.beq y 99) (570) 9999))) (cond (Nat.blt y 102) (cond (Nat.blt y 101) (cond (Nat.beq y 100) (573) 9999) (cond (Nat.beq y 101) (576) 9999)) (cond (Nat.blt y 103) (cond (Nat.beq y 102) (478) 9999) (cond (Nat.beq y 103) (640) 9999))))) (cond (Nat.blt y 221) (cond (Nat.blt y 107) (cond (Nat.blt y 105) (cond (Nat.beq y 104) (357) 9999) (cond (Nat.blt y 106) (cond (Nat.beq y 105) (360) 9999) (cond (Nat.beq y 106) (379) 9999))) (cond (Nat.blt y 219) (cond (Nat.blt y 108) (cond (Nat.beq y 107) (607) 9999) (cond (Nat.beq y 108) (562) 9999)) (cond (Nat.blt y 220) (cond (Nat.beq y 219) (774) 9999) (cond (Nat.beq y 220) (778) 9999)))) (cond (Nat.blt y 224) (cond (Nat.blt y 222) (cond (Nat.beq y 221) (785) 9999) (cond (Nat.blt y 223) (cond (Nat.beq y 222) (782) 9999) (cond (Nat.beq y 223) (794) 9999))) (cond (Nat.blt y 226) (cond (Nat.blt y 225) (cond (Nat.beq y 224) (789) 9999) (cond (Nat.beq y 225) (801) 9999)) (cond (Nat.blt y 242) (cond (Nat.beq y 226) (805) 9999) (cond (Nat.beq y 242) (9999) 9999)))))))
def ex_se (y : Nat) : Nat := cond (Nat.blt y 57) (cond (Nat.blt y 29) (cond (Nat.blt y 14) (cond (Nat.blt y 6) (cond (Nat.blt y 3) (cond (Nat.blt y 1) (cond (Nat.beq y 0) (9999) 9999) (cond (Nat.blt y 2) (cond (Nat.beq y 1) (713) 9999) (cond (Nat.beq y 2) (653) 9999))) (cond (Nat.blt y 4) (cond (Nat.beq y 3) (9999) 9999) (cond (Nat.blt y 5) (cond (Nat.beq y 4) (507) 9999) (cond (Nat.beq y 5) (584) 9999)))) (cond (Nat.blt y 10) (cond (Nat.blt y 8) (cond (Nat.beq y 6) (709) 9999) (cond (Nat.blt y 9) (cond (Nat.beq y 8) (676) 9999) (cond (Nat.beq y 9) (680) 9999))) (cond (Nat.blt y 12) (cond (Nat.blt y 11) (cond (Nat.beq y 10) (687) 9999) (cond (Nat.beq y 11) (692) 9999)) (cond (Nat.blt y 13) (cond (Nat.beq y 12) (649) 9999) (cond (Nat.beq y 13) (9999) 9999))))) (cond (Nat.blt y 21) (cond (Nat.blt y 17) (cond (Nat.blt y 15) (cond (Nat.beq y 14) (588) 9999) (cond (Nat.blt y 16) (cond (Nat.beq y 15) (596) 9999) (cond (Nat.beq y 16) (3) 9999))) (cond (Nat.blt y 19) (cond (Nat.blt y 18) (cond (Nat.beq y 17) (4) 9999) (cond (Nat.beq y 18) (5) 9999)) (cond (Nat.blt y 20) (cond (Nat.beq y 19) (9999) 9999) (cond (Nat.beq y 20) (423) 9999)))) (cond (Nat.blt y 25) (cond (Nat.blt y 23) (cond (Nat.beq y 21) (753) 9999) (cond (Nat.blt y 24) (cond (Nat.beq y 23) (757) 9999) (cond (Nat.beq y 24) (749) 9999))) (cond (Nat.blt y 27) (cond (Nat.blt y 26) (cond (Nat.beq y 25) (9999) 9999) (cond (Nat.beq y 26) (407) 9999)) (cond (Nat.blt y 28) (cond (Nat.beq y 27) (414) 9999) (cond (Nat.beq y 28) (403) 9999)))))) (cond (Nat.blt y 42) (cond (Nat.blt y 35) (cond (Nat.blt y 32) (cond (Nat.blt y 30) (cond (Nat.beq y 29) (9999) 9999) (cond (Nat.blt y 31) (cond (Nat.beq y 30) (462) 9999) (cond (Nat.beq y 31) (466) 9999))) (cond (Nat.blt y 33) (cond (Nat.beq y 32) (700) 9999) (cond (Nat.blt y 34) (cond (Nat.beq y 33) (717) 9999) (cond (Nat.beq y 34) (705) 9999)))) (cond (Nat.blt y 38) (cond (Nat.blt y 36) (cond (Nat.beq y 35) (657) 9999) (cond (Nat.blt y 37) (cond (Nat.beq y 36) (9999) 9999) (cond (Nat.beq y 37) (286) 9999))) (cond (Nat.blt y 40) (cond (Nat.blt y 39) (cond (Nat.beq y 38) (435) 9999) (cond (Nat.beq y 39) (448) 9999)) (cond (Nat.blt y 41) (cond (Nat.beq y 40) (431) 9999) (cond (Nat.beq y 41) (444) 9999))))) (cond (Nat.blt y 50) (cond (Nat.blt y 45) (cond (Nat.blt y 43) (cond (Nat.beq y 42) (667) 9999) (cond (Nat.blt y 44) (cond (Nat.beq y 43) (6) 9999) (cond (Nat.beq y 44) (7) 9999))) (cond (Nat.blt y 47) (cond (Nat.blt y 46) (cond (Nat.beq y 45) (8) 9999) (cond (Nat.beq y 46) (9) 9999)) (cond (Nat.blt y 49) (cond (Nat.beq y 47) (10) 9999) (cond (Nat.beq y 49) (511) 9999)))) (cond (Nat.blt y 53) (cond (Nat.blt y 51) (cond (Nat.beq y 50) (486) 9999) (cond (Nat.blt y 52) (cond (Nat.beq y 51) (499) 9999) (cond (Nat.beq y 52) (539) 9999))) (cond (Nat.blt y 55) (cond (Nat.blt y 54) (cond (Nat.beq y 53) (543) 9999) (cond (Nat.beq y 54) (551) 9999)) (cond (Nat.blt y 56) (cond (Nat.beq y 55) (555) 9999) (cond (Nat.beq y 56) (531) 9999))))))) (cond (Nat.blt y 89) (cond (Nat.blt y 71) (cond (Nat.blt y 64) (cond (Nat.blt y 61) (cond (Nat.blt y 59) (cond (Nat.beq y 57) (535) 9999) (cond (Nat.blt y 60) (cond (Nat.beq y 59) (644) 9999) (cond (Nat.beq y 60) (9999) 9999))) (cond (Nat.blt y 62) (cond (Nat.beq y 61) (453) 9999) (cond (Nat.blt y 63) (cond (Nat.beq y 62) (580) 9999) (cond (Nat.beq y 63) (482) 9999)))) (cond (Nat.blt y 67) (cond (Nat.blt y 65) (cond (Nat.beq y 64) (491) 9999) (cond (Nat.blt y 66) (cond (Nat.beq y 65) (742) 9999) (cond (Nat.beq y 66) (737) 9999))) (cond (Nat.blt y 69) (cond (Nat.blt y 68) (cond (Nat.beq y 67) (761) 9999) (cond (Nat.beq y 68) (766) 9999)) (cond (Nat.blt y 70) (cond (Nat.beq y 69) (523) 9999) (cond (Nat.beq y 70) (547) 9999))))) (cond (Nat.blt y 80) (cond (Nat.blt y 75) (cond (Nat.blt y 72) (cond (Nat.beq y 71) (661) 9999) (cond (Nat.blt y 73) (cond (Nat.beq y 72) (9999) 9999) (cond (Nat.beq y 73) (282) 9999))) (cond (Nat.blt y 78) (cond (Nat.blt y 76) (cond (Nat.beq y 75) (399) 9999) (cond (Nat.beq y 76) (418) 9999)) (cond (Nat.blt y 79) (cond (Nat.beq y 78) (427) 9999) (cond (Nat.beq y 79) (440) 9999)))) (cond (Nat.blt y 84) (cond (Nat.blt y 81) (cond (Nat.beq y 80) (457) 9999) (cond (Nat.blt y 83) (cond (Nat.beq y 81) (470) 9999) (cond (Nat.beq y 83) (475) 9999))) (cond (Nat.blt y 87) (cond (Nat.blt y 86) (cond (Nat.beq y 84) (495) 9999) (cond (Nat.beq y 86) (798) 9999)) (cond (Nat.blt y 88) (cond (Nat.beq y 87) (503) 9999) (cond (Nat.beq y 88) (515) 9999)))))) (cond (Nat.blt y 104) (cond (Nat.blt y 97) (cond (Nat.blt y 93) (cond (Nat.blt y 90) (cond (Nat.beq y 89) (519) 9999) (cond (Nat.blt y 91) (cond (Nat.beq y 90) (770) 9999) (cond (Nat.beq y 91) (527) 9999))) (cond (Nat.blt y 95) (cond (Nat.blt y 94) (cond (Nat.beq y 93) (629) 9999) (cond (Nat.beq y 94) (633) 9999)) (cond (Nat.blt y 96) (cond (Nat.beq y 95) (559) 9999) (cond (Nat.beq y 96) (637) 9999)))) (cond (Nat.blt y 100) (cond (Nat.blt y 98) (cond (Nat.beq y 97) (618) 9999) (cond (Nat.blt y 99) (cond (Nat.beq y 98) (2) 9999) (cond (Nat.beq y 99) (1) 9999))) (cond (Nat.blt y 102) (cond (Nat.blt y 101) (cond (Nat.beq y 100) (9999) 9999) (cond (Nat.beq y 101) (9999) 9999)) (cond (Nat.blt y 103) (cond (Nat.beq y 102) (9999) 9999) (cond (Nat.beq y 103) (9999) 9999))))) (cond (Nat.blt y 221) (cond (Nat.blt y 107) (cond (Nat.blt y 105) (cond (Nat.beq y 104) (9999) 9999) (cond (Nat.blt y 106) (cond (Nat.beq y 105) (9999) 9999) (cond (Nat.beq y 106) (9999) 9999))) (cond (Nat.blt y 219) (cond (Nat.blt y 108) (cond (Nat.beq y 107) (9999) 9999) (cond (Nat.beq y 108) (9999) 9999)) (cond (Nat.blt y 220) (cond (Nat.beq y 219) (9999) 9999) (cond (Nat.beq y 220) (9999) 9999)))) (cond (Nat.blt y 224) (cond (Nat.blt y 222) (cond (Nat.beq y 221) (9999) 9999) (cond (Nat.blt y 223) (cond (Nat.beq y 222) (9999) 9999) (cond (Nat.beq y 223) (9999) 9999))) (cond (Nat.blt y 226) (cond (Nat.blt y 225) (cond (Nat.beq y 224) (9999) 9999) (cond (Nat.beq y 225) (9999) 9999)) (cond (Nat.blt y 242) (cond (Nat.beq y 226) (9999) 9999) (cond (Nat.beq y 242) (9999) 9999)))))))
def ev_NW : List Cond := [(Cond.methodLinkNest "ChannelWinter$Ports" (17 : Nat) ({ cls := "ChannelWinter$Port", name := "<init>", desc := "()V" } : MethodName) "ChannelWinter"), (Cond.methodLinkNest "ChannelWinter$Sea" (29 : Nat) ({ cls := "ChannelWinter$Cell", name := "<init>", desc := "()V" } : MethodName) "ChannelWinter"), (Cond.methodLinkNest "ChannelWinter$Sea" (30 : Nat) ({ cls := "ChannelWinter$Breaker", name := "<init>", desc := "()V" } : MethodName) "ChannelWinter"), (Cond.methodLinkNest "ChannelWinter$Breaker" (11 : Nat) ({ cls := "ChannelWinter$Route", name := "<init>", desc := "()V" } : MethodName) "ChannelWinter"), (Cond.methodLinkNest "ChannelWinter$Sea" (31 : Nat) ({ cls := "ChannelWinter$Ship", name := "<init>", desc := "()V" } : MethodName) "ChannelWinter"), (Cond.methodLinkNest "ChannelWinter$Ship" (11 : Nat) ({ cls := "ChannelWinter$Route", name := "<init>", desc := "()V" } : MethodName) "ChannelWinter"), (Cond.methodLinkNest "ChannelWinter" (28 : Nat) ({ cls := "ChannelWinter$Chart", name := "<init>", desc := "()V" } : MethodName) "ChannelWinter"), (Cond.methodLinkNest "ChannelWinter$Chart" (29 : Nat) ({ cls := "ChannelWinter", name := "neighbour", desc := "(II)I" } : MethodName) "ChannelWinter"), (Cond.methodLinkNest "ChannelWinter$Sea" (99 : Nat) ({ cls := "ChannelWinter", name := "neighbour", desc := "(II)I" } : MethodName) "ChannelWinter"), (Cond.methodLinkNest "ChannelWinter$Sea" (130 : Nat) ({ cls := "ChannelWinter", name := "distance", desc := "(II)I" } : MethodName) "ChannelWinter")]
def ex_at (i : Nat) : Option Cond := cond (Nat.blt i 11) ((k2_sels lw_privs)[i]?) (cond (Nat.blt i 251) (tables_1_1[i - 11]?) (cond (Nat.blt i 491) (tables_1_2[i - 251]?) (cond (Nat.blt i 731) (tables_1_3[i - 491]?) (tables_1_4[i - 731]?))))
theorem ex_at_ok {i : Nat} {u : Cond} (h : ex_at i = some u) : u ∈ lw_tbl := by
  unfold ex_at at h
  have ht : ∀ k, k ∈ tables_1 → k ∈ lw_tbl := fun k hk => List.mem_append_right _ hk
  have m1 : ∀ k, k ∈ tables_1_1 → k ∈ tables_1 := fun k hk => List.mem_append_left _ hk
  have r1 : ∀ k, k ∈ (tables_1_2 ++ (tables_1_3 ++ tables_1_4)) → k ∈ tables_1 := fun k hk => List.mem_append_right _ hk
  cases hb : Nat.blt i 11 with
  | true => rw [hb] at h; exact List.mem_append_left _ (List.mem_of_getElem? h)
  | false =>
    rw [hb] at h
    dsimp only [cond_false] at h
    cases hb0 : Nat.blt i 251 with
    | true => rw [hb0] at h; exact ht _ (m1 _ (List.mem_of_getElem? h))
    | false =>
      rw [hb0] at h
      dsimp only [cond_false] at h
      cases hb1 : Nat.blt i 491 with
      | true => rw [hb1] at h; exact ht _ (r1 _ (List.mem_append_left _ (List.mem_of_getElem? h)))
      | false =>
        rw [hb1] at h
        dsimp only [cond_false] at h
        cases hb2 : Nat.blt i 731 with
        | true => rw [hb2] at h; exact ht _ (r1 _ (List.mem_append_right _ (List.mem_append_left _ (List.mem_of_getElem? h))))
        | false =>
          rw [hb2] at h
          dsimp only [cond_false] at h
          exact ht _ (r1 _ (List.mem_append_right _ (List.mem_append_right _ (List.mem_of_getElem? h))))
def ex_si (cl x : Nat) : Nat := 9999
def ex_lk (i : Nat) (u : Cond) : Bool := match ex_at i with
  | some u' => decide (u' = u) && goodWord u'
  | none => false
theorem ex_lk_ok {i : Nat} {u : Cond} (h : ex_lk i u = true) : u ∈ ew_TW := by
  unfold ex_lk at h
  split at h
  · rename_i u' hu
    rw [Bool.and_eq_true, decide_eq_true_eq] at h
    obtain ⟨rfl, h2⟩ := h
    exact List.mem_filter.mpr ⟨ex_at_ok hu, h2⟩
  · cases h

def ex_sf : Nat := 9999
def ex_ty (o : Option FieldType) (t : Nat) : Bool := match o, t with
  | some .int, 0 => true
  | some .boolean, 1 => true
  | some (.object _), 2 => true
  | some (.array _), 2 => true
  | some .long, 3 => true
  | _, _ => false
def ev_fd (cl x : Nat) : Bool := match et_fd cl x with
  | none => true
  | some (ci, s, t) => Nat.blt ci 17 && (match vwCl[ci]? with
    | none => false
    | some r => Nat.blt s r.2.2 && ex_ty (parseFieldDescriptor (r.2.1 s).2.2.1) t && decide ((r.2.1 s).2.2.2 = et_fin ci s) && (!et_fin ci s || decide ((r.2.1 s).1 = r.1)) &&
      (bif et_fn cl x then ev_NW.any (fun u => match u with
        | .fieldLinkNest _ _ _ _ _ host => decide (u = .fieldLinkNest (ew_on cl) x (r.2.1 s).1 (r.2.1 s).2.1 (r.2.1 s).2.2.1 host)
        | _ => false)
      else match ex_at (ex_fw cl x) with
        | some (.fieldLink o x' ref n d) => decide (o = ew_on cl) && Nat.beq x' x && decide (n = (r.2.1 s).2.1) && decide (d = (r.2.1 s).2.2.1) && (decide ((r.2.1 s).1 = ref) || ex_lk ex_sf (.sameField ref (r.2.1 s).1 (r.2.1 s).2.1 (r.2.1 s).2.2.1)) && ex_lk (ex_fw cl x) (.fieldLink o x' ref n d)
        | _ => false))
def ex_df (v : Value) (t : FieldType) : Bool := match v, defaultValue t with
  | .int x, .int y => decide (x = y)
  | .null, .null => true
  | _, _ => false
def ev_cl (ci : Nat) : Bool := match vwCl[ci]? with
  | none => true
  | some r => (List.range r.2.2).all (fun k => ex_lk (ex_ly ci k) (u_lay r.1 r.2.1 k) && (match parseFieldDescriptor (r.2.1 k).2.2.1 with
      | some ty => ex_df (ew_c (fun _ _ => 0) (et_dv ci k)) ty
      | none => false) && (List.range r.2.2).all (fun j => Nat.beq j k || !decide ((r.2.1 k).2.1 = (r.2.1 j).2.1))) && Nat.beq (et_N ci) r.2.2 && decide (r.1 = ew_on ci) && ex_lk (ex_in ci) (.instantiable r.1 r.2.2) && ex_lk (ex_zd ci) (.initialized r.1)
def ev_nw (cl x : Nat) : Bool := match et_nw cl x with
  | none => true
  | some c => (!Nat.blt c 17 || ex_lk (ex_kw cl x) (.classLink (ew_on cl) x (ew_on c))) && (!Nat.beq c 17 || ex_lk (ex_kw cl x) (.classLink (ew_on cl) x "[I")) && (!Nat.beq c 90 || ex_lk (ex_kw cl x) (.classLink (ew_on cl) x "java/lang/Object"))
def ev_cc (cl x : Nat) : Bool := match et_cl cl x with
  | none => true
  | some v => ex_lk (ex_cw cl x) (.constantLong (ew_on cl) x v)
def ev_ci (cl x : Nat) : Bool := match et_ci cl x with
  | none => true
  | some v => ex_lk (ex_ci cl x) (.constant (ew_on cl) x v)
def ex_pl (m : MethodName) : Bool := !decide (m.cls = "java/lang/invoke/MethodHandle") && !decide (m.cls = "java/lang/invoke/VarHandle")
def ex_ds (m : MethodName) (n : Nat) : Bool := match parseMethodDescriptor m.desc with
  | some d => Nat.beq d.parameters.length n
  | none => false
def ex_us (z : Nat) : Bool := Nat.blt z 243 && Nat.blt (ex_co z) 9999
def ev_yp (z : Nat) : Bool := ex_lk (ex_zd (et_cls z)) (.initialized (ew_nm z).cls) && ex_pl (ew_nm z) && Nat.ble (et_mx z) 20 &&
  (bif Nat.beq (et_kd z) 0 then ex_lk (ex_st z) (.static (ew_nm z)) else bif Nat.beq (et_kd z) 1 then ex_lk (ex_st z) (.instanceMethod (ew_nm z)) else bif Nat.beq (et_kd z) 2 then ex_lk (ex_st z) (.instanceMethod (ew_nm z)) && decide ((ew_nm z).name = "<init>") && decide (ew_rt z = none) else true)
def ev_yw (z : Nat) : Bool := ex_lk (ex_zd (et_cls z)) (.initialized (ew_nm z).cls) && ex_pl (ew_nm z) && Nat.ble (et_mx z) 20 && ex_lk (ex_st z) (.static (ew_nm z))
def ex_xn (cl x : Nat) : MethodName := bif Nat.beq cl 2 then ⟨"java/util/Collection", "toArray", "()[Ljava/lang/Object;"⟩ else bif Nat.beq x (bif Nat.beq cl 16 then 54 else 53) then ⟨"java/util/Iterator", "hasNext", "()Z"⟩ else ⟨"java/util/Iterator", "next", "()Ljava/lang/Object;"⟩
def ex_LP (cl x z n : Nat) : Bool := (ex_lk (ex_lw cl x) (.methodLink (ew_on cl) x (ew_nm z)) || ev_NW.any (fun u => match u with
    | .methodLinkNest _ _ _ host => decide (u = .methodLinkNest (ew_on cl) x (ew_nm z) host)
    | _ => false)) && ex_ds (ew_nm z) n
def ev_md (cl x : Nat) : Bool := match et_md cl x with
  | none => true
  | some (z, n, c) => bif Nat.ble 900 z then Nat.beq (et_kd z) 9 && !et_if cl x && !et_wr z && Nat.ble z 904 && (bif Nat.beq z 900 then ex_lk (ex_lw cl x) (.methodLink (ew_on cl) x Lib.Math.max.name) else bif Nat.beq z 901 then ex_lk (ex_lw cl x) (.methodLink (ew_on cl) x Lib.Math.min.name) else bif Nat.beq z 902 then ex_lk (ex_lw cl x) (.methodLink (ew_on cl) x Lib.Math.abs.name) else bif Nat.beq z 903 then ex_lk (ex_lw cl x) (.methodLink (ew_on cl) x arraycopyName) else Nat.beq n 0 && ex_lk (ex_lw cl x) (.methodLink (ew_on cl) x objectInit))
    else bif et_wr z then Nat.beq (et_kd z) 0 && Nat.ble 185 z && !et_if cl x && ex_us z && ex_ds (ew_nm z) n && ex_lk (ex_lw cl x) (.methodLink (ew_on cl) x (ew_nm z))
    else ex_us z && (bif et_if cl x then Nat.blt c 17 && Nat.beq (et_kd z) 1 && Nat.ble 185 z && ex_lk (ex_lw cl x) (.methodLink (ew_on cl) x (ex_xn cl x)) && ex_lk (ex_si cl x) (.selects (ew_on c) (ex_xn cl x) (ew_nm z)) && ex_pl (ex_xn cl x) && ex_ds (ex_xn cl x) n
      else ex_LP cl x z n && (!Nat.beq (et_kd z) 1 || (Nat.blt c 17 && decide ((ew_nm z).cls = ew_on c) && ex_lk (ex_se z) (.selects (ew_nm z).cls (ew_nm z) (ew_nm z)))) && (!ew_th z || ex_lk (ex_lw cl x) (.methodLink (ew_on cl) x (ew_nm z))))

def ev_yy (z : Nat) : Bool := !ex_us z || (bif et_wr z then ev_yw z else ev_yp z)
theorem ex_cz_0 : ew_cw 0 ∈ ew_TW := List.mem_filter.mpr ⟨ex_at_ok (i := 122) rfl, rfl⟩
theorem ex_cz_1 : ew_cw 1 ∈ ew_TW := List.mem_filter.mpr ⟨ex_at_ok (i := 714) rfl, rfl⟩
theorem ex_cz_2 : ew_cw 2 ∈ ew_TW := List.mem_filter.mpr ⟨ex_at_ok (i := 654) rfl, rfl⟩
theorem ex_cz_3 : ew_cw 3 ∈ ew_TW := List.mem_filter.mpr ⟨ex_at_ok (i := 93) rfl, rfl⟩
theorem ex_cz_4 : ew_cw 4 ∈ ew_TW := List.mem_filter.mpr ⟨ex_at_ok (i := 508) rfl, rfl⟩
theorem ex_cz_5 : ew_cw 5 ∈ ew_TW := List.mem_filter.mpr ⟨ex_at_ok (i := 585) rfl, rfl⟩
theorem ex_cz_6 : ew_cw 6 ∈ ew_TW := List.mem_filter.mpr ⟨ex_at_ok (i := 710) rfl, rfl⟩
theorem ex_cz_8 : ew_cw 8 ∈ ew_TW := List.mem_filter.mpr ⟨ex_at_ok (i := 677) rfl, rfl⟩
theorem ex_cz_9 : ew_cw 9 ∈ ew_TW := List.mem_filter.mpr ⟨ex_at_ok (i := 681) rfl, rfl⟩
theorem ex_cz_10 : ew_cw 10 ∈ ew_TW := List.mem_filter.mpr ⟨ex_at_ok (i := 688) rfl, rfl⟩
theorem ex_cz_11 : ew_cw 11 ∈ ew_TW := List.mem_filter.mpr ⟨ex_at_ok (i := 693) rfl, rfl⟩
theorem ex_cz_12 : ew_cw 12 ∈ ew_TW := List.mem_filter.mpr ⟨ex_at_ok (i := 650) rfl, rfl⟩
theorem ex_cz_13 : ew_cw 13 ∈ ew_TW := List.mem_filter.mpr ⟨ex_at_ok (i := 258) rfl, rfl⟩
theorem ex_cz_14 : ew_cw 14 ∈ ew_TW := List.mem_filter.mpr ⟨ex_at_ok (i := 589) rfl, rfl⟩
theorem ex_cz_15 : ew_cw 15 ∈ ew_TW := List.mem_filter.mpr ⟨ex_at_ok (i := 597) rfl, rfl⟩
theorem ex_cz_16 : ew_cw 16 ∈ ew_TW := List.mem_filter.mpr ⟨ex_at_ok (i := 601) rfl, rfl⟩
theorem ex_cz_17 : ew_cw 17 ∈ ew_TW := List.mem_filter.mpr ⟨ex_at_ok (i := 605) rfl, rfl⟩
theorem ex_cz_18 : ew_cw 18 ∈ ew_TW := List.mem_filter.mpr ⟨ex_at_ok (i := 612) rfl, rfl⟩
theorem ex_cz_19 : ew_cw 19 ∈ ew_TW := List.mem_filter.mpr ⟨ex_at_ok (i := 47) rfl, rfl⟩
theorem ex_cz_20 : ew_cw 20 ∈ ew_TW := List.mem_filter.mpr ⟨ex_at_ok (i := 424) rfl, rfl⟩
theorem ex_cz_21 : ew_cw 21 ∈ ew_TW := List.mem_filter.mpr ⟨ex_at_ok (i := 754) rfl, rfl⟩
theorem ex_cz_23 : ew_cw 23 ∈ ew_TW := List.mem_filter.mpr ⟨ex_at_ok (i := 758) rfl, rfl⟩
theorem ex_cz_24 : ew_cw 24 ∈ ew_TW := List.mem_filter.mpr ⟨ex_at_ok (i := 750) rfl, rfl⟩
theorem ex_cz_25 : ew_cw 25 ∈ ew_TW := List.mem_filter.mpr ⟨ex_at_ok (i := 40) rfl, rfl⟩
theorem ex_cz_26 : ew_cw 26 ∈ ew_TW := List.mem_filter.mpr ⟨ex_at_ok (i := 408) rfl, rfl⟩
theorem ex_cz_27 : ew_cw 27 ∈ ew_TW := List.mem_filter.mpr ⟨ex_at_ok (i := 415) rfl, rfl⟩
theorem ex_cz_28 : ew_cw 28 ∈ ew_TW := List.mem_filter.mpr ⟨ex_at_ok (i := 404) rfl, rfl⟩
theorem ex_cz_29 : ew_cw 29 ∈ ew_TW := List.mem_filter.mpr ⟨ex_at_ok (i := 128) rfl, rfl⟩
theorem ex_cz_30 : ew_cw 30 ∈ ew_TW := List.mem_filter.mpr ⟨ex_at_ok (i := 463) rfl, rfl⟩
theorem ex_cz_31 : ew_cw 31 ∈ ew_TW := List.mem_filter.mpr ⟨ex_at_ok (i := 467) rfl, rfl⟩
theorem ex_cz_32 : ew_cw 32 ∈ ew_TW := List.mem_filter.mpr ⟨ex_at_ok (i := 701) rfl, rfl⟩
theorem ex_cz_33 : ew_cw 33 ∈ ew_TW := List.mem_filter.mpr ⟨ex_at_ok (i := 718) rfl, rfl⟩
theorem ex_cz_34 : ew_cw 34 ∈ ew_TW := List.mem_filter.mpr ⟨ex_at_ok (i := 706) rfl, rfl⟩
theorem ex_cz_35 : ew_cw 35 ∈ ew_TW := List.mem_filter.mpr ⟨ex_at_ok (i := 658) rfl, rfl⟩
theorem ex_cz_36 : ew_cw 36 ∈ ew_TW := List.mem_filter.mpr ⟨ex_at_ok (i := 82) rfl, rfl⟩
theorem ex_cz_37 : ew_cw 37 ∈ ew_TW := List.mem_filter.mpr ⟨ex_at_ok (i := 287) rfl, rfl⟩
theorem ex_cz_38 : ew_cw 38 ∈ ew_TW := List.mem_filter.mpr ⟨ex_at_ok (i := 436) rfl, rfl⟩
theorem ex_cz_39 : ew_cw 39 ∈ ew_TW := List.mem_filter.mpr ⟨ex_at_ok (i := 449) rfl, rfl⟩
theorem ex_cz_40 : ew_cw 40 ∈ ew_TW := List.mem_filter.mpr ⟨ex_at_ok (i := 432) rfl, rfl⟩
theorem ex_cz_41 : ew_cw 41 ∈ ew_TW := List.mem_filter.mpr ⟨ex_at_ok (i := 445) rfl, rfl⟩
theorem ex_cz_42 : ew_cw 42 ∈ ew_TW := List.mem_filter.mpr ⟨ex_at_ok (i := 668) rfl, rfl⟩
theorem ex_cz_43 : ew_cw 43 ∈ ew_TW := List.mem_filter.mpr ⟨ex_at_ok (i := 672) rfl, rfl⟩
theorem ex_cz_44 : ew_cw 44 ∈ ew_TW := List.mem_filter.mpr ⟨ex_at_ok (i := 697) rfl, rfl⟩
theorem ex_cz_45 : ew_cw 45 ∈ ew_TW := List.mem_filter.mpr ⟨ex_at_ok (i := 723) rfl, rfl⟩
theorem ex_cz_46 : ew_cw 46 ∈ ew_TW := List.mem_filter.mpr ⟨ex_at_ok (i := 727) rfl, rfl⟩
theorem ex_cz_47 : ew_cw 47 ∈ ew_TW := List.mem_filter.mpr ⟨ex_at_ok (i := 734) rfl, rfl⟩
theorem ex_cz_49 : ew_cw 49 ∈ ew_TW := List.mem_filter.mpr ⟨ex_at_ok (i := 512) rfl, rfl⟩
theorem ex_cz_50 : ew_cw 50 ∈ ew_TW := List.mem_filter.mpr ⟨ex_at_ok (i := 487) rfl, rfl⟩
theorem ex_cz_51 : ew_cw 51 ∈ ew_TW := List.mem_filter.mpr ⟨ex_at_ok (i := 500) rfl, rfl⟩
theorem ex_cz_52 : ew_cw 52 ∈ ew_TW := List.mem_filter.mpr ⟨ex_at_ok (i := 540) rfl, rfl⟩
theorem ex_cz_53 : ew_cw 53 ∈ ew_TW := List.mem_filter.mpr ⟨ex_at_ok (i := 544) rfl, rfl⟩
theorem ex_cz_54 : ew_cw 54 ∈ ew_TW := List.mem_filter.mpr ⟨ex_at_ok (i := 552) rfl, rfl⟩
theorem ex_cz_55 : ew_cw 55 ∈ ew_TW := List.mem_filter.mpr ⟨ex_at_ok (i := 556) rfl, rfl⟩
theorem ex_cz_56 : ew_cw 56 ∈ ew_TW := List.mem_filter.mpr ⟨ex_at_ok (i := 532) rfl, rfl⟩
theorem ex_cz_57 : ew_cw 57 ∈ ew_TW := List.mem_filter.mpr ⟨ex_at_ok (i := 536) rfl, rfl⟩
theorem ex_cz_59 : ew_cw 59 ∈ ew_TW := List.mem_filter.mpr ⟨ex_at_ok (i := 645) rfl, rfl⟩
theorem ex_cz_60 : ew_cw 60 ∈ ew_TW := List.mem_filter.mpr ⟨ex_at_ok (i := 167) rfl, rfl⟩
theorem ex_cz_61 : ew_cw 61 ∈ ew_TW := List.mem_filter.mpr ⟨ex_at_ok (i := 454) rfl, rfl⟩
theorem ex_cz_62 : ew_cw 62 ∈ ew_TW := List.mem_filter.mpr ⟨ex_at_ok (i := 581) rfl, rfl⟩
theorem ex_cz_63 : ew_cw 63 ∈ ew_TW := List.mem_filter.mpr ⟨ex_at_ok (i := 483) rfl, rfl⟩
theorem ex_cz_64 : ew_cw 64 ∈ ew_TW := List.mem_filter.mpr ⟨ex_at_ok (i := 492) rfl, rfl⟩
theorem ex_cz_65 : ew_cw 65 ∈ ew_TW := List.mem_filter.mpr ⟨ex_at_ok (i := 743) rfl, rfl⟩
theorem ex_cz_66 : ew_cw 66 ∈ ew_TW := List.mem_filter.mpr ⟨ex_at_ok (i := 738) rfl, rfl⟩
theorem ex_cz_67 : ew_cw 67 ∈ ew_TW := List.mem_filter.mpr ⟨ex_at_ok (i := 762) rfl, rfl⟩
theorem ex_cz_68 : ew_cw 68 ∈ ew_TW := List.mem_filter.mpr ⟨ex_at_ok (i := 767) rfl, rfl⟩
theorem ex_cz_69 : ew_cw 69 ∈ ew_TW := List.mem_filter.mpr ⟨ex_at_ok (i := 524) rfl, rfl⟩
theorem ex_cz_70 : ew_cw 70 ∈ ew_TW := List.mem_filter.mpr ⟨ex_at_ok (i := 548) rfl, rfl⟩
theorem ex_cz_71 : ew_cw 71 ∈ ew_TW := List.mem_filter.mpr ⟨ex_at_ok (i := 662) rfl, rfl⟩
theorem ex_cz_72 : ew_cw 72 ∈ ew_TW := List.mem_filter.mpr ⟨ex_at_ok (i := 32) rfl, rfl⟩
theorem ex_cz_73 : ew_cw 73 ∈ ew_TW := List.mem_filter.mpr ⟨ex_at_ok (i := 283) rfl, rfl⟩
theorem ex_cz_75 : ew_cw 75 ∈ ew_TW := List.mem_filter.mpr ⟨ex_at_ok (i := 400) rfl, rfl⟩
theorem ex_cz_76 : ew_cw 76 ∈ ew_TW := List.mem_filter.mpr ⟨ex_at_ok (i := 419) rfl, rfl⟩
theorem ex_cz_78 : ew_cw 78 ∈ ew_TW := List.mem_filter.mpr ⟨ex_at_ok (i := 428) rfl, rfl⟩
theorem ex_cz_79 : ew_cw 79 ∈ ew_TW := List.mem_filter.mpr ⟨ex_at_ok (i := 441) rfl, rfl⟩
theorem ex_cz_80 : ew_cw 80 ∈ ew_TW := List.mem_filter.mpr ⟨ex_at_ok (i := 458) rfl, rfl⟩
theorem ex_cz_81 : ew_cw 81 ∈ ew_TW := List.mem_filter.mpr ⟨ex_at_ok (i := 471) rfl, rfl⟩
theorem ex_cz_83 : ew_cw 83 ∈ ew_TW := List.mem_filter.mpr ⟨ex_at_ok (i := 476) rfl, rfl⟩
theorem ex_cz_84 : ew_cw 84 ∈ ew_TW := List.mem_filter.mpr ⟨ex_at_ok (i := 496) rfl, rfl⟩
theorem ex_cz_86 : ew_cw 86 ∈ ew_TW := List.mem_filter.mpr ⟨ex_at_ok (i := 799) rfl, rfl⟩
theorem ex_cz_87 : ew_cw 87 ∈ ew_TW := List.mem_filter.mpr ⟨ex_at_ok (i := 504) rfl, rfl⟩
theorem ex_cz_88 : ew_cw 88 ∈ ew_TW := List.mem_filter.mpr ⟨ex_at_ok (i := 516) rfl, rfl⟩
theorem ex_cz_89 : ew_cw 89 ∈ ew_TW := List.mem_filter.mpr ⟨ex_at_ok (i := 520) rfl, rfl⟩
theorem ex_cz_90 : ew_cw 90 ∈ ew_TW := List.mem_filter.mpr ⟨ex_at_ok (i := 771) rfl, rfl⟩
theorem ex_cz_91 : ew_cw 91 ∈ ew_TW := List.mem_filter.mpr ⟨ex_at_ok (i := 528) rfl, rfl⟩
theorem ex_cz_93 : ew_cw 93 ∈ ew_TW := List.mem_filter.mpr ⟨ex_at_ok (i := 630) rfl, rfl⟩
theorem ex_cz_94 : ew_cw 94 ∈ ew_TW := List.mem_filter.mpr ⟨ex_at_ok (i := 634) rfl, rfl⟩
theorem ex_cz_95 : ew_cw 95 ∈ ew_TW := List.mem_filter.mpr ⟨ex_at_ok (i := 560) rfl, rfl⟩
theorem ex_cz_96 : ew_cw 96 ∈ ew_TW := List.mem_filter.mpr ⟨ex_at_ok (i := 638) rfl, rfl⟩
theorem ex_cz_97 : ew_cw 97 ∈ ew_TW := List.mem_filter.mpr ⟨ex_at_ok (i := 619) rfl, rfl⟩
theorem ex_cz_98 : ew_cw 98 ∈ ew_TW := List.mem_filter.mpr ⟨ex_at_ok (i := 593) rfl, rfl⟩
theorem ex_cz_99 : ew_cw 99 ∈ ew_TW := List.mem_filter.mpr ⟨ex_at_ok (i := 571) rfl, rfl⟩
theorem ex_cz_100 : ew_cw 100 ∈ ew_TW := List.mem_filter.mpr ⟨ex_at_ok (i := 574) rfl, rfl⟩
theorem ex_cz_101 : ew_cw 101 ∈ ew_TW := List.mem_filter.mpr ⟨ex_at_ok (i := 577) rfl, rfl⟩
theorem ex_cz_102 : ew_cw 102 ∈ ew_TW := List.mem_filter.mpr ⟨ex_at_ok (i := 479) rfl, rfl⟩
theorem ex_cz_103 : ew_cw 103 ∈ ew_TW := List.mem_filter.mpr ⟨ex_at_ok (i := 641) rfl, rfl⟩
theorem ex_cz_104 : ew_cw 104 ∈ ew_TW := List.mem_filter.mpr ⟨ex_at_ok (i := 358) rfl, rfl⟩
theorem ex_cz_105 : ew_cw 105 ∈ ew_TW := List.mem_filter.mpr ⟨ex_at_ok (i := 361) rfl, rfl⟩
theorem ex_cz_106 : ew_cw 106 ∈ ew_TW := List.mem_filter.mpr ⟨ex_at_ok (i := 380) rfl, rfl⟩
theorem ex_cz_107 : ew_cw 107 ∈ ew_TW := List.mem_filter.mpr ⟨ex_at_ok (i := 608) rfl, rfl⟩
theorem ex_cz_108 : ew_cw 108 ∈ ew_TW := List.mem_filter.mpr ⟨ex_at_ok (i := 563) rfl, rfl⟩
theorem ex_cz_219 : ew_cw 219 ∈ ew_TW := List.mem_filter.mpr ⟨ex_at_ok (i := 775) rfl, rfl⟩
theorem ex_cz_220 : ew_cw 220 ∈ ew_TW := List.mem_filter.mpr ⟨ex_at_ok (i := 779) rfl, rfl⟩
theorem ex_cz_221 : ew_cw 221 ∈ ew_TW := List.mem_filter.mpr ⟨ex_at_ok (i := 786) rfl, rfl⟩
theorem ex_cz_222 : ew_cw 222 ∈ ew_TW := List.mem_filter.mpr ⟨ex_at_ok (i := 783) rfl, rfl⟩
theorem ex_cz_223 : ew_cw 223 ∈ ew_TW := List.mem_filter.mpr ⟨ex_at_ok (i := 795) rfl, rfl⟩
theorem ex_cz_224 : ew_cw 224 ∈ ew_TW := List.mem_filter.mpr ⟨ex_at_ok (i := 790) rfl, rfl⟩
theorem ex_cz_225 : ew_cw 225 ∈ ew_TW := List.mem_filter.mpr ⟨ex_at_ok (i := 802) rfl, rfl⟩
theorem ex_cz_226 : ew_cw 226 ∈ ew_TW := List.mem_filter.mpr ⟨ex_at_ok (i := 806) rfl, rfl⟩
theorem ex_cz_ok (z : Nat) (hz : z < 243) (hu : ex_us z = true) : (et_wr z = false → ew_cw z ∈ ew_TW) ∧ (et_wr z = true → ew_cv z ∈ ew_TW) := by
  by_cases h0_243 : z < 121
  · skip
    by_cases h0_121 : z < 60
    · skip
      by_cases h0_60 : z < 30
      · skip
        by_cases h0_30 : z < 15
        · skip
          by_cases h0_15 : z < 7
          · skip
            by_cases h0_7 : z < 3
            · skip
              by_cases h0_3 : z < 1
              · skip
                obtain rfl : z = 0 := by omega
                exact ⟨fun _ => ex_cz_0, fun h => absurd h (by decide +kernel)⟩
              · skip
                by_cases h1_3 : z < 2
                · skip
                  obtain rfl : z = 1 := by omega
                  exact ⟨fun _ => ex_cz_1, fun h => absurd h (by decide +kernel)⟩
                · skip
                  obtain rfl : z = 2 := by omega
                  exact ⟨fun _ => ex_cz_2, fun h => absurd h (by decide +kernel)⟩
            · skip
              by_cases h3_7 : z < 5
              · skip
                by_cases h3_5 : z < 4
                · skip
                  obtain rfl : z = 3 := by omega
                  exact ⟨fun _ => ex_cz_3, fun h => absurd h (by decide +kernel)⟩
                · skip
                  obtain rfl : z = 4 := by omega
                  exact ⟨fun _ => ex_cz_4, fun h => absurd h (by decide +kernel)⟩
              · skip
                by_cases h5_7 : z < 6
                · skip
                  obtain rfl : z = 5 := by omega
                  exact ⟨fun _ => ex_cz_5, fun h => absurd h (by decide +kernel)⟩
                · skip
                  obtain rfl : z = 6 := by omega
                  exact ⟨fun _ => ex_cz_6, fun h => absurd h (by decide +kernel)⟩
          · skip
            by_cases h7_15 : z < 11
            · skip
              by_cases h7_11 : z < 9
              · skip
                by_cases h7_9 : z < 8
                · skip
                  obtain rfl : z = 7 := by omega
                  exact absurd hu (by decide +kernel)
                · skip
                  obtain rfl : z = 8 := by omega
                  exact ⟨fun _ => ex_cz_8, fun h => absurd h (by decide +kernel)⟩
              · skip
                by_cases h9_11 : z < 10
                · skip
                  obtain rfl : z = 9 := by omega
                  exact ⟨fun _ => ex_cz_9, fun h => absurd h (by decide +kernel)⟩
                · skip
                  obtain rfl : z = 10 := by omega
                  exact ⟨fun _ => ex_cz_10, fun h => absurd h (by decide +kernel)⟩
            · skip
              by_cases h11_15 : z < 13
              · skip
                by_cases h11_13 : z < 12
                · skip
                  obtain rfl : z = 11 := by omega
                  exact ⟨fun _ => ex_cz_11, fun h => absurd h (by decide +kernel)⟩
                · skip
                  obtain rfl : z = 12 := by omega
                  exact ⟨fun _ => ex_cz_12, fun h => absurd h (by decide +kernel)⟩
              · skip
                by_cases h13_15 : z < 14
                · skip
                  obtain rfl : z = 13 := by omega
                  exact ⟨fun _ => ex_cz_13, fun h => absurd h (by decide +kernel)⟩
                · skip
                  obtain rfl : z = 14 := by omega
                  exact ⟨fun _ => ex_cz_14, fun h => absurd h (by decide +kernel)⟩
        · skip
          by_cases h15_30 : z < 22
          · skip
            by_cases h15_22 : z < 18
            · skip
              by_cases h15_18 : z < 16
              · skip
                obtain rfl : z = 15 := by omega
                exact ⟨fun _ => ex_cz_15, fun h => absurd h (by decide +kernel)⟩
              · skip
                by_cases h16_18 : z < 17
                · skip
                  obtain rfl : z = 16 := by omega
                  exact ⟨fun _ => ex_cz_16, fun h => absurd h (by decide +kernel)⟩
                · skip
                  obtain rfl : z = 17 := by omega
                  exact ⟨fun _ => ex_cz_17, fun h => absurd h (by decide +kernel)⟩
            · skip
              by_cases h18_22 : z < 20
              · skip
                by_cases h18_20 : z < 19
                · skip
                  obtain rfl : z = 18 := by omega
                  exact ⟨fun _ => ex_cz_18, fun h => absurd h (by decide +kernel)⟩
                · skip
                  obtain rfl : z = 19 := by omega
                  exact ⟨fun _ => ex_cz_19, fun h => absurd h (by decide +kernel)⟩
              · skip
                by_cases h20_22 : z < 21
                · skip
                  obtain rfl : z = 20 := by omega
                  exact ⟨fun _ => ex_cz_20, fun h => absurd h (by decide +kernel)⟩
                · skip
                  obtain rfl : z = 21 := by omega
                  exact ⟨fun _ => ex_cz_21, fun h => absurd h (by decide +kernel)⟩
          · skip
            by_cases h22_30 : z < 26
            · skip
              by_cases h22_26 : z < 24
              · skip
                by_cases h22_24 : z < 23
                · skip
                  obtain rfl : z = 22 := by omega
                  exact absurd hu (by decide +kernel)
                · skip
                  obtain rfl : z = 23 := by omega
                  exact ⟨fun _ => ex_cz_23, fun h => absurd h (by decide +kernel)⟩
              · skip
                by_cases h24_26 : z < 25
                · skip
                  obtain rfl : z = 24 := by omega
                  exact ⟨fun _ => ex_cz_24, fun h => absurd h (by decide +kernel)⟩
                · skip
                  obtain rfl : z = 25 := by omega
                  exact ⟨fun _ => ex_cz_25, fun h => absurd h (by decide +kernel)⟩
            · skip
              by_cases h26_30 : z < 28
              · skip
                by_cases h26_28 : z < 27
                · skip
                  obtain rfl : z = 26 := by omega
                  exact ⟨fun _ => ex_cz_26, fun h => absurd h (by decide +kernel)⟩
                · skip
                  obtain rfl : z = 27 := by omega
                  exact ⟨fun _ => ex_cz_27, fun h => absurd h (by decide +kernel)⟩
              · skip
                by_cases h28_30 : z < 29
                · skip
                  obtain rfl : z = 28 := by omega
                  exact ⟨fun _ => ex_cz_28, fun h => absurd h (by decide +kernel)⟩
                · skip
                  obtain rfl : z = 29 := by omega
                  exact ⟨fun _ => ex_cz_29, fun h => absurd h (by decide +kernel)⟩
      · skip
        by_cases h30_60 : z < 45
        · skip
          by_cases h30_45 : z < 37
          · skip
            by_cases h30_37 : z < 33
            · skip
              by_cases h30_33 : z < 31
              · skip
                obtain rfl : z = 30 := by omega
                exact ⟨fun _ => ex_cz_30, fun h => absurd h (by decide +kernel)⟩
              · skip
                by_cases h31_33 : z < 32
                · skip
                  obtain rfl : z = 31 := by omega
                  exact ⟨fun _ => ex_cz_31, fun h => absurd h (by decide +kernel)⟩
                · skip
                  obtain rfl : z = 32 := by omega
                  exact ⟨fun _ => ex_cz_32, fun h => absurd h (by decide +kernel)⟩
            · skip
              by_cases h33_37 : z < 35
              · skip
                by_cases h33_35 : z < 34
                · skip
                  obtain rfl : z = 33 := by omega
                  exact ⟨fun _ => ex_cz_33, fun h => absurd h (by decide +kernel)⟩
                · skip
                  obtain rfl : z = 34 := by omega
                  exact ⟨fun _ => ex_cz_34, fun h => absurd h (by decide +kernel)⟩
              · skip
                by_cases h35_37 : z < 36
                · skip
                  obtain rfl : z = 35 := by omega
                  exact ⟨fun _ => ex_cz_35, fun h => absurd h (by decide +kernel)⟩
                · skip
                  obtain rfl : z = 36 := by omega
                  exact ⟨fun _ => ex_cz_36, fun h => absurd h (by decide +kernel)⟩
          · skip
            by_cases h37_45 : z < 41
            · skip
              by_cases h37_41 : z < 39
              · skip
                by_cases h37_39 : z < 38
                · skip
                  obtain rfl : z = 37 := by omega
                  exact ⟨fun _ => ex_cz_37, fun h => absurd h (by decide +kernel)⟩
                · skip
                  obtain rfl : z = 38 := by omega
                  exact ⟨fun _ => ex_cz_38, fun h => absurd h (by decide +kernel)⟩
              · skip
                by_cases h39_41 : z < 40
                · skip
                  obtain rfl : z = 39 := by omega
                  exact ⟨fun _ => ex_cz_39, fun h => absurd h (by decide +kernel)⟩
                · skip
                  obtain rfl : z = 40 := by omega
                  exact ⟨fun _ => ex_cz_40, fun h => absurd h (by decide +kernel)⟩
            · skip
              by_cases h41_45 : z < 43
              · skip
                by_cases h41_43 : z < 42
                · skip
                  obtain rfl : z = 41 := by omega
                  exact ⟨fun _ => ex_cz_41, fun h => absurd h (by decide +kernel)⟩
                · skip
                  obtain rfl : z = 42 := by omega
                  exact ⟨fun _ => ex_cz_42, fun h => absurd h (by decide +kernel)⟩
              · skip
                by_cases h43_45 : z < 44
                · skip
                  obtain rfl : z = 43 := by omega
                  exact ⟨fun _ => ex_cz_43, fun h => absurd h (by decide +kernel)⟩
                · skip
                  obtain rfl : z = 44 := by omega
                  exact ⟨fun _ => ex_cz_44, fun h => absurd h (by decide +kernel)⟩
        · skip
          by_cases h45_60 : z < 52
          · skip
            by_cases h45_52 : z < 48
            · skip
              by_cases h45_48 : z < 46
              · skip
                obtain rfl : z = 45 := by omega
                exact ⟨fun _ => ex_cz_45, fun h => absurd h (by decide +kernel)⟩
              · skip
                by_cases h46_48 : z < 47
                · skip
                  obtain rfl : z = 46 := by omega
                  exact ⟨fun _ => ex_cz_46, fun h => absurd h (by decide +kernel)⟩
                · skip
                  obtain rfl : z = 47 := by omega
                  exact ⟨fun _ => ex_cz_47, fun h => absurd h (by decide +kernel)⟩
            · skip
              by_cases h48_52 : z < 50
              · skip
                by_cases h48_50 : z < 49
                · skip
                  obtain rfl : z = 48 := by omega
                  exact absurd hu (by decide +kernel)
                · skip
                  obtain rfl : z = 49 := by omega
                  exact ⟨fun _ => ex_cz_49, fun h => absurd h (by decide +kernel)⟩
              · skip
                by_cases h50_52 : z < 51
                · skip
                  obtain rfl : z = 50 := by omega
                  exact ⟨fun _ => ex_cz_50, fun h => absurd h (by decide +kernel)⟩
                · skip
                  obtain rfl : z = 51 := by omega
                  exact ⟨fun _ => ex_cz_51, fun h => absurd h (by decide +kernel)⟩
          · skip
            by_cases h52_60 : z < 56
            · skip
              by_cases h52_56 : z < 54
              · skip
                by_cases h52_54 : z < 53
                · skip
                  obtain rfl : z = 52 := by omega
                  exact ⟨fun _ => ex_cz_52, fun h => absurd h (by decide +kernel)⟩
                · skip
                  obtain rfl : z = 53 := by omega
                  exact ⟨fun _ => ex_cz_53, fun h => absurd h (by decide +kernel)⟩
              · skip
                by_cases h54_56 : z < 55
                · skip
                  obtain rfl : z = 54 := by omega
                  exact ⟨fun _ => ex_cz_54, fun h => absurd h (by decide +kernel)⟩
                · skip
                  obtain rfl : z = 55 := by omega
                  exact ⟨fun _ => ex_cz_55, fun h => absurd h (by decide +kernel)⟩
            · skip
              by_cases h56_60 : z < 58
              · skip
                by_cases h56_58 : z < 57
                · skip
                  obtain rfl : z = 56 := by omega
                  exact ⟨fun _ => ex_cz_56, fun h => absurd h (by decide +kernel)⟩
                · skip
                  obtain rfl : z = 57 := by omega
                  exact ⟨fun _ => ex_cz_57, fun h => absurd h (by decide +kernel)⟩
              · skip
                by_cases h58_60 : z < 59
                · skip
                  obtain rfl : z = 58 := by omega
                  exact absurd hu (by decide +kernel)
                · skip
                  obtain rfl : z = 59 := by omega
                  exact ⟨fun _ => ex_cz_59, fun h => absurd h (by decide +kernel)⟩
    · skip
      by_cases h60_121 : z < 90
      · skip
        by_cases h60_90 : z < 75
        · skip
          by_cases h60_75 : z < 67
          · skip
            by_cases h60_67 : z < 63
            · skip
              by_cases h60_63 : z < 61
              · skip
                obtain rfl : z = 60 := by omega
                exact ⟨fun _ => ex_cz_60, fun h => absurd h (by decide +kernel)⟩
              · skip
                by_cases h61_63 : z < 62
                · skip
                  obtain rfl : z = 61 := by omega
                  exact ⟨fun _ => ex_cz_61, fun h => absurd h (by decide +kernel)⟩
                · skip
                  obtain rfl : z = 62 := by omega
                  exact ⟨fun _ => ex_cz_62, fun h => absurd h (by decide +kernel)⟩
            · skip
              by_cases h63_67 : z < 65
              · skip
                by_cases h63_65 : z < 64
                · skip
                  obtain rfl : z = 63 := by omega
                  exact ⟨fun _ => ex_cz_63, fun h => absurd h (by decide +kernel)⟩
                · skip
                  obtain rfl : z = 64 := by omega
                  exact ⟨fun _ => ex_cz_64, fun h => absurd h (by decide +kernel)⟩
              · skip
                by_cases h65_67 : z < 66
                · skip
                  obtain rfl : z = 65 := by omega
                  exact ⟨fun _ => ex_cz_65, fun h => absurd h (by decide +kernel)⟩
                · skip
                  obtain rfl : z = 66 := by omega
                  exact ⟨fun _ => ex_cz_66, fun h => absurd h (by decide +kernel)⟩
          · skip
            by_cases h67_75 : z < 71
            · skip
              by_cases h67_71 : z < 69
              · skip
                by_cases h67_69 : z < 68
                · skip
                  obtain rfl : z = 67 := by omega
                  exact ⟨fun _ => ex_cz_67, fun h => absurd h (by decide +kernel)⟩
                · skip
                  obtain rfl : z = 68 := by omega
                  exact ⟨fun _ => ex_cz_68, fun h => absurd h (by decide +kernel)⟩
              · skip
                by_cases h69_71 : z < 70
                · skip
                  obtain rfl : z = 69 := by omega
                  exact ⟨fun _ => ex_cz_69, fun h => absurd h (by decide +kernel)⟩
                · skip
                  obtain rfl : z = 70 := by omega
                  exact ⟨fun _ => ex_cz_70, fun h => absurd h (by decide +kernel)⟩
            · skip
              by_cases h71_75 : z < 73
              · skip
                by_cases h71_73 : z < 72
                · skip
                  obtain rfl : z = 71 := by omega
                  exact ⟨fun _ => ex_cz_71, fun h => absurd h (by decide +kernel)⟩
                · skip
                  obtain rfl : z = 72 := by omega
                  exact ⟨fun _ => ex_cz_72, fun h => absurd h (by decide +kernel)⟩
              · skip
                by_cases h73_75 : z < 74
                · skip
                  obtain rfl : z = 73 := by omega
                  exact ⟨fun _ => ex_cz_73, fun h => absurd h (by decide +kernel)⟩
                · skip
                  obtain rfl : z = 74 := by omega
                  exact absurd hu (by decide +kernel)
        · skip
          by_cases h75_90 : z < 82
          · skip
            by_cases h75_82 : z < 78
            · skip
              by_cases h75_78 : z < 76
              · skip
                obtain rfl : z = 75 := by omega
                exact ⟨fun _ => ex_cz_75, fun h => absurd h (by decide +kernel)⟩
              · skip
                by_cases h76_78 : z < 77
                · skip
                  obtain rfl : z = 76 := by omega
                  exact ⟨fun _ => ex_cz_76, fun h => absurd h (by decide +kernel)⟩
                · skip
                  obtain rfl : z = 77 := by omega
                  exact absurd hu (by decide +kernel)
            · skip
              by_cases h78_82 : z < 80
              · skip
                by_cases h78_80 : z < 79
                · skip
                  obtain rfl : z = 78 := by omega
                  exact ⟨fun _ => ex_cz_78, fun h => absurd h (by decide +kernel)⟩
                · skip
                  obtain rfl : z = 79 := by omega
                  exact ⟨fun _ => ex_cz_79, fun h => absurd h (by decide +kernel)⟩
              · skip
                by_cases h80_82 : z < 81
                · skip
                  obtain rfl : z = 80 := by omega
                  exact ⟨fun _ => ex_cz_80, fun h => absurd h (by decide +kernel)⟩
                · skip
                  obtain rfl : z = 81 := by omega
                  exact ⟨fun _ => ex_cz_81, fun h => absurd h (by decide +kernel)⟩
          · skip
            by_cases h82_90 : z < 86
            · skip
              by_cases h82_86 : z < 84
              · skip
                by_cases h82_84 : z < 83
                · skip
                  obtain rfl : z = 82 := by omega
                  exact absurd hu (by decide +kernel)
                · skip
                  obtain rfl : z = 83 := by omega
                  exact ⟨fun _ => ex_cz_83, fun h => absurd h (by decide +kernel)⟩
              · skip
                by_cases h84_86 : z < 85
                · skip
                  obtain rfl : z = 84 := by omega
                  exact ⟨fun _ => ex_cz_84, fun h => absurd h (by decide +kernel)⟩
                · skip
                  obtain rfl : z = 85 := by omega
                  exact absurd hu (by decide +kernel)
            · skip
              by_cases h86_90 : z < 88
              · skip
                by_cases h86_88 : z < 87
                · skip
                  obtain rfl : z = 86 := by omega
                  exact ⟨fun _ => ex_cz_86, fun h => absurd h (by decide +kernel)⟩
                · skip
                  obtain rfl : z = 87 := by omega
                  exact ⟨fun _ => ex_cz_87, fun h => absurd h (by decide +kernel)⟩
              · skip
                by_cases h88_90 : z < 89
                · skip
                  obtain rfl : z = 88 := by omega
                  exact ⟨fun _ => ex_cz_88, fun h => absurd h (by decide +kernel)⟩
                · skip
                  obtain rfl : z = 89 := by omega
                  exact ⟨fun _ => ex_cz_89, fun h => absurd h (by decide +kernel)⟩
      · skip
        by_cases h90_121 : z < 105
        · skip
          by_cases h90_105 : z < 97
          · skip
            by_cases h90_97 : z < 93
            · skip
              by_cases h90_93 : z < 91
              · skip
                obtain rfl : z = 90 := by omega
                exact ⟨fun _ => ex_cz_90, fun h => absurd h (by decide +kernel)⟩
              · skip
                by_cases h91_93 : z < 92
                · skip
                  obtain rfl : z = 91 := by omega
                  exact ⟨fun _ => ex_cz_91, fun h => absurd h (by decide +kernel)⟩
                · skip
                  obtain rfl : z = 92 := by omega
                  exact absurd hu (by decide +kernel)
            · skip
              by_cases h93_97 : z < 95
              · skip
                by_cases h93_95 : z < 94
                · skip
                  obtain rfl : z = 93 := by omega
                  exact ⟨fun _ => ex_cz_93, fun h => absurd h (by decide +kernel)⟩
                · skip
                  obtain rfl : z = 94 := by omega
                  exact ⟨fun _ => ex_cz_94, fun h => absurd h (by decide +kernel)⟩
              · skip
                by_cases h95_97 : z < 96
                · skip
                  obtain rfl : z = 95 := by omega
                  exact ⟨fun _ => ex_cz_95, fun h => absurd h (by decide +kernel)⟩
                · skip
                  obtain rfl : z = 96 := by omega
                  exact ⟨fun _ => ex_cz_96, fun h => absurd h (by decide +kernel)⟩
          · skip
            by_cases h97_105 : z < 101
            · skip
              by_cases h97_101 : z < 99
              · skip
                by_cases h97_99 : z < 98
                · skip
                  obtain rfl : z = 97 := by omega
                  exact ⟨fun _ => ex_cz_97, fun h => absurd h (by decide +kernel)⟩
                · skip
                  obtain rfl : z = 98 := by omega
                  exact ⟨fun _ => ex_cz_98, fun h => absurd h (by decide +kernel)⟩
              · skip
                by_cases h99_101 : z < 100
                · skip
                  obtain rfl : z = 99 := by omega
                  exact ⟨fun _ => ex_cz_99, fun h => absurd h (by decide +kernel)⟩
                · skip
                  obtain rfl : z = 100 := by omega
                  exact ⟨fun _ => ex_cz_100, fun h => absurd h (by decide +kernel)⟩
            · skip
              by_cases h101_105 : z < 103
              · skip
                by_cases h101_103 : z < 102
                · skip
                  obtain rfl : z = 101 := by omega
                  exact ⟨fun _ => ex_cz_101, fun h => absurd h (by decide +kernel)⟩
                · skip
                  obtain rfl : z = 102 := by omega
                  exact ⟨fun _ => ex_cz_102, fun h => absurd h (by decide +kernel)⟩
              · skip
                by_cases h103_105 : z < 104
                · skip
                  obtain rfl : z = 103 := by omega
                  exact ⟨fun _ => ex_cz_103, fun h => absurd h (by decide +kernel)⟩
                · skip
                  obtain rfl : z = 104 := by omega
                  exact ⟨fun _ => ex_cz_104, fun h => absurd h (by decide +kernel)⟩
        · skip
          by_cases h105_121 : z < 113
          · skip
            by_cases h105_113 : z < 109
            · skip
              by_cases h105_109 : z < 107
              · skip
                by_cases h105_107 : z < 106
                · skip
                  obtain rfl : z = 105 := by omega
                  exact ⟨fun _ => ex_cz_105, fun h => absurd h (by decide +kernel)⟩
                · skip
                  obtain rfl : z = 106 := by omega
                  exact ⟨fun _ => ex_cz_106, fun h => absurd h (by decide +kernel)⟩
              · skip
                by_cases h107_109 : z < 108
                · skip
                  obtain rfl : z = 107 := by omega
                  exact ⟨fun _ => ex_cz_107, fun h => absurd h (by decide +kernel)⟩
                · skip
                  obtain rfl : z = 108 := by omega
                  exact ⟨fun _ => ex_cz_108, fun h => absurd h (by decide +kernel)⟩
            · skip
              by_cases h109_113 : z < 111
              · skip
                by_cases h109_111 : z < 110
                · skip
                  obtain rfl : z = 109 := by omega
                  exact absurd hu (by decide +kernel)
                · skip
                  obtain rfl : z = 110 := by omega
                  exact absurd hu (by decide +kernel)
              · skip
                by_cases h111_113 : z < 112
                · skip
                  obtain rfl : z = 111 := by omega
                  exact absurd hu (by decide +kernel)
                · skip
                  obtain rfl : z = 112 := by omega
                  exact absurd hu (by decide +kernel)
          · skip
            by_cases h113_121 : z < 117
            · skip
              by_cases h113_117 : z < 115
              · skip
                by_cases h113_115 : z < 114
                · skip
                  obtain rfl : z = 113 := by omega
                  exact absurd hu (by decide +kernel)
                · skip
                  obtain rfl : z = 114 := by omega
                  exact absurd hu (by decide +kernel)
              · skip
                by_cases h115_117 : z < 116
                · skip
                  obtain rfl : z = 115 := by omega
                  exact absurd hu (by decide +kernel)
                · skip
                  obtain rfl : z = 116 := by omega
                  exact absurd hu (by decide +kernel)
            · skip
              by_cases h117_121 : z < 119
              · skip
                by_cases h117_119 : z < 118
                · skip
                  obtain rfl : z = 117 := by omega
                  exact absurd hu (by decide +kernel)
                · skip
                  obtain rfl : z = 118 := by omega
                  exact absurd hu (by decide +kernel)
              · skip
                by_cases h119_121 : z < 120
                · skip
                  obtain rfl : z = 119 := by omega
                  exact absurd hu (by decide +kernel)
                · skip
                  obtain rfl : z = 120 := by omega
                  exact absurd hu (by decide +kernel)
  · skip
    by_cases h121_243 : z < 182
    · skip
      by_cases h121_182 : z < 151
      · skip
        by_cases h121_151 : z < 136
        · skip
          by_cases h121_136 : z < 128
          · skip
            by_cases h121_128 : z < 124
            · skip
              by_cases h121_124 : z < 122
              · skip
                obtain rfl : z = 121 := by omega
                exact absurd hu (by decide +kernel)
              · skip
                by_cases h122_124 : z < 123
                · skip
                  obtain rfl : z = 122 := by omega
                  exact absurd hu (by decide +kernel)
                · skip
                  obtain rfl : z = 123 := by omega
                  exact absurd hu (by decide +kernel)
            · skip
              by_cases h124_128 : z < 126
              · skip
                by_cases h124_126 : z < 125
                · skip
                  obtain rfl : z = 124 := by omega
                  exact absurd hu (by decide +kernel)
                · skip
                  obtain rfl : z = 125 := by omega
                  exact absurd hu (by decide +kernel)
              · skip
                by_cases h126_128 : z < 127
                · skip
                  obtain rfl : z = 126 := by omega
                  exact absurd hu (by decide +kernel)
                · skip
                  obtain rfl : z = 127 := by omega
                  exact absurd hu (by decide +kernel)
          · skip
            by_cases h128_136 : z < 132
            · skip
              by_cases h128_132 : z < 130
              · skip
                by_cases h128_130 : z < 129
                · skip
                  obtain rfl : z = 128 := by omega
                  exact absurd hu (by decide +kernel)
                · skip
                  obtain rfl : z = 129 := by omega
                  exact absurd hu (by decide +kernel)
              · skip
                by_cases h130_132 : z < 131
                · skip
                  obtain rfl : z = 130 := by omega
                  exact absurd hu (by decide +kernel)
                · skip
                  obtain rfl : z = 131 := by omega
                  exact absurd hu (by decide +kernel)
            · skip
              by_cases h132_136 : z < 134
              · skip
                by_cases h132_134 : z < 133
                · skip
                  obtain rfl : z = 132 := by omega
                  exact absurd hu (by decide +kernel)
                · skip
                  obtain rfl : z = 133 := by omega
                  exact absurd hu (by decide +kernel)
              · skip
                by_cases h134_136 : z < 135
                · skip
                  obtain rfl : z = 134 := by omega
                  exact absurd hu (by decide +kernel)
                · skip
                  obtain rfl : z = 135 := by omega
                  exact absurd hu (by decide +kernel)
        · skip
          by_cases h136_151 : z < 143
          · skip
            by_cases h136_143 : z < 139
            · skip
              by_cases h136_139 : z < 137
              · skip
                obtain rfl : z = 136 := by omega
                exact absurd hu (by decide +kernel)
              · skip
                by_cases h137_139 : z < 138
                · skip
                  obtain rfl : z = 137 := by omega
                  exact absurd hu (by decide +kernel)
                · skip
                  obtain rfl : z = 138 := by omega
                  exact absurd hu (by decide +kernel)
            · skip
              by_cases h139_143 : z < 141
              · skip
                by_cases h139_141 : z < 140
                · skip
                  obtain rfl : z = 139 := by omega
                  exact absurd hu (by decide +kernel)
                · skip
                  obtain rfl : z = 140 := by omega
                  exact absurd hu (by decide +kernel)
              · skip
                by_cases h141_143 : z < 142
                · skip
                  obtain rfl : z = 141 := by omega
                  exact absurd hu (by decide +kernel)
                · skip
                  obtain rfl : z = 142 := by omega
                  exact absurd hu (by decide +kernel)
          · skip
            by_cases h143_151 : z < 147
            · skip
              by_cases h143_147 : z < 145
              · skip
                by_cases h143_145 : z < 144
                · skip
                  obtain rfl : z = 143 := by omega
                  exact absurd hu (by decide +kernel)
                · skip
                  obtain rfl : z = 144 := by omega
                  exact absurd hu (by decide +kernel)
              · skip
                by_cases h145_147 : z < 146
                · skip
                  obtain rfl : z = 145 := by omega
                  exact absurd hu (by decide +kernel)
                · skip
                  obtain rfl : z = 146 := by omega
                  exact absurd hu (by decide +kernel)
            · skip
              by_cases h147_151 : z < 149
              · skip
                by_cases h147_149 : z < 148
                · skip
                  obtain rfl : z = 147 := by omega
                  exact absurd hu (by decide +kernel)
                · skip
                  obtain rfl : z = 148 := by omega
                  exact absurd hu (by decide +kernel)
              · skip
                by_cases h149_151 : z < 150
                · skip
                  obtain rfl : z = 149 := by omega
                  exact absurd hu (by decide +kernel)
                · skip
                  obtain rfl : z = 150 := by omega
                  exact absurd hu (by decide +kernel)
      · skip
        by_cases h151_182 : z < 166
        · skip
          by_cases h151_166 : z < 158
          · skip
            by_cases h151_158 : z < 154
            · skip
              by_cases h151_154 : z < 152
              · skip
                obtain rfl : z = 151 := by omega
                exact absurd hu (by decide +kernel)
              · skip
                by_cases h152_154 : z < 153
                · skip
                  obtain rfl : z = 152 := by omega
                  exact absurd hu (by decide +kernel)
                · skip
                  obtain rfl : z = 153 := by omega
                  exact absurd hu (by decide +kernel)
            · skip
              by_cases h154_158 : z < 156
              · skip
                by_cases h154_156 : z < 155
                · skip
                  obtain rfl : z = 154 := by omega
                  exact absurd hu (by decide +kernel)
                · skip
                  obtain rfl : z = 155 := by omega
                  exact absurd hu (by decide +kernel)
              · skip
                by_cases h156_158 : z < 157
                · skip
                  obtain rfl : z = 156 := by omega
                  exact absurd hu (by decide +kernel)
                · skip
                  obtain rfl : z = 157 := by omega
                  exact absurd hu (by decide +kernel)
          · skip
            by_cases h158_166 : z < 162
            · skip
              by_cases h158_162 : z < 160
              · skip
                by_cases h158_160 : z < 159
                · skip
                  obtain rfl : z = 158 := by omega
                  exact absurd hu (by decide +kernel)
                · skip
                  obtain rfl : z = 159 := by omega
                  exact absurd hu (by decide +kernel)
              · skip
                by_cases h160_162 : z < 161
                · skip
                  obtain rfl : z = 160 := by omega
                  exact absurd hu (by decide +kernel)
                · skip
                  obtain rfl : z = 161 := by omega
                  exact absurd hu (by decide +kernel)
            · skip
              by_cases h162_166 : z < 164
              · skip
                by_cases h162_164 : z < 163
                · skip
                  obtain rfl : z = 162 := by omega
                  exact absurd hu (by decide +kernel)
                · skip
                  obtain rfl : z = 163 := by omega
                  exact absurd hu (by decide +kernel)
              · skip
                by_cases h164_166 : z < 165
                · skip
                  obtain rfl : z = 164 := by omega
                  exact absurd hu (by decide +kernel)
                · skip
                  obtain rfl : z = 165 := by omega
                  exact absurd hu (by decide +kernel)
        · skip
          by_cases h166_182 : z < 174
          · skip
            by_cases h166_174 : z < 170
            · skip
              by_cases h166_170 : z < 168
              · skip
                by_cases h166_168 : z < 167
                · skip
                  obtain rfl : z = 166 := by omega
                  exact absurd hu (by decide +kernel)
                · skip
                  obtain rfl : z = 167 := by omega
                  exact absurd hu (by decide +kernel)
              · skip
                by_cases h168_170 : z < 169
                · skip
                  obtain rfl : z = 168 := by omega
                  exact absurd hu (by decide +kernel)
                · skip
                  obtain rfl : z = 169 := by omega
                  exact absurd hu (by decide +kernel)
            · skip
              by_cases h170_174 : z < 172
              · skip
                by_cases h170_172 : z < 171
                · skip
                  obtain rfl : z = 170 := by omega
                  exact absurd hu (by decide +kernel)
                · skip
                  obtain rfl : z = 171 := by omega
                  exact absurd hu (by decide +kernel)
              · skip
                by_cases h172_174 : z < 173
                · skip
                  obtain rfl : z = 172 := by omega
                  exact absurd hu (by decide +kernel)
                · skip
                  obtain rfl : z = 173 := by omega
                  exact absurd hu (by decide +kernel)
          · skip
            by_cases h174_182 : z < 178
            · skip
              by_cases h174_178 : z < 176
              · skip
                by_cases h174_176 : z < 175
                · skip
                  obtain rfl : z = 174 := by omega
                  exact absurd hu (by decide +kernel)
                · skip
                  obtain rfl : z = 175 := by omega
                  exact absurd hu (by decide +kernel)
              · skip
                by_cases h176_178 : z < 177
                · skip
                  obtain rfl : z = 176 := by omega
                  exact absurd hu (by decide +kernel)
                · skip
                  obtain rfl : z = 177 := by omega
                  exact absurd hu (by decide +kernel)
            · skip
              by_cases h178_182 : z < 180
              · skip
                by_cases h178_180 : z < 179
                · skip
                  obtain rfl : z = 178 := by omega
                  exact absurd hu (by decide +kernel)
                · skip
                  obtain rfl : z = 179 := by omega
                  exact absurd hu (by decide +kernel)
              · skip
                by_cases h180_182 : z < 181
                · skip
                  obtain rfl : z = 180 := by omega
                  exact absurd hu (by decide +kernel)
                · skip
                  obtain rfl : z = 181 := by omega
                  exact absurd hu (by decide +kernel)
    · skip
      by_cases h182_243 : z < 212
      · skip
        by_cases h182_212 : z < 197
        · skip
          by_cases h182_197 : z < 189
          · skip
            by_cases h182_189 : z < 185
            · skip
              by_cases h182_185 : z < 183
              · skip
                obtain rfl : z = 182 := by omega
                exact absurd hu (by decide +kernel)
              · skip
                by_cases h183_185 : z < 184
                · skip
                  obtain rfl : z = 183 := by omega
                  exact absurd hu (by decide +kernel)
                · skip
                  obtain rfl : z = 184 := by omega
                  exact absurd hu (by decide +kernel)
            · skip
              by_cases h185_189 : z < 187
              · skip
                by_cases h185_187 : z < 186
                · skip
                  obtain rfl : z = 185 := by omega
                  exact absurd hu (by decide +kernel)
                · skip
                  obtain rfl : z = 186 := by omega
                  exact absurd hu (by decide +kernel)
              · skip
                by_cases h187_189 : z < 188
                · skip
                  obtain rfl : z = 187 := by omega
                  exact absurd hu (by decide +kernel)
                · skip
                  obtain rfl : z = 188 := by omega
                  exact absurd hu (by decide +kernel)
          · skip
            by_cases h189_197 : z < 193
            · skip
              by_cases h189_193 : z < 191
              · skip
                by_cases h189_191 : z < 190
                · skip
                  obtain rfl : z = 189 := by omega
                  exact absurd hu (by decide +kernel)
                · skip
                  obtain rfl : z = 190 := by omega
                  exact absurd hu (by decide +kernel)
              · skip
                by_cases h191_193 : z < 192
                · skip
                  obtain rfl : z = 191 := by omega
                  exact absurd hu (by decide +kernel)
                · skip
                  obtain rfl : z = 192 := by omega
                  exact absurd hu (by decide +kernel)
            · skip
              by_cases h193_197 : z < 195
              · skip
                by_cases h193_195 : z < 194
                · skip
                  obtain rfl : z = 193 := by omega
                  exact absurd hu (by decide +kernel)
                · skip
                  obtain rfl : z = 194 := by omega
                  exact absurd hu (by decide +kernel)
              · skip
                by_cases h195_197 : z < 196
                · skip
                  obtain rfl : z = 195 := by omega
                  exact absurd hu (by decide +kernel)
                · skip
                  obtain rfl : z = 196 := by omega
                  exact absurd hu (by decide +kernel)
        · skip
          by_cases h197_212 : z < 204
          · skip
            by_cases h197_204 : z < 200
            · skip
              by_cases h197_200 : z < 198
              · skip
                obtain rfl : z = 197 := by omega
                exact absurd hu (by decide +kernel)
              · skip
                by_cases h198_200 : z < 199
                · skip
                  obtain rfl : z = 198 := by omega
                  exact absurd hu (by decide +kernel)
                · skip
                  obtain rfl : z = 199 := by omega
                  exact absurd hu (by decide +kernel)
            · skip
              by_cases h200_204 : z < 202
              · skip
                by_cases h200_202 : z < 201
                · skip
                  obtain rfl : z = 200 := by omega
                  exact absurd hu (by decide +kernel)
                · skip
                  obtain rfl : z = 201 := by omega
                  exact absurd hu (by decide +kernel)
              · skip
                by_cases h202_204 : z < 203
                · skip
                  obtain rfl : z = 202 := by omega
                  exact absurd hu (by decide +kernel)
                · skip
                  obtain rfl : z = 203 := by omega
                  exact absurd hu (by decide +kernel)
          · skip
            by_cases h204_212 : z < 208
            · skip
              by_cases h204_208 : z < 206
              · skip
                by_cases h204_206 : z < 205
                · skip
                  obtain rfl : z = 204 := by omega
                  exact absurd hu (by decide +kernel)
                · skip
                  obtain rfl : z = 205 := by omega
                  exact absurd hu (by decide +kernel)
              · skip
                by_cases h206_208 : z < 207
                · skip
                  obtain rfl : z = 206 := by omega
                  exact absurd hu (by decide +kernel)
                · skip
                  obtain rfl : z = 207 := by omega
                  exact absurd hu (by decide +kernel)
            · skip
              by_cases h208_212 : z < 210
              · skip
                by_cases h208_210 : z < 209
                · skip
                  obtain rfl : z = 208 := by omega
                  exact absurd hu (by decide +kernel)
                · skip
                  obtain rfl : z = 209 := by omega
                  exact absurd hu (by decide +kernel)
              · skip
                by_cases h210_212 : z < 211
                · skip
                  obtain rfl : z = 210 := by omega
                  exact absurd hu (by decide +kernel)
                · skip
                  obtain rfl : z = 211 := by omega
                  exact absurd hu (by decide +kernel)
      · skip
        by_cases h212_243 : z < 227
        · skip
          by_cases h212_227 : z < 219
          · skip
            by_cases h212_219 : z < 215
            · skip
              by_cases h212_215 : z < 213
              · skip
                obtain rfl : z = 212 := by omega
                exact absurd hu (by decide +kernel)
              · skip
                by_cases h213_215 : z < 214
                · skip
                  obtain rfl : z = 213 := by omega
                  exact absurd hu (by decide +kernel)
                · skip
                  obtain rfl : z = 214 := by omega
                  exact absurd hu (by decide +kernel)
            · skip
              by_cases h215_219 : z < 217
              · skip
                by_cases h215_217 : z < 216
                · skip
                  obtain rfl : z = 215 := by omega
                  exact absurd hu (by decide +kernel)
                · skip
                  obtain rfl : z = 216 := by omega
                  exact absurd hu (by decide +kernel)
              · skip
                by_cases h217_219 : z < 218
                · skip
                  obtain rfl : z = 217 := by omega
                  exact absurd hu (by decide +kernel)
                · skip
                  obtain rfl : z = 218 := by omega
                  exact absurd hu (by decide +kernel)
          · skip
            by_cases h219_227 : z < 223
            · skip
              by_cases h219_223 : z < 221
              · skip
                by_cases h219_221 : z < 220
                · skip
                  obtain rfl : z = 219 := by omega
                  exact ⟨fun _ => ex_cz_219, fun h => absurd h (by decide +kernel)⟩
                · skip
                  obtain rfl : z = 220 := by omega
                  exact ⟨fun _ => ex_cz_220, fun h => absurd h (by decide +kernel)⟩
              · skip
                by_cases h221_223 : z < 222
                · skip
                  obtain rfl : z = 221 := by omega
                  exact ⟨fun _ => ex_cz_221, fun h => absurd h (by decide +kernel)⟩
                · skip
                  obtain rfl : z = 222 := by omega
                  exact ⟨fun _ => ex_cz_222, fun h => absurd h (by decide +kernel)⟩
            · skip
              by_cases h223_227 : z < 225
              · skip
                by_cases h223_225 : z < 224
                · skip
                  obtain rfl : z = 223 := by omega
                  exact ⟨fun _ => ex_cz_223, fun h => absurd h (by decide +kernel)⟩
                · skip
                  obtain rfl : z = 224 := by omega
                  exact ⟨fun _ => ex_cz_224, fun h => absurd h (by decide +kernel)⟩
              · skip
                by_cases h225_227 : z < 226
                · skip
                  obtain rfl : z = 225 := by omega
                  exact ⟨fun _ => ex_cz_225, fun h => absurd h (by decide +kernel)⟩
                · skip
                  obtain rfl : z = 226 := by omega
                  exact ⟨fun _ => ex_cz_226, fun h => absurd h (by decide +kernel)⟩
        · skip
          by_cases h227_243 : z < 235
          · skip
            by_cases h227_235 : z < 231
            · skip
              by_cases h227_231 : z < 229
              · skip
                by_cases h227_229 : z < 228
                · skip
                  obtain rfl : z = 227 := by omega
                  exact absurd hu (by decide +kernel)
                · skip
                  obtain rfl : z = 228 := by omega
                  exact absurd hu (by decide +kernel)
              · skip
                by_cases h229_231 : z < 230
                · skip
                  obtain rfl : z = 229 := by omega
                  exact absurd hu (by decide +kernel)
                · skip
                  obtain rfl : z = 230 := by omega
                  exact absurd hu (by decide +kernel)
            · skip
              by_cases h231_235 : z < 233
              · skip
                by_cases h231_233 : z < 232
                · skip
                  obtain rfl : z = 231 := by omega
                  exact absurd hu (by decide +kernel)
                · skip
                  obtain rfl : z = 232 := by omega
                  exact absurd hu (by decide +kernel)
              · skip
                by_cases h233_235 : z < 234
                · skip
                  obtain rfl : z = 233 := by omega
                  exact absurd hu (by decide +kernel)
                · skip
                  obtain rfl : z = 234 := by omega
                  exact absurd hu (by decide +kernel)
          · skip
            by_cases h235_243 : z < 239
            · skip
              by_cases h235_239 : z < 237
              · skip
                by_cases h235_237 : z < 236
                · skip
                  obtain rfl : z = 235 := by omega
                  exact absurd hu (by decide +kernel)
                · skip
                  obtain rfl : z = 236 := by omega
                  exact absurd hu (by decide +kernel)
              · skip
                by_cases h237_239 : z < 238
                · skip
                  obtain rfl : z = 237 := by omega
                  exact absurd hu (by decide +kernel)
                · skip
                  obtain rfl : z = 238 := by omega
                  exact absurd hu (by decide +kernel)
            · skip
              by_cases h239_243 : z < 241
              · skip
                by_cases h239_241 : z < 240
                · skip
                  obtain rfl : z = 239 := by omega
                  exact absurd hu (by decide +kernel)
                · skip
                  obtain rfl : z = 240 := by omega
                  exact absurd hu (by decide +kernel)
              · skip
                by_cases h241_243 : z < 242
                · skip
                  obtain rfl : z = 241 := by omega
                  exact absurd hu (by decide +kernel)
                · skip
                  obtain rfl : z = 242 := by omega
                  exact absurd hu (by decide +kernel)
