theorem gw0 : Cond.selects RX1 yX1_findPulls yX1_findPulls ∈ GW := gw_of (i := 0) (by decide +kernel) rfl
theorem gw1 : Cond.selects RX1 yX1_fillRows yX1_fillRows ∈ GW := gw_of (i := 1) (by decide +kernel) rfl
theorem gw2 : Cond.selects RX1 yX1_findDeterminants yX1_findDeterminants ∈ GW := gw_of (i := 2) (by decide +kernel) rfl
theorem gw6 : Cond.selects RX1 yX1_findBearings yX1_findBearings ∈ GW := gw_of (i := 6) (by decide +kernel) rfl
theorem gw7 : Cond.selects RX1 yX1_findAmounts yX1_findAmounts ∈ GW := gw_of (i := 7) (by decide +kernel) rfl
theorem gw9 : Cond.selects RX4 yX4_gather yX4_gather ∈ GW := gw_of (i := 9) (by decide +kernel) rfl
theorem gw10 : Cond.selects RX4 yX4_goForward yX4_goForward ∈ GW := gw_of (i := 10) (by decide +kernel) rfl
theorem gw12 : Cond.selects RX4 yX4_goBackward yX4_goBackward ∈ GW := gw_of (i := 12) (by decide +kernel) rfl
theorem gw13 : Cond.selects RX4 yX4_findOrder yX4_findOrder ∈ GW := gw_of (i := 13) (by decide +kernel) rfl
theorem gw15 : Cond.selects RX1 yX1_holdsAlong yX1_holdsAlong ∈ GW := gw_of (i := 15) (by decide +kernel) rfl
theorem gw17 : Cond.selects RX6 yX6_checkNode yX6_checkNode ∈ GW := gw_of (i := 17) (by decide +kernel) rfl
theorem gw18 : Cond.selects RX6 yX6_checkMember yX6_checkMember ∈ GW := gw_of (i := 18) (by decide +kernel) rfl
theorem gw19 : Cond.selects RX6 yX6_checkStanding yX6_checkStanding ∈ GW := gw_of (i := 19) (by decide +kernel) rfl
theorem gw21 : Cond.selects RX6 yX6_checkJoint yX6_checkJoint ∈ GW := gw_of (i := 21) (by decide +kernel) rfl
theorem gw23 : Cond.selects RX6 yX6_checkCut yX6_checkCut ∈ GW := gw_of (i := 23) (by decide +kernel) rfl
theorem gw24 : Cond.selects RX0 yX0_measure yX0_measure ∈ GW := gw_of (i := 24) (by decide +kernel) rfl
theorem gw27 : Cond.selects RX0 yX0_choose yX0_choose ∈ GW := gw_of (i := 27) (by decide +kernel) rfl
theorem gw28 : Cond.selects RX6 yX6_checkPlaceInOrder yX6_checkPlaceInOrder ∈ GW := gw_of (i := 28) (by decide +kernel) rfl
theorem gw29 : Cond.selects RX12 yX12_fails yX12_fails ∈ GW := gw_of (i := 29) (by decide +kernel) rfl
theorem gw30 : Cond.selects RJx4a65c yJx4a65c_add_72be8 yJx4a65c_add_72be8 ∈ GW := gw_of (i := 30) (by decide +kernel) rfl
theorem gw31 : Cond.selects RJx4a65c yJx4a65c_grow_d5877 yJx4a65c_grow_d5877 ∈ GW := gw_of (i := 31) (by decide +kernel) rfl
theorem gw32 : Cond.selects RJx4a65c yJx4a65c_grow_92f84 yJx4a65c_grow_92f84 ∈ GW := gw_of (i := 32) (by decide +kernel) rfl
theorem gw33 : Cond.selects RX12 yX12_changes yX12_changes ∈ GW := gw_of (i := 33) (by decide +kernel) rfl
theorem gw34 : Cond.selects RX12 yX12_tell yX12_tell ∈ GW := gw_of (i := 34) (by decide +kernel) rfl
theorem gw35 : Cond.selects RX12 yX12_isNode yX12_isNode ∈ GW := gw_of (i := 35) (by decide +kernel) rfl
theorem gw36 : Cond.selects RX12 yX12_reckons yX12_reckons ∈ GW := gw_of (i := 36) (by decide +kernel) rfl
theorem gw37 : Cond.selects RX12 yX12_unknowns yX12_unknowns ∈ GW := gw_of (i := 37) (by decide +kernel) rfl
theorem gw38 : Cond.selects RX12 yX12_determinant yX12_determinant ∈ GW := gw_of (i := 38) (by decide +kernel) rfl
theorem gw45 : Cond.selects RX12 yX12_isMember yX12_isMember ∈ GW := gw_of (i := 45) (by decide +kernel) rfl
theorem gw46 : Cond.selects RX12 yX12_failsLong yX12_failsLong ∈ GW := gw_of (i := 46) (by decide +kernel) rfl
theorem gw47 : Cond.selects RX12 yX12_stands yX12_stands ∈ GW := gw_of (i := 47) (by decide +kernel) rfl
theorem gw51 : Cond.selects RX12 yX12_tellLong yX12_tellLong ∈ GW := gw_of (i := 51) (by decide +kernel) rfl
theorem gw54 : Cond.selects RX12 yX12_refuses yX12_refuses ∈ GW := gw_of (i := 54) (by decide +kernel) rfl
theorem gw55 : Cond.selects RX12 yX12_restOf yX12_restOf ∈ GW := gw_of (i := 55) (by decide +kernel) rfl
theorem gw56 : Cond.selects RX12 yX12_tells yX12_tells ∈ GW := gw_of (i := 56) (by decide +kernel) rfl
theorem gw57 : Cond.selects RX12 yX12_isJoint yX12_isJoint ∈ GW := gw_of (i := 57) (by decide +kernel) rfl
theorem gw61 : Cond.selects RX12 yX12_areCut yX12_areCut ∈ GW := gw_of (i := 61) (by decide +kernel) rfl
theorem gw62 : Cond.selects RX12 yX12_saws yX12_saws ∈ GW := gw_of (i := 62) (by decide +kernel) rfl
theorem gw63 : Cond.selects RX12 yX12_sums yX12_sums ∈ GW := gw_of (i := 63) (by decide +kernel) rfl
theorem gw64 : Cond.selects RX12 yX12_areEnough yX12_areEnough ∈ GW := gw_of (i := 64) (by decide +kernel) rfl
theorem gw66 : Cond.selects RX12 yX12_cuts yX12_cuts ∈ GW := gw_of (i := 66) (by decide +kernel) rfl
theorem gw68 : Cond.selects RX12 yX12_hasOrder yX12_hasOrder ∈ GW := gw_of (i := 68) (by decide +kernel) rfl
theorem gw69 : Cond.selects RX12 yX12_raises yX12_raises ∈ GW := gw_of (i := 69) (by decide +kernel) rfl
theorem gw73 : Cond.selects RX12 yX12_isTakenAway yX12_isTakenAway ∈ GW := gw_of (i := 73) (by decide +kernel) rfl
theorem gw74 : Cond.initialized RL ∈ GW := gw_of (i := 74) (by decide +kernel) rfl
theorem gw75 : Cond.initialized RX6 ∈ GW := gw_of (i := 75) (by decide +kernel) rfl
theorem gw76 : Cond.initialized RX2 ∈ GW := gw_of (i := 76) (by decide +kernel) rfl
theorem gw77 : Cond.initialized RX1 ∈ GW := gw_of (i := 77) (by decide +kernel) rfl
theorem gw78 : Cond.initialized RX5 ∈ GW := gw_of (i := 78) (by decide +kernel) rfl
theorem gw79 : Cond.initialized RX3 ∈ GW := gw_of (i := 79) (by decide +kernel) rfl
theorem gw80 : Cond.initialized RX0 ∈ GW := gw_of (i := 80) (by decide +kernel) rfl
theorem gw81 : Cond.initialized RX4 ∈ GW := gw_of (i := 81) (by decide +kernel) rfl
theorem gw82 : Cond.initialized RX12 ∈ GW := gw_of (i := 82) (by decide +kernel) rfl
theorem gw83 : Cond.initialized RJxa1e45 ∈ GW := gw_of (i := 83) (by decide +kernel) rfl
theorem gw84 : Cond.initialized RJxc12de ∈ GW := gw_of (i := 84) (by decide +kernel) rfl
theorem gw85 : Cond.initialized RJx4a65c ∈ GW := gw_of (i := 85) (by decide +kernel) rfl
theorem gw86 : Cond.initialized RJ0 ∈ GW := gw_of (i := 86) (by decide +kernel) rfl
theorem gw87 : Cond.initialized RJ1 ∈ GW := gw_of (i := 87) (by decide +kernel) rfl
theorem gw88 : Cond.initialized RJ9 ∈ GW := gw_of (i := 88) (by decide +kernel) rfl
theorem gw95 : Cond.initialized "java/lang/IllegalArgumentException" ∈ GW := gw_of (i := 95) (by decide +kernel) rfl
theorem gw97 : Cond.initialized RX9 ∈ GW := gw_of (i := 97) (by decide +kernel) rfl
theorem gw101 : Cond.initialized "java/lang/IndexOutOfBoundsException" ∈ GW := gw_of (i := 101) (by decide +kernel) rfl
theorem gw105 : Cond.initialized RJ6 ∈ GW := gw_of (i := 105) (by decide +kernel) rfl
theorem gw107 : Cond.initialized "java/util/NoSuchElementException" ∈ GW := gw_of (i := 107) (by decide +kernel) rfl
theorem gw110 : Cond.initialized RX10 ∈ GW := gw_of (i := 110) (by decide +kernel) rfl
theorem gw111 : Cond.initialized "java/lang/ArithmeticException" ∈ GW := gw_of (i := 111) (by decide +kernel) rfl
theorem gw112 : Cond.classLink RL 8 RX6 ∈ GW := gw_of (i := 112) (by decide +kernel) rfl
theorem gw113 : Cond.instantiable RX6 5 ∈ GW := gw_of (i := 113) (by decide +kernel) rfl
theorem gw114 : Cond.methodLink RL 115 yX6_init ∈ GW := gw_of (i := 114) (by decide +kernel) rfl
theorem gw115 : Cond.instanceMethod yX6_init ∈ GW := gw_of (i := 115) (by decide +kernel) rfl
theorem gw116 : Cond.code yX6_init cX6_init 1 none ∈ GW := gw_of (i := 116) (by decide +kernel) rfl
theorem gw117 : Cond.methodLink RX6 3 objectInit ∈ GW := gw_of (i := 117) (by decide +kernel) rfl
theorem gw118 : Cond.instanceMethod objectInit ∈ GW := gw_of (i := 118) (by decide +kernel) rfl
theorem gw119 : Cond.code objectInit ⟨#[0xb1]⟩ 1 none ∈ GW := gw_of (i := 119) (by decide +kernel) rfl
theorem gw120 : Cond.classLink RX6 9 RX2 ∈ GW := gw_of (i := 120) (by decide +kernel) rfl
theorem gw121 : Cond.instantiable RX2 12 ∈ GW := gw_of (i := 121) (by decide +kernel) rfl
theorem gw122 : Cond.methodLinkNest RX6 11 yX2_init "Tenonyard" ∈ NW := nw_of (i := 122) (by decide +kernel) rfl
theorem gw123 : Cond.instanceMethod yX2_init ∈ GW := gw_of (i := 123) (by decide +kernel) rfl
theorem gw124 : Cond.code yX2_init cX2_init 1 none ∈ GW := gw_of (i := 124) (by decide +kernel) rfl
theorem gw125 : Cond.methodLink RX2 3 objectInit ∈ GW := gw_of (i := 125) (by decide +kernel) rfl
theorem gw126 : Cond.fieldLink RX2 43 "Tenonyard$Frame" "nodes" "I" ∈ GW := gw_of (i := 126) (by decide +kernel) rfl
theorem gw127 : Cond.fieldLink RX6 63 "Tenonyard$Frame" "nodes" "I" ∈ GW := gw_of (i := 127) (by decide +kernel) rfl
theorem gw128 : Cond.fieldLink RX1 78 "Tenonyard$Frame" "nodes" "I" ∈ GW := gw_of (i := 128) (by decide +kernel) rfl
theorem gw130 : Cond.fieldLink RX4 41 "Tenonyard$Frame" "members" "I" ∈ GW := gw_of (i := 130) (by decide +kernel) rfl
theorem gw131 : Cond.fieldLink RX6 93 "Tenonyard$Frame" "members" "I" ∈ GW := gw_of (i := 131) (by decide +kernel) rfl
theorem gw132 : Cond.fieldLink RX0 53 "Tenonyard$Frame" "members" "I" ∈ GW := gw_of (i := 132) (by decide +kernel) rfl
theorem gw133 : Cond.fieldLink RX1 88 "Tenonyard$Frame" "members" "I" ∈ GW := gw_of (i := 133) (by decide +kernel) rfl
theorem gw134 : Cond.fieldLink RX2 9 "Tenonyard$Frame" "places" "[I" ∈ GW := gw_of (i := 134) (by decide +kernel) rfl
theorem gw136 : Cond.fieldLink RX2 15 "Tenonyard$Frame" "loads" "[I" ∈ GW := gw_of (i := 136) (by decide +kernel) rfl
theorem gw138 : Cond.fieldLink RX2 18 "Tenonyard$Frame" "loadCounts" "[I" ∈ GW := gw_of (i := 138) (by decide +kernel) rfl
theorem gw139 : Cond.fieldLink RX2 21 "Tenonyard$Frame" "kinds" "[C" ∈ GW := gw_of (i := 139) (by decide +kernel) rfl
theorem gw140 : Cond.fieldLink RX2 25 "Tenonyard$Frame" "firstNodes" "[I" ∈ GW := gw_of (i := 140) (by decide +kernel) rfl
theorem gw141 : Cond.fieldLink RX2 28 "Tenonyard$Frame" "secondNodes" "[I" ∈ GW := gw_of (i := 141) (by decide +kernel) rfl
theorem gw142 : Cond.fieldLink RX2 31 "Tenonyard$Frame" "breadths" "[I" ∈ GW := gw_of (i := 142) (by decide +kernel) rfl
theorem gw145 : Cond.fieldLink RX2 34 "Tenonyard$Frame" "grades" "[I" ∈ GW := gw_of (i := 145) (by decide +kernel) rfl
theorem gw147 : Cond.fieldLink RX2 37 "Tenonyard$Frame" "cutMoistures" "[I" ∈ GW := gw_of (i := 147) (by decide +kernel) rfl
theorem gw150 : Cond.fieldLink RX2 40 "Tenonyard$Frame" "driedMoistures" "[I" ∈ GW := gw_of (i := 150) (by decide +kernel) rfl
theorem gw178 : Cond.arrayClass .int ∈ GW := gw_of (i := 178) (by decide +kernel) rfl
theorem gw179 : Cond.arrayClass .char ∈ GW := gw_of (i := 179) (by decide +kernel) rfl
theorem gw180 : Cond.classLink RX6 16 RX1 ∈ GW := gw_of (i := 180) (by decide +kernel) rfl
theorem gw181 : Cond.instantiable RX1 17 ∈ GW := gw_of (i := 181) (by decide +kernel) rfl
theorem gw182 : Cond.methodLinkNest RX6 18 yX1_init "Tenonyard" ∈ NW := nw_of (i := 182) (by decide +kernel) rfl
theorem gw183 : Cond.instanceMethod yX1_init ∈ GW := gw_of (i := 183) (by decide +kernel) rfl
theorem gw184 : Cond.code yX1_init cX1_init 1 none ∈ GW := gw_of (i := 184) (by decide +kernel) rfl
theorem gw185 : Cond.methodLink RX1 3 objectInit ∈ GW := gw_of (i := 185) (by decide +kernel) rfl
theorem gw186 : Cond.classLink RX1 40 RX5 ∈ GW := gw_of (i := 186) (by decide +kernel) rfl
theorem gw187 : Cond.instantiable RX5 1 ∈ GW := gw_of (i := 187) (by decide +kernel) rfl
theorem gw188 : Cond.methodLinkNest RX1 42 yX5_init "Tenonyard" ∈ NW := nw_of (i := 188) (by decide +kernel) rfl
theorem gw189 : Cond.instanceMethod yX5_init ∈ GW := gw_of (i := 189) (by decide +kernel) rfl
theorem gw190 : Cond.code yX5_init cX5_init 1 none ∈ GW := gw_of (i := 190) (by decide +kernel) rfl
theorem gw191 : Cond.methodLink RX5 1 objectInit ∈ GW := gw_of (i := 191) (by decide +kernel) rfl
theorem gw192 : Cond.fieldLink RX5 9 "Tenonyard$Wide" "parts" "[J" ∈ GW := gw_of (i := 192) (by decide +kernel) rfl
theorem gw196 : Cond.arrayClass .long ∈ GW := gw_of (i := 196) (by decide +kernel) rfl
theorem gw197 : Cond.fieldLink RX6 72 "Tenonyard$Forces" "isFound" "Z" ∈ GW := gw_of (i := 197) (by decide +kernel) rfl
theorem gw198 : Cond.fieldLink RX1 59 "Tenonyard$Forces" "isFound" "Z" ∈ GW := gw_of (i := 198) (by decide +kernel) rfl
theorem gw199 : Cond.fieldLink RX1 67 "Tenonyard$Forces" "outcome" "C" ∈ GW := gw_of (i := 199) (by decide +kernel) rfl
theorem gw200 : Cond.fieldLink RX6 114 "Tenonyard$Forces" "outcome" "C" ∈ GW := gw_of (i := 200) (by decide +kernel) rfl
theorem gw201 : Cond.fieldLink RX1 104 "Tenonyard$Forces" "divisor" "J" ∈ GW := gw_of (i := 201) (by decide +kernel) rfl
theorem gw202 : Cond.fieldLink RX1 11 "Tenonyard$Forces" "wholes" "[J" ∈ GW := gw_of (i := 202) (by decide +kernel) rfl
theorem gw203 : Cond.fieldLink RX1 15 "Tenonyard$Forces" "rests" "[J" ∈ GW := gw_of (i := 203) (by decide +kernel) rfl
theorem gw204 : Cond.fieldLink RX1 18 "Tenonyard$Forces" "amounts" "[J" ∈ GW := gw_of (i := 204) (by decide +kernel) rfl
theorem gw206 : Cond.fieldLink RX1 21 "Tenonyard$Forces" "ways" "[I" ∈ GW := gw_of (i := 206) (by decide +kernel) rfl
theorem gw207 : Cond.fieldLink RX1 25 "Tenonyard$Forces" "highAsked" "[I" ∈ GW := gw_of (i := 207) (by decide +kernel) rfl
theorem gw208 : Cond.fieldLink RX1 28 "Tenonyard$Forces" "lowAsked" "[I" ∈ GW := gw_of (i := 208) (by decide +kernel) rfl
theorem gw209 : Cond.fieldLink RX1 31 "Tenonyard$Forces" "plain" "[J" ∈ GW := gw_of (i := 209) (by decide +kernel) rfl
theorem gw210 : Cond.fieldLink RX1 34 "Tenonyard$Forces" "high" "[J" ∈ GW := gw_of (i := 210) (by decide +kernel) rfl
theorem gw211 : Cond.fieldLink RX1 37 "Tenonyard$Forces" "low" "[J" ∈ GW := gw_of (i := 211) (by decide +kernel) rfl
theorem gw212 : Cond.fieldLink RX1 43 "Tenonyard$Forces" "factor" "LTenonyard$Wide;" ∈ GW := gw_of (i := 212) (by decide +kernel) rfl
theorem gw213 : Cond.fieldLink RX1 47 "Tenonyard$Forces" "wideDivisor" "LTenonyard$Wide;" ∈ GW := gw_of (i := 213) (by decide +kernel) rfl
theorem gw214 : Cond.fieldLink RX1 50 "Tenonyard$Forces" "product" "LTenonyard$Wide;" ∈ GW := gw_of (i := 214) (by decide +kernel) rfl
theorem gw215 : Cond.fieldLink RX1 53 "Tenonyard$Forces" "square" "LTenonyard$Wide;" ∈ GW := gw_of (i := 215) (by decide +kernel) rfl
theorem gw216 : Cond.fieldLink RX1 56 "Tenonyard$Forces" "greatestSquare" "LTenonyard$Wide;" ∈ GW := gw_of (i := 216) (by decide +kernel) rfl
theorem gw252 : Cond.classLink RX6 23 RX3 ∈ GW := gw_of (i := 252) (by decide +kernel) rfl
theorem gw253 : Cond.instantiable RX3 6 ∈ GW := gw_of (i := 253) (by decide +kernel) rfl
theorem gw254 : Cond.methodLinkNest RX6 25 yX3_init "Tenonyard" ∈ NW := nw_of (i := 254) (by decide +kernel) rfl
theorem gw255 : Cond.instanceMethod yX3_init ∈ GW := gw_of (i := 255) (by decide +kernel) rfl
theorem gw256 : Cond.code yX3_init cX3_init 1 none ∈ GW := gw_of (i := 256) (by decide +kernel) rfl
theorem gw257 : Cond.methodLink RX3 3 objectInit ∈ GW := gw_of (i := 257) (by decide +kernel) rfl
theorem gw260 : Cond.fieldLink RX6 170 "Tenonyard$Joinery" "count" "I" ∈ GW := gw_of (i := 260) (by decide +kernel) rfl
theorem gw261 : Cond.fieldLink RX3 9 "Tenonyard$Joinery" "goingIn" "[I" ∈ GW := gw_of (i := 261) (by decide +kernel) rfl
theorem gw262 : Cond.fieldLink RX3 15 "Tenonyard$Joinery" "receiving" "[I" ∈ GW := gw_of (i := 262) (by decide +kernel) rfl
theorem gw263 : Cond.fieldLink RX3 18 "Tenonyard$Joinery" "ways" "[I" ∈ GW := gw_of (i := 263) (by decide +kernel) rfl
theorem gw264 : Cond.fieldLink RX3 21 "Tenonyard$Joinery" "thicknesses" "[I" ∈ GW := gw_of (i := 264) (by decide +kernel) rfl
theorem gw265 : Cond.fieldLink RX3 24 "Tenonyard$Joinery" "marks" "[I" ∈ GW := gw_of (i := 265) (by decide +kernel) rfl
theorem gw279 : Cond.classLink RX6 30 RX0 ∈ GW := gw_of (i := 279) (by decide +kernel) rfl
theorem gw280 : Cond.instantiable RX0 11 ∈ GW := gw_of (i := 280) (by decide +kernel) rfl
theorem gw281 : Cond.methodLinkNest RX6 32 yX0_init "Tenonyard" ∈ NW := nw_of (i := 281) (by decide +kernel) rfl
theorem gw282 : Cond.instanceMethod yX0_init ∈ GW := gw_of (i := 282) (by decide +kernel) rfl
theorem gw283 : Cond.code yX0_init cX0_init 1 none ∈ GW := gw_of (i := 283) (by decide +kernel) rfl
theorem gw284 : Cond.methodLink RX0 3 objectInit ∈ GW := gw_of (i := 284) (by decide +kernel) rfl
theorem gw285 : Cond.fieldLink RX0 34 "Tenonyard$Cutting" "count" "I" ∈ GW := gw_of (i := 285) (by decide +kernel) rfl
theorem gw286 : Cond.fieldLink RX6 210 "Tenonyard$Cutting" "count" "I" ∈ GW := gw_of (i := 286) (by decide +kernel) rfl
theorem gw287 : Cond.fieldLink RX6 98 "Tenonyard$Cutting" "isFound" "Z" ∈ GW := gw_of (i := 287) (by decide +kernel) rfl
theorem gw288 : Cond.fieldLink RX0 49 "Tenonyard$Cutting" "isFound" "Z" ∈ GW := gw_of (i := 288) (by decide +kernel) rfl
theorem gw289 : Cond.fieldLink RX0 89 "Tenonyard$Cutting" "canCut" "Z" ∈ GW := gw_of (i := 289) (by decide +kernel) rfl
theorem gw290 : Cond.fieldLink RX6 291 "Tenonyard$Cutting" "canCut" "Z" ∈ GW := gw_of (i := 290) (by decide +kernel) rfl
theorem gw291 : Cond.fieldLink RX0 92 "Tenonyard$Cutting" "usedLength" "I" ∈ GW := gw_of (i := 291) (by decide +kernel) rfl
theorem gw292 : Cond.fieldLink RX6 225 "Tenonyard$Cutting" "usedLength" "I" ∈ GW := gw_of (i := 292) (by decide +kernel) rfl
theorem gw293 : Cond.fieldLink RX0 9 "Tenonyard$Cutting" "chosen" "[I" ∈ GW := gw_of (i := 293) (by decide +kernel) rfl
theorem gw295 : Cond.fieldLink RX0 15 "Tenonyard$Cutting" "lengths" "[I" ∈ GW := gw_of (i := 295) (by decide +kernel) rfl
theorem gw296 : Cond.fieldLink RX0 18 "Tenonyard$Cutting" "breadths" "[I" ∈ GW := gw_of (i := 296) (by decide +kernel) rfl
theorem gw297 : Cond.fieldLink RX0 21 "Tenonyard$Cutting" "grades" "[I" ∈ GW := gw_of (i := 297) (by decide +kernel) rfl
theorem gw298 : Cond.fieldLink RX0 24 "Tenonyard$Cutting" "spans" "[I" ∈ GW := gw_of (i := 298) (by decide +kernel) rfl
theorem gw299 : Cond.fieldLink RX0 27 "Tenonyard$Cutting" "weights" "[I" ∈ GW := gw_of (i := 299) (by decide +kernel) rfl
theorem gw300 : Cond.fieldLink RX0 30 "Tenonyard$Cutting" "costs" "[J" ∈ GW := gw_of (i := 300) (by decide +kernel) rfl
theorem gw324 : Cond.classLink RX6 37 RX4 ∈ GW := gw_of (i := 324) (by decide +kernel) rfl
theorem gw325 : Cond.instantiable RX4 9 ∈ GW := gw_of (i := 325) (by decide +kernel) rfl
theorem gw326 : Cond.methodLinkNest RX6 39 yX4_init "Tenonyard" ∈ NW := nw_of (i := 326) (by decide +kernel) rfl
theorem gw327 : Cond.instanceMethod yX4_init ∈ GW := gw_of (i := 327) (by decide +kernel) rfl
theorem gw328 : Cond.code yX4_init cX4_init 1 none ∈ GW := gw_of (i := 328) (by decide +kernel) rfl
theorem gw329 : Cond.methodLink RX4 3 objectInit ∈ GW := gw_of (i := 329) (by decide +kernel) rfl
theorem gw330 : Cond.fieldLink RX4 9 "Tenonyard$Raising" "limit" "I" ∈ GW := gw_of (i := 330) (by decide +kernel) rfl
theorem gw331 : Cond.fieldLink RX6 238 "Tenonyard$Raising" "limit" "I" ∈ GW := gw_of (i := 331) (by decide +kernel) rfl
theorem gw332 : Cond.fieldLink RX4 37 "Tenonyard$Raising" "isFound" "Z" ∈ GW := gw_of (i := 332) (by decide +kernel) rfl
theorem gw333 : Cond.fieldLink RX6 99 "Tenonyard$Raising" "isFound" "Z" ∈ GW := gw_of (i := 333) (by decide +kernel) rfl
theorem gw334 : Cond.fieldLink RX4 34 "Tenonyard$Raising" "all" "I" ∈ GW := gw_of (i := 334) (by decide +kernel) rfl
theorem gw335 : Cond.fieldLink RX4 60 "Tenonyard$Raising" "hanging" "I" ∈ GW := gw_of (i := 335) (by decide +kernel) rfl
theorem gw336 : Cond.fieldLink RX4 17 "Tenonyard$Raising" "asking" "[I" ∈ GW := gw_of (i := 336) (by decide +kernel) rfl
theorem gw337 : Cond.fieldLink RX4 21 "Tenonyard$Raising" "joined" "[I" ∈ GW := gw_of (i := 337) (by decide +kernel) rfl
theorem gw338 : Cond.fieldLink RX4 24 "Tenonyard$Raising" "orderCounts" "[I" ∈ GW := gw_of (i := 338) (by decide +kernel) rfl
theorem gw339 : Cond.fieldLink RX4 27 "Tenonyard$Raising" "leadsToAll" "[Z" ∈ GW := gw_of (i := 339) (by decide +kernel) rfl
theorem gw340 : Cond.fieldLink RX6 254 "Tenonyard$Raising" "leadsToAll" "[Z" ∈ GW := gw_of (i := 340) (by decide +kernel) rfl
theorem gw341 : Cond.fieldLink RX4 31 "Tenonyard$Raising" "order" "[I" ∈ GW := gw_of (i := 341) (by decide +kernel) rfl
theorem gw362 : Cond.arrayClass .boolean ∈ GW := gw_of (i := 362) (by decide +kernel) rfl
theorem gw363 : Cond.fieldLink RX6 12 "Tenonyard" "frame" "LTenonyard$Frame;" ∈ GW := gw_of (i := 363) (by decide +kernel) rfl
theorem gw364 : Cond.fieldLink RX6 19 "Tenonyard" "forces" "LTenonyard$Forces;" ∈ GW := gw_of (i := 364) (by decide +kernel) rfl
theorem gw365 : Cond.fieldLink RX6 26 "Tenonyard" "joinery" "LTenonyard$Joinery;" ∈ GW := gw_of (i := 365) (by decide +kernel) rfl
theorem gw366 : Cond.fieldLink RX6 33 "Tenonyard" "cutting" "LTenonyard$Cutting;" ∈ GW := gw_of (i := 366) (by decide +kernel) rfl
theorem gw367 : Cond.fieldLink RX6 40 "Tenonyard" "raising" "LTenonyard$Raising;" ∈ GW := gw_of (i := 367) (by decide +kernel) rfl
theorem gw379 : Cond.methodLink RL 136 yX6_state ∈ GW := gw_of (i := 379) (by decide +kernel) rfl
theorem gw380 : Cond.instanceMethod yX6_state ∈ GW := gw_of (i := 380) (by decide +kernel) rfl
theorem gw381 : Cond.selects RX6 yX6_state yX6_state ∈ GW := gw_of (i := 381) (by decide +kernel) rfl
theorem gw382 : Cond.code yX6_state cX6_state 1 (some .char) ∈ GW := gw_of (i := 382) (by decide +kernel) rfl
theorem gw383 : Cond.methodLink RX6 110 yX1_find ∈ GW := gw_of (i := 383) (by decide +kernel) rfl
theorem gw384 : Cond.instanceMethod yX1_find ∈ GW := gw_of (i := 384) (by decide +kernel) rfl
theorem gw385 : Cond.selects RX1 yX1_find yX1_find ∈ GW := gw_of (i := 385) (by decide +kernel) rfl
theorem gw386 : Cond.code yX1_find cX1_find 2 none ∈ GW := gw_of (i := 386) (by decide +kernel) rfl
theorem gw387 : Cond.methodLink RX1 63 yX1_findPulls ∈ GW := gw_of (i := 387) (by decide +kernel) rfl
theorem gw389 : Cond.instanceMethod yX1_findPulls ∈ GW := gw_of (i := 389) (by decide +kernel) rfl
theorem gw390 : Cond.code yX1_findPulls cX1_findPulls 7 (some .char) ∈ GW := gw_of (i := 390) (by decide +kernel) rfl
theorem gw395 : Cond.methodLink RX1 91 yX1_fillRows ∈ GW := gw_of (i := 395) (by decide +kernel) rfl
theorem gw397 : Cond.instanceMethod yX1_fillRows ∈ GW := gw_of (i := 397) (by decide +kernel) rfl
theorem gw398 : Cond.code yX1_fillRows cX1_fillRows 7 none ∈ GW := gw_of (i := 398) (by decide +kernel) rfl
theorem gw407 : Cond.methodLink RX1 94 yX1_findDeterminants ∈ GW := gw_of (i := 407) (by decide +kernel) rfl
theorem gw409 : Cond.instanceMethod yX1_findDeterminants ∈ GW := gw_of (i := 409) (by decide +kernel) rfl
theorem gw410 : Cond.code yX1_findDeterminants cX1_findDeterminants 4 none ∈ GW := gw_of (i := 410) (by decide +kernel) rfl
theorem gw411 : Cond.methodLink RX1 119 yJ6_bitCount_0f7a4 ∈ GW := gw_of (i := 411) (by decide +kernel) rfl
theorem gw412 : Cond.static yJ6_bitCount_0f7a4 ∈ GW := gw_of (i := 412) (by decide +kernel) rfl
theorem gw413 : Cond.code yJ6_bitCount_0f7a4 cJ6_bitCount_0f7a4 1 (some .int) ∈ GW := gw_of (i := 413) (by decide +kernel) rfl
theorem gw414 : Cond.constant RJ6 265 (1431655765) ∈ GW := gw_of (i := 414) (by decide +kernel) rfl
theorem gw415 : Cond.constant RJ6 266 (858993459) ∈ GW := gw_of (i := 415) (by decide +kernel) rfl
theorem gw416 : Cond.constant RJ6 267 (252645135) ∈ GW := gw_of (i := 416) (by decide +kernel) rfl
theorem gw421 : Cond.methodLink RX1 98 Lib.MathLoose.abs_long.x ∈ GW := gw_of (i := 421) (by decide +kernel) rfl
theorem gw422 : Cond.static Lib.MathLoose.abs_long.x ∈ GW := gw_of (i := 422) (by decide +kernel) rfl
theorem gw423 : Cond.code Lib.MathLoose.abs_long.x Lib.MathLoose.abs_long.code 2 (some .long) ∈ GW := gw_of (i := 423) (by decide +kernel) rfl
theorem gw439 : Cond.methodLink RX1 71 yX1_findBearings ∈ GW := gw_of (i := 439) (by decide +kernel) rfl
theorem gw441 : Cond.instanceMethod yX1_findBearings ∈ GW := gw_of (i := 441) (by decide +kernel) rfl
theorem gw442 : Cond.code yX1_findBearings cX1_findBearings 6 none ∈ GW := gw_of (i := 442) (by decide +kernel) rfl
theorem gw443 : Cond.methodLink RX1 75 yX1_findAmounts ∈ GW := gw_of (i := 443) (by decide +kernel) rfl
theorem gw445 : Cond.instanceMethod yX1_findAmounts ∈ GW := gw_of (i := 445) (by decide +kernel) rfl
theorem gw446 : Cond.code yX1_findAmounts cX1_findAmounts 8 none ∈ GW := gw_of (i := 446) (by decide +kernel) rfl
theorem gw447 : Cond.methodLink RX1 141 yX5_set ∈ GW := gw_of (i := 447) (by decide +kernel) rfl
theorem gw448 : Cond.instanceMethod yX5_set ∈ GW := gw_of (i := 448) (by decide +kernel) rfl
theorem gw449 : Cond.selects RX5 yX5_set yX5_set ∈ GW := gw_of (i := 449) (by decide +kernel) rfl
theorem gw450 : Cond.code yX5_set cX5_set 4 none ∈ GW := gw_of (i := 450) (by decide +kernel) rfl
theorem gw451 : Cond.constantLong RX5 13 (4294967295) ∈ GW := gw_of (i := 451) (by decide +kernel) rfl
theorem gw477 : Cond.methodLink RL 169 yX6_clashes ∈ GW := gw_of (i := 477) (by decide +kernel) rfl
theorem gw478 : Cond.instanceMethod yX6_clashes ∈ GW := gw_of (i := 478) (by decide +kernel) rfl
theorem gw479 : Cond.selects RX6 yX6_clashes yX6_clashes ∈ GW := gw_of (i := 479) (by decide +kernel) rfl
theorem gw480 : Cond.code yX6_clashes cX6_clashes 4 (some .int) ∈ GW := gw_of (i := 480) (by decide +kernel) rfl
theorem gw489 : Cond.methodLink RL 207 yX6_canRaise ∈ GW := gw_of (i := 489) (by decide +kernel) rfl
theorem gw490 : Cond.instanceMethod yX6_canRaise ∈ GW := gw_of (i := 490) (by decide +kernel) rfl
theorem gw491 : Cond.selects RX6 yX6_canRaise yX6_canRaise ∈ GW := gw_of (i := 491) (by decide +kernel) rfl
theorem gw492 : Cond.code yX6_canRaise cX6_canRaise 1 (some .boolean) ∈ GW := gw_of (i := 492) (by decide +kernel) rfl
theorem gw493 : Cond.methodLink RX6 247 yX4_find ∈ GW := gw_of (i := 493) (by decide +kernel) rfl
theorem gw494 : Cond.instanceMethod yX4_find ∈ GW := gw_of (i := 494) (by decide +kernel) rfl
theorem gw495 : Cond.selects RX4 yX4_find yX4_find ∈ GW := gw_of (i := 495) (by decide +kernel) rfl
theorem gw496 : Cond.code yX4_find cX4_find 3 none ∈ GW := gw_of (i := 496) (by decide +kernel) rfl
theorem gw497 : Cond.methodLink RX4 46 yX4_gather ∈ GW := gw_of (i := 497) (by decide +kernel) rfl
theorem gw499 : Cond.instanceMethod yX4_gather ∈ GW := gw_of (i := 499) (by decide +kernel) rfl
theorem gw500 : Cond.code yX4_gather cX4_gather 6 none ∈ GW := gw_of (i := 500) (by decide +kernel) rfl
theorem gw513 : Cond.methodLink RX4 50 yX4_goForward ∈ GW := gw_of (i := 513) (by decide +kernel) rfl
theorem gw515 : Cond.instanceMethod yX4_goForward ∈ GW := gw_of (i := 515) (by decide +kernel) rfl
theorem gw516 : Cond.code yX4_goForward cX4_goForward 6 none ∈ GW := gw_of (i := 516) (by decide +kernel) rfl
theorem gw526 : Cond.methodLink RX4 54 yX4_goBackward ∈ GW := gw_of (i := 526) (by decide +kernel) rfl
theorem gw528 : Cond.instanceMethod yX4_goBackward ∈ GW := gw_of (i := 528) (by decide +kernel) rfl
theorem gw529 : Cond.code yX4_goBackward cX4_goBackward 6 none ∈ GW := gw_of (i := 529) (by decide +kernel) rfl
theorem gw530 : Cond.methodLink RX4 57 yX4_findOrder ∈ GW := gw_of (i := 530) (by decide +kernel) rfl
theorem gw532 : Cond.instanceMethod yX4_findOrder ∈ GW := gw_of (i := 532) (by decide +kernel) rfl
theorem gw533 : Cond.code yX4_findOrder cX4_findOrder 5 none ∈ GW := gw_of (i := 533) (by decide +kernel) rfl
theorem gw538 : Cond.methodLink RX6 250 yX4_orderCount ∈ GW := gw_of (i := 538) (by decide +kernel) rfl
theorem gw539 : Cond.instanceMethod yX4_orderCount ∈ GW := gw_of (i := 539) (by decide +kernel) rfl
theorem gw540 : Cond.selects RX4 yX4_orderCount yX4_orderCount ∈ GW := gw_of (i := 540) (by decide +kernel) rfl
theorem gw541 : Cond.code yX4_orderCount cX4_orderCount 1 (some .int) ∈ GW := gw_of (i := 541) (by decide +kernel) rfl
theorem gw542 : Cond.methodLink RL 212 yX6_canTakeAway ∈ GW := gw_of (i := 542) (by decide +kernel) rfl
theorem gw543 : Cond.instanceMethod yX6_canTakeAway ∈ GW := gw_of (i := 543) (by decide +kernel) rfl
theorem gw544 : Cond.selects RX6 yX6_canTakeAway yX6_canTakeAway ∈ GW := gw_of (i := 544) (by decide +kernel) rfl
theorem gw545 : Cond.code yX6_canTakeAway cX6_canTakeAway 1 (some .boolean) ∈ GW := gw_of (i := 545) (by decide +kernel) rfl
theorem gw546 : Cond.methodLink RL 216 yX6_orders ∈ GW := gw_of (i := 546) (by decide +kernel) rfl
theorem gw547 : Cond.instanceMethod yX6_orders ∈ GW := gw_of (i := 547) (by decide +kernel) rfl
theorem gw548 : Cond.selects RX6 yX6_orders yX6_orders ∈ GW := gw_of (i := 548) (by decide +kernel) rfl
theorem gw549 : Cond.code yX6_orders cX6_orders 1 (some .int) ∈ GW := gw_of (i := 549) (by decide +kernel) rfl
theorem gw550 : Cond.methodLink RL 236 yX6_isSound ∈ GW := gw_of (i := 550) (by decide +kernel) rfl
theorem gw551 : Cond.instanceMethod yX6_isSound ∈ GW := gw_of (i := 551) (by decide +kernel) rfl
theorem gw552 : Cond.selects RX6 yX6_isSound yX6_isSound ∈ GW := gw_of (i := 552) (by decide +kernel) rfl
theorem gw553 : Cond.code yX6_isSound cX6_isSound 2 (some .boolean) ∈ GW := gw_of (i := 553) (by decide +kernel) rfl
theorem gw554 : Cond.methodLink RX6 138 yX1_holdsAt ∈ GW := gw_of (i := 554) (by decide +kernel) rfl
theorem gw555 : Cond.instanceMethod yX1_holdsAt ∈ GW := gw_of (i := 555) (by decide +kernel) rfl
theorem gw556 : Cond.selects RX1 yX1_holdsAt yX1_holdsAt ∈ GW := gw_of (i := 556) (by decide +kernel) rfl
theorem gw557 : Cond.code yX1_holdsAt cX1_holdsAt 3 (some .boolean) ∈ GW := gw_of (i := 557) (by decide +kernel) rfl
theorem gw558 : Cond.methodLink RX1 185 yX1_holdsAlong ∈ GW := gw_of (i := 558) (by decide +kernel) rfl
theorem gw560 : Cond.instanceMethod yX1_holdsAlong ∈ GW := gw_of (i := 560) (by decide +kernel) rfl
theorem gw561 : Cond.code yX1_holdsAlong cX1_holdsAlong 12 (some .boolean) ∈ GW := gw_of (i := 561) (by decide +kernel) rfl
theorem gw567 : Cond.methodLink RX6 273 yX6_canRaise ∈ GW := gw_of (i := 567) (by decide +kernel) rfl
theorem gw568 : Cond.methodLink RX6 277 yX6_canTakeAway ∈ GW := gw_of (i := 568) (by decide +kernel) rfl
theorem gw569 : Cond.methodLink RL 119 yL_node ∈ GW := gw_of (i := 569) (by decide +kernel) rfl
theorem gw570 : Cond.static yL_node ∈ GW := gw_of (i := 570) (by decide +kernel) rfl
theorem gw571 : Cond.codeWith yL_node cL_node 6 (some .int) [(0, 12, 15, 13), (0, 12, 19, 15)] ∈ GW := gw_of (i := 571) (by decide +kernel) rfl
theorem gw572 : Cond.classLink RL 13 "java/lang/IllegalArgumentException" ∈ GW := gw_of (i := 572) (by decide +kernel) rfl
theorem gw573 : Cond.classLink RL 15 "java/lang/IllegalStateException" ∈ GW := gw_of (i := 573) (by decide +kernel) rfl
theorem gw574 : Cond.methodLink RL 7 yX6_node ∈ GW := gw_of (i := 574) (by decide +kernel) rfl
theorem gw575 : Cond.instanceMethod yX6_node ∈ GW := gw_of (i := 575) (by decide +kernel) rfl
theorem gw576 : Cond.selects RX6 yX6_node yX6_node ∈ GW := gw_of (i := 576) (by decide +kernel) rfl
theorem gw577 : Cond.code yX6_node cX6_node 4 (some .int) ∈ GW := gw_of (i := 577) (by decide +kernel) rfl
theorem gw578 : Cond.methodLink RX6 44 yX6_isWithin ∈ GW := gw_of (i := 578) (by decide +kernel) rfl
theorem gw579 : Cond.static yX6_isWithin ∈ GW := gw_of (i := 579) (by decide +kernel) rfl
theorem gw580 : Cond.code yX6_isWithin cX6_isWithin 3 (some .boolean) ∈ GW := gw_of (i := 580) (by decide +kernel) rfl
theorem gw582 : Cond.methodLink RX6 50 yJ0_indexOf_0f7a4 ∈ GW := gw_of (i := 582) (by decide +kernel) rfl
theorem gw583 : Cond.instanceMethod yJ0_indexOf_0f7a4 ∈ GW := gw_of (i := 583) (by decide +kernel) rfl
theorem gw584 : Cond.selects RJ0 yJ0_indexOf_0f7a4 yJ0_indexOf_0f7a4 ∈ GW := gw_of (i := 584) (by decide +kernel) rfl
theorem gw585 : Cond.code yJ0_indexOf_0f7a4 cJ0_indexOf_0f7a4 2 (some .int) ∈ GW := gw_of (i := 585) (by decide +kernel) rfl
theorem gw586 : Cond.methodLink RJ0 633 yJ0_indexOf_7cf53 ∈ GW := gw_of (i := 586) (by decide +kernel) rfl
theorem gw587 : Cond.instanceMethod yJ0_indexOf_7cf53 ∈ GW := gw_of (i := 587) (by decide +kernel) rfl
theorem gw588 : Cond.selects RJ0 yJ0_indexOf_7cf53 yJ0_indexOf_7cf53 ∈ GW := gw_of (i := 588) (by decide +kernel) rfl
theorem gw589 : Cond.code yJ0_indexOf_7cf53 cJ0_indexOf_7cf53 3 (some .int) ∈ GW := gw_of (i := 589) (by decide +kernel) rfl
theorem gw590 : Cond.methodLink RJ0 492 yJ0_isLatin1_aae02 ∈ GW := gw_of (i := 590) (by decide +kernel) rfl
theorem gw591 : Cond.instanceMethod yJ0_isLatin1_aae02 ∈ GW := gw_of (i := 591) (by decide +kernel) rfl
theorem gw592 : Cond.selects RJ0 yJ0_isLatin1_aae02 yJ0_isLatin1_aae02 ∈ GW := gw_of (i := 592) (by decide +kernel) rfl
theorem gw593 : Cond.code yJ0_isLatin1_aae02 cJ0_isLatin1_aae02 1 (some .boolean) ∈ GW := gw_of (i := 593) (by decide +kernel) rfl
theorem gw594 : Cond.fieldLink RJ0 38 "java/lang/String" "COMPACT_STRINGS" "Z" ∈ GW := gw_of (i := 594) (by decide +kernel) rfl
theorem gw596 : Cond.methodLink RJ0 505 yJ0_length_8abf5 ∈ GW := gw_of (i := 596) (by decide +kernel) rfl
theorem gw597 : Cond.instanceMethod yJ0_length_8abf5 ∈ GW := gw_of (i := 597) (by decide +kernel) rfl
theorem gw598 : Cond.selects RJ0 yJ0_length_8abf5 yJ0_length_8abf5 ∈ GW := gw_of (i := 598) (by decide +kernel) rfl
theorem gw599 : Cond.code yJ0_length_8abf5 cJ0_length_8abf5 1 (some .int) ∈ GW := gw_of (i := 599) (by decide +kernel) rfl
theorem gw600 : Cond.methodLink RJ0 335 yJ0_coder_7d493 ∈ GW := gw_of (i := 600) (by decide +kernel) rfl
theorem gw601 : Cond.instanceMethod yJ0_coder_7d493 ∈ GW := gw_of (i := 601) (by decide +kernel) rfl
theorem gw602 : Cond.selects RJ0 yJ0_coder_7d493 yJ0_coder_7d493 ∈ GW := gw_of (i := 602) (by decide +kernel) rfl
theorem gw603 : Cond.code yJ0_coder_7d493 cJ0_coder_7d493 1 (some .byte) ∈ GW := gw_of (i := 603) (by decide +kernel) rfl
theorem gw604 : Cond.methodLink RJ0 637 yJ1_indexOf_4cfef ∈ GW := gw_of (i := 604) (by decide +kernel) rfl
theorem gw605 : Cond.static yJ1_indexOf_4cfef ∈ GW := gw_of (i := 605) (by decide +kernel) rfl
theorem gw606 : Cond.code yJ1_indexOf_4cfef cJ1_indexOf_4cfef 4 (some .int) ∈ GW := gw_of (i := 606) (by decide +kernel) rfl
theorem gw607 : Cond.methodLink RJ1 88 yJ1_canEncode_9a6ad ∈ GW := gw_of (i := 607) (by decide +kernel) rfl
theorem gw608 : Cond.static yJ1_canEncode_9a6ad ∈ GW := gw_of (i := 608) (by decide +kernel) rfl
theorem gw609 : Cond.code yJ1_canEncode_9a6ad cJ1_canEncode_9a6ad 1 (some .boolean) ∈ GW := gw_of (i := 609) (by decide +kernel) rfl
theorem gw610 : Cond.methodLink RJ1 92 Lib.Math.max.name ∈ GW := gw_of (i := 610) (by decide +kernel) rfl
theorem gw611 : Cond.static Lib.Math.max.name ∈ GW := gw_of (i := 611) (by decide +kernel) rfl
theorem gw612 : Cond.code Lib.Math.max.name Lib.Math.max.code 2 (some .int) ∈ GW := gw_of (i := 612) (by decide +kernel) rfl
theorem gw613 : Cond.methodLink RJ1 38 Lib.Math.min.name ∈ GW := gw_of (i := 613) (by decide +kernel) rfl
theorem gw614 : Cond.static Lib.Math.min.name ∈ GW := gw_of (i := 614) (by decide +kernel) rfl
theorem gw615 : Cond.code Lib.Math.min.name Lib.Math.min.code 2 (some .int) ∈ GW := gw_of (i := 615) (by decide +kernel) rfl
theorem gw616 : Cond.methodLink RJ1 95 yJ1_indexOfChar_4cfef ∈ GW := gw_of (i := 616) (by decide +kernel) rfl
theorem gw617 : Cond.static yJ1_indexOfChar_4cfef ∈ GW := gw_of (i := 617) (by decide +kernel) rfl
theorem gw618 : Cond.code yJ1_indexOfChar_4cfef cJ1_indexOfChar_4cfef 6 (some .int) ∈ GW := gw_of (i := 618) (by decide +kernel) rfl
theorem gw668 : Cond.classLink RX6 56 "java/lang/IllegalArgumentException" ∈ GW := gw_of (i := 668) (by decide +kernel) rfl
theorem gw670 : Cond.castable "java/lang/IllegalArgumentException" "java/lang/IllegalArgumentException" ∈ NW := nw_of (i := 670) (by decide +kernel) rfl
theorem gw756 : Cond.methodLink RX6 76 yX2_addNode ∈ GW := gw_of (i := 756) (by decide +kernel) rfl
theorem gw757 : Cond.instanceMethod yX2_addNode ∈ GW := gw_of (i := 757) (by decide +kernel) rfl
theorem gw758 : Cond.selects RX2 yX2_addNode yX2_addNode ∈ GW := gw_of (i := 758) (by decide +kernel) rfl
theorem gw759 : Cond.code yX2_addNode cX2_addNode 5 (some .int) ∈ GW := gw_of (i := 759) (by decide +kernel) rfl
theorem gw760 : Cond.methodLink RL 128 yL_member ∈ GW := gw_of (i := 760) (by decide +kernel) rfl
theorem gw761 : Cond.static yL_member ∈ GW := gw_of (i := 761) (by decide +kernel) rfl
theorem gw762 : Cond.codeWith yL_member cL_member 7 (some .int) [(0, 14, 17, 21), (0, 14, 21, 13), (0, 14, 25, 15)] ∈ GW := gw_of (i := 762) (by decide +kernel) rfl
theorem gw763 : Cond.classLink RL 21 "java/lang/IndexOutOfBoundsException" ∈ GW := gw_of (i := 763) (by decide +kernel) rfl
theorem gw787 : Cond.methodLink RL 17 yX6_member ∈ GW := gw_of (i := 787) (by decide +kernel) rfl
theorem gw788 : Cond.instanceMethod yX6_member ∈ GW := gw_of (i := 788) (by decide +kernel) rfl
theorem gw789 : Cond.selects RX6 yX6_member yX6_member ∈ GW := gw_of (i := 789) (by decide +kernel) rfl
theorem gw790 : Cond.code yX6_member cX6_member 5 (some .int) ∈ GW := gw_of (i := 790) (by decide +kernel) rfl
theorem gw791 : Cond.methodLink RX6 80 yX6_checkNode ∈ GW := gw_of (i := 791) (by decide +kernel) rfl
theorem gw793 : Cond.instanceMethod yX6_checkNode ∈ GW := gw_of (i := 793) (by decide +kernel) rfl
theorem gw794 : Cond.code yX6_checkNode cX6_checkNode 2 none ∈ GW := gw_of (i := 794) (by decide +kernel) rfl
theorem gw795 : Cond.classLink RX6 228 "java/lang/IndexOutOfBoundsException" ∈ GW := gw_of (i := 795) (by decide +kernel) rfl
theorem gw797 : Cond.castable "java/lang/IndexOutOfBoundsException" "java/lang/IndexOutOfBoundsException" ∈ NW := nw_of (i := 797) (by decide +kernel) rfl
theorem gw812 : Cond.methodLink RX6 88 yX6_isSection ∈ GW := gw_of (i := 812) (by decide +kernel) rfl
theorem gw813 : Cond.static yX6_isSection ∈ GW := gw_of (i := 813) (by decide +kernel) rfl
theorem gw814 : Cond.code yX6_isSection cX6_isSection 2 (some .boolean) ∈ GW := gw_of (i := 814) (by decide +kernel) rfl
theorem gw821 : Cond.methodLink RL 132 yL_load ∈ GW := gw_of (i := 821) (by decide +kernel) rfl
theorem gw822 : Cond.static yL_load ∈ GW := gw_of (i := 822) (by decide +kernel) rfl
theorem gw823 : Cond.codeWith yL_load cL_load 6 (some .int) [(0, 12, 15, 21), (0, 12, 19, 13)] ∈ GW := gw_of (i := 823) (by decide +kernel) rfl
theorem gw824 : Cond.methodLink RL 23 yX6_load ∈ GW := gw_of (i := 824) (by decide +kernel) rfl
theorem gw825 : Cond.instanceMethod yX6_load ∈ GW := gw_of (i := 825) (by decide +kernel) rfl
theorem gw826 : Cond.selects RX6 yX6_load yX6_load ∈ GW := gw_of (i := 826) (by decide +kernel) rfl
theorem gw827 : Cond.code yX6_load cX6_load 4 (some .int) ∈ GW := gw_of (i := 827) (by decide +kernel) rfl
theorem gw833 : Cond.methodLink RL 141 yL_force ∈ GW := gw_of (i := 833) (by decide +kernel) rfl
theorem gw834 : Cond.static yL_force ∈ GW := gw_of (i := 834) (by decide +kernel) rfl
theorem gw835 : Cond.codeWith yL_force cL_force 4 (some .int) [(0, 8, 11, 21), (0, 8, 14, 15)] ∈ GW := gw_of (i := 835) (by decide +kernel) rfl
theorem gw836 : Cond.methodLink RL 27 yX6_force ∈ GW := gw_of (i := 836) (by decide +kernel) rfl
theorem gw837 : Cond.instanceMethod yX6_force ∈ GW := gw_of (i := 837) (by decide +kernel) rfl
theorem gw838 : Cond.selects RX6 yX6_force yX6_force ∈ GW := gw_of (i := 838) (by decide +kernel) rfl
theorem gw839 : Cond.code yX6_force cX6_force 2 (some .long) ∈ GW := gw_of (i := 839) (by decide +kernel) rfl
theorem gw840 : Cond.methodLink RX6 118 yX6_checkMember ∈ GW := gw_of (i := 840) (by decide +kernel) rfl
theorem gw842 : Cond.instanceMethod yX6_checkMember ∈ GW := gw_of (i := 842) (by decide +kernel) rfl
theorem gw843 : Cond.code yX6_checkMember cX6_checkMember 2 none ∈ GW := gw_of (i := 843) (by decide +kernel) rfl
theorem gw845 : Cond.methodLink RX6 121 yX6_checkStanding ∈ GW := gw_of (i := 845) (by decide +kernel) rfl
theorem gw847 : Cond.instanceMethod yX6_checkStanding ∈ GW := gw_of (i := 847) (by decide +kernel) rfl
theorem gw848 : Cond.code yX6_checkStanding cX6_checkStanding 1 none ∈ GW := gw_of (i := 848) (by decide +kernel) rfl
theorem gw850 : Cond.methodLink RL 145 yL_pull ∈ GW := gw_of (i := 850) (by decide +kernel) rfl
theorem gw851 : Cond.static yL_pull ∈ GW := gw_of (i := 851) (by decide +kernel) rfl
theorem gw852 : Cond.codeWith yL_pull cL_pull 4 (some .int) [(0, 8, 11, 21), (0, 8, 14, 15)] ∈ GW := gw_of (i := 852) (by decide +kernel) rfl
theorem gw853 : Cond.methodLink RL 31 yX6_pull ∈ GW := gw_of (i := 853) (by decide +kernel) rfl
theorem gw854 : Cond.instanceMethod yX6_pull ∈ GW := gw_of (i := 854) (by decide +kernel) rfl
theorem gw855 : Cond.selects RX6 yX6_pull yX6_pull ∈ GW := gw_of (i := 855) (by decide +kernel) rfl
theorem gw856 : Cond.code yX6_pull cX6_pull 2 (some .long) ∈ GW := gw_of (i := 856) (by decide +kernel) rfl
theorem gw867 : Cond.methodLink RL 148 yL_bearing ∈ GW := gw_of (i := 867) (by decide +kernel) rfl
theorem gw868 : Cond.static yL_bearing ∈ GW := gw_of (i := 868) (by decide +kernel) rfl
theorem gw869 : Cond.codeWith yL_bearing cL_bearing 5 (some .int) [(0, 9, 12, 21), (0, 9, 16, 15)] ∈ GW := gw_of (i := 869) (by decide +kernel) rfl
theorem gw870 : Cond.methodLink RL 34 yX6_bearing ∈ GW := gw_of (i := 870) (by decide +kernel) rfl
theorem gw871 : Cond.instanceMethod yX6_bearing ∈ GW := gw_of (i := 871) (by decide +kernel) rfl
theorem gw872 : Cond.selects RX6 yX6_bearing yX6_bearing ∈ GW := gw_of (i := 872) (by decide +kernel) rfl
theorem gw873 : Cond.code yX6_bearing cX6_bearing 3 (some .long) ∈ GW := gw_of (i := 873) (by decide +kernel) rfl
theorem gw875 : Cond.methodLink RL 152 yL_isBalanced ∈ GW := gw_of (i := 875) (by decide +kernel) rfl
theorem gw876 : Cond.static yL_isBalanced ∈ GW := gw_of (i := 876) (by decide +kernel) rfl
theorem gw877 : Cond.codeWith yL_isBalanced cL_isBalanced 4 (some .int) [(0, 16, 19, 13), (0, 16, 22, 15)] ∈ GW := gw_of (i := 877) (by decide +kernel) rfl
theorem gw878 : Cond.methodLink RL 38 yX6_isBalanced ∈ GW := gw_of (i := 878) (by decide +kernel) rfl
theorem gw879 : Cond.instanceMethod yX6_isBalanced ∈ GW := gw_of (i := 879) (by decide +kernel) rfl
theorem gw880 : Cond.selects RX6 yX6_isBalanced yX6_isBalanced ∈ GW := gw_of (i := 880) (by decide +kernel) rfl
theorem gw881 : Cond.code yX6_isBalanced cX6_isBalanced 2 (some .boolean) ∈ GW := gw_of (i := 881) (by decide +kernel) rfl
theorem gw883 : Cond.methodLink RL 155 yL_weakest ∈ GW := gw_of (i := 883) (by decide +kernel) rfl
theorem gw884 : Cond.static yL_weakest ∈ GW := gw_of (i := 884) (by decide +kernel) rfl
theorem gw885 : Cond.codeWith yL_weakest cL_weakest 3 (some .int) [(0, 8, 11, 15), (0, 8, 14, 46)] ∈ GW := gw_of (i := 885) (by decide +kernel) rfl
theorem gw886 : Cond.classLink RL 46 "java/util/NoSuchElementException" ∈ GW := gw_of (i := 886) (by decide +kernel) rfl
theorem gw887 : Cond.methodLink RL 42 yX6_weakest ∈ GW := gw_of (i := 887) (by decide +kernel) rfl
theorem gw888 : Cond.instanceMethod yX6_weakest ∈ GW := gw_of (i := 888) (by decide +kernel) rfl
theorem gw889 : Cond.selects RX6 yX6_weakest yX6_weakest ∈ GW := gw_of (i := 889) (by decide +kernel) rfl
theorem gw890 : Cond.code yX6_weakest cX6_weakest 3 (some .int) ∈ GW := gw_of (i := 890) (by decide +kernel) rfl
theorem gw891 : Cond.classLink RX6 142 "java/util/NoSuchElementException" ∈ GW := gw_of (i := 891) (by decide +kernel) rfl
theorem gw893 : Cond.castable "java/util/NoSuchElementException" "java/util/NoSuchElementException" ∈ NW := nw_of (i := 893) (by decide +kernel) rfl
theorem gw908 : Cond.methodLink RL 159 yL_joint ∈ GW := gw_of (i := 908) (by decide +kernel) rfl
theorem gw909 : Cond.static yL_joint ∈ GW := gw_of (i := 909) (by decide +kernel) rfl
theorem gw910 : Cond.codeWith yL_joint cL_joint 8 (some .int) [(0, 16, 19, 21), (0, 16, 23, 13), (0, 16, 27, 52), (0, 16, 31, 15)] ∈ GW := gw_of (i := 910) (by decide +kernel) rfl
theorem gw912 : Cond.methodLink RL 48 yX6_joint ∈ GW := gw_of (i := 912) (by decide +kernel) rfl
theorem gw913 : Cond.instanceMethod yX6_joint ∈ GW := gw_of (i := 913) (by decide +kernel) rfl
theorem gw914 : Cond.selects RX6 yX6_joint yX6_joint ∈ GW := gw_of (i := 914) (by decide +kernel) rfl
theorem gw915 : Cond.code yX6_joint cX6_joint 6 (some .int) ∈ GW := gw_of (i := 915) (by decide +kernel) rfl
theorem gw953 : Cond.methodLink RL 163 yL_isRight ∈ GW := gw_of (i := 953) (by decide +kernel) rfl
theorem gw954 : Cond.static yL_isRight ∈ GW := gw_of (i := 954) (by decide +kernel) rfl
theorem gw955 : Cond.codeWith yL_isRight cL_isRight 4 (some .int) [(0, 16, 19, 21)] ∈ GW := gw_of (i := 955) (by decide +kernel) rfl
theorem gw956 : Cond.methodLink RL 54 yX6_isRight ∈ GW := gw_of (i := 956) (by decide +kernel) rfl
theorem gw957 : Cond.instanceMethod yX6_isRight ∈ GW := gw_of (i := 957) (by decide +kernel) rfl
theorem gw958 : Cond.selects RX6 yX6_isRight yX6_isRight ∈ GW := gw_of (i := 958) (by decide +kernel) rfl
theorem gw959 : Cond.code yX6_isRight cX6_isRight 2 (some .boolean) ∈ GW := gw_of (i := 959) (by decide +kernel) rfl
theorem gw960 : Cond.methodLink RX6 179 yX6_checkJoint ∈ GW := gw_of (i := 960) (by decide +kernel) rfl
theorem gw962 : Cond.instanceMethod yX6_checkJoint ∈ GW := gw_of (i := 962) (by decide +kernel) rfl
theorem gw963 : Cond.code yX6_checkJoint cX6_checkJoint 2 none ∈ GW := gw_of (i := 963) (by decide +kernel) rfl
theorem gw970 : Cond.methodLink RL 166 yL_misread ∈ GW := gw_of (i := 970) (by decide +kernel) rfl
theorem gw971 : Cond.static yL_misread ∈ GW := gw_of (i := 971) (by decide +kernel) rfl
theorem gw972 : Cond.codeWith yL_misread cL_misread 4 (some .int) [(0, 9, 12, 21)] ∈ GW := gw_of (i := 972) (by decide +kernel) rfl
theorem gw973 : Cond.methodLink RL 57 yX6_misread ∈ GW := gw_of (i := 973) (by decide +kernel) rfl
theorem gw974 : Cond.instanceMethod yX6_misread ∈ GW := gw_of (i := 974) (by decide +kernel) rfl
theorem gw975 : Cond.selects RX6 yX6_misread yX6_misread ∈ GW := gw_of (i := 975) (by decide +kernel) rfl
theorem gw976 : Cond.code yX6_misread cX6_misread 2 (some .int) ∈ GW := gw_of (i := 976) (by decide +kernel) rfl
theorem gw978 : Cond.methodLink RL 173 yL_cutAt ∈ GW := gw_of (i := 978) (by decide +kernel) rfl
theorem gw979 : Cond.static yL_cutAt ∈ GW := gw_of (i := 979) (by decide +kernel) rfl
theorem gw980 : Cond.codeWith yL_cutAt cL_cutAt 5 (some .int) [(0, 10, 13, 21), (0, 10, 17, 13)] ∈ GW := gw_of (i := 980) (by decide +kernel) rfl
theorem gw981 : Cond.methodLink RL 61 yX6_cutAt ∈ GW := gw_of (i := 981) (by decide +kernel) rfl
theorem gw982 : Cond.instanceMethod yX6_cutAt ∈ GW := gw_of (i := 982) (by decide +kernel) rfl
theorem gw983 : Cond.selects RX6 yX6_cutAt yX6_cutAt ∈ GW := gw_of (i := 983) (by decide +kernel) rfl
theorem gw984 : Cond.code yX6_cutAt cX6_cutAt 4 (some .int) ∈ GW := gw_of (i := 984) (by decide +kernel) rfl
theorem gw990 : Cond.methodLink RL 177 yL_dry ∈ GW := gw_of (i := 990) (by decide +kernel) rfl
theorem gw991 : Cond.static yL_dry ∈ GW := gw_of (i := 991) (by decide +kernel) rfl
theorem gw992 : Cond.codeWith yL_dry cL_dry 5 (some .int) [(0, 10, 13, 21), (0, 10, 17, 13)] ∈ GW := gw_of (i := 992) (by decide +kernel) rfl
theorem gw993 : Cond.methodLink RL 65 yX6_dry ∈ GW := gw_of (i := 993) (by decide +kernel) rfl
theorem gw994 : Cond.instanceMethod yX6_dry ∈ GW := gw_of (i := 994) (by decide +kernel) rfl
theorem gw995 : Cond.selects RX6 yX6_dry yX6_dry ∈ GW := gw_of (i := 995) (by decide +kernel) rfl
theorem gw996 : Cond.code yX6_dry cX6_dry 4 (some .int) ∈ GW := gw_of (i := 996) (by decide +kernel) rfl
theorem gw997 : Cond.methodLink RL 180 yL_gap ∈ GW := gw_of (i := 997) (by decide +kernel) rfl
theorem gw998 : Cond.static yL_gap ∈ GW := gw_of (i := 998) (by decide +kernel) rfl
theorem gw999 : Cond.codeWith yL_gap cL_gap 4 (some .int) [(0, 9, 12, 21)] ∈ GW := gw_of (i := 999) (by decide +kernel) rfl
theorem gw1000 : Cond.methodLink RL 68 yX6_gap ∈ GW := gw_of (i := 1000) (by decide +kernel) rfl
theorem gw1001 : Cond.instanceMethod yX6_gap ∈ GW := gw_of (i := 1001) (by decide +kernel) rfl
theorem gw1002 : Cond.selects RX6 yX6_gap yX6_gap ∈ GW := gw_of (i := 1002) (by decide +kernel) rfl
theorem gw1003 : Cond.code yX6_gap cX6_gap 2 (some .int) ∈ GW := gw_of (i := 1003) (by decide +kernel) rfl
theorem gw1008 : Cond.methodLink RL 183 yL_widest ∈ GW := gw_of (i := 1008) (by decide +kernel) rfl
theorem gw1009 : Cond.static yL_widest ∈ GW := gw_of (i := 1009) (by decide +kernel) rfl
theorem gw1010 : Cond.codeWith yL_widest cL_widest 3 (some .int) [(0, 8, 11, 46)] ∈ GW := gw_of (i := 1010) (by decide +kernel) rfl
theorem gw1011 : Cond.methodLink RL 71 yX6_widest ∈ GW := gw_of (i := 1011) (by decide +kernel) rfl
theorem gw1012 : Cond.instanceMethod yX6_widest ∈ GW := gw_of (i := 1012) (by decide +kernel) rfl
theorem gw1013 : Cond.selects RX6 yX6_widest yX6_widest ∈ GW := gw_of (i := 1013) (by decide +kernel) rfl
theorem gw1014 : Cond.code yX6_widest cX6_widest 3 (some .int) ∈ GW := gw_of (i := 1014) (by decide +kernel) rfl
theorem gw1016 : Cond.methodLink RL 186 yL_stick ∈ GW := gw_of (i := 1016) (by decide +kernel) rfl
theorem gw1017 : Cond.static yL_stick ∈ GW := gw_of (i := 1017) (by decide +kernel) rfl
theorem gw1018 : Cond.codeWith yL_stick cL_stick 6 (some .int) [(0, 12, 15, 13), (0, 12, 19, 15)] ∈ GW := gw_of (i := 1018) (by decide +kernel) rfl
theorem gw1019 : Cond.methodLink RL 74 yX6_stick ∈ GW := gw_of (i := 1019) (by decide +kernel) rfl
theorem gw1020 : Cond.instanceMethod yX6_stick ∈ GW := gw_of (i := 1020) (by decide +kernel) rfl
theorem gw1021 : Cond.selects RX6 yX6_stick yX6_stick ∈ GW := gw_of (i := 1021) (by decide +kernel) rfl
theorem gw1022 : Cond.code yX6_stick cX6_stick 4 (some .int) ∈ GW := gw_of (i := 1022) (by decide +kernel) rfl
theorem gw1025 : Cond.methodLink RX6 213 yX0_add ∈ GW := gw_of (i := 1025) (by decide +kernel) rfl
theorem gw1026 : Cond.instanceMethod yX0_add ∈ GW := gw_of (i := 1026) (by decide +kernel) rfl
theorem gw1027 : Cond.selects RX0 yX0_add yX0_add ∈ GW := gw_of (i := 1027) (by decide +kernel) rfl
theorem gw1028 : Cond.code yX0_add cX0_add 5 (some .int) ∈ GW := gw_of (i := 1028) (by decide +kernel) rfl
theorem gw1029 : Cond.methodLink RL 189 yL_piece ∈ GW := gw_of (i := 1029) (by decide +kernel) rfl
theorem gw1030 : Cond.static yL_piece ∈ GW := gw_of (i := 1030) (by decide +kernel) rfl
theorem gw1031 : Cond.codeWith yL_piece cL_piece 4 (some .int) [(0, 9, 12, 21)] ∈ GW := gw_of (i := 1031) (by decide +kernel) rfl
theorem gw1032 : Cond.methodLink RL 77 yX6_piece ∈ GW := gw_of (i := 1032) (by decide +kernel) rfl
theorem gw1033 : Cond.instanceMethod yX6_piece ∈ GW := gw_of (i := 1033) (by decide +kernel) rfl
theorem gw1034 : Cond.selects RX6 yX6_piece yX6_piece ∈ GW := gw_of (i := 1034) (by decide +kernel) rfl
theorem gw1035 : Cond.code yX6_piece cX6_piece 2 (some .int) ∈ GW := gw_of (i := 1035) (by decide +kernel) rfl
theorem gw1045 : Cond.methodLink RL 192 yL_stickOf ∈ GW := gw_of (i := 1045) (by decide +kernel) rfl
theorem gw1046 : Cond.static yL_stickOf ∈ GW := gw_of (i := 1046) (by decide +kernel) rfl
theorem gw1047 : Cond.codeWith yL_stickOf cL_stickOf 4 (some .int) [(0, 9, 12, 21), (0, 9, 15, 46)] ∈ GW := gw_of (i := 1047) (by decide +kernel) rfl
theorem gw1048 : Cond.methodLink RL 80 yX6_stickOf ∈ GW := gw_of (i := 1048) (by decide +kernel) rfl
theorem gw1049 : Cond.instanceMethod yX6_stickOf ∈ GW := gw_of (i := 1049) (by decide +kernel) rfl
theorem gw1050 : Cond.selects RX6 yX6_stickOf yX6_stickOf ∈ GW := gw_of (i := 1050) (by decide +kernel) rfl
theorem gw1051 : Cond.code yX6_stickOf cX6_stickOf 2 (some .int) ∈ GW := gw_of (i := 1051) (by decide +kernel) rfl
theorem gw1052 : Cond.methodLink RX6 219 yX6_checkCut ∈ GW := gw_of (i := 1052) (by decide +kernel) rfl
theorem gw1054 : Cond.instanceMethod yX6_checkCut ∈ GW := gw_of (i := 1054) (by decide +kernel) rfl
theorem gw1055 : Cond.code yX6_checkCut cX6_checkCut 1 none ∈ GW := gw_of (i := 1055) (by decide +kernel) rfl
theorem gw1056 : Cond.methodLink RX6 290 yX0_find ∈ GW := gw_of (i := 1056) (by decide +kernel) rfl
theorem gw1057 : Cond.instanceMethod yX0_find ∈ GW := gw_of (i := 1057) (by decide +kernel) rfl
theorem gw1058 : Cond.selects RX0 yX0_find yX0_find ∈ GW := gw_of (i := 1058) (by decide +kernel) rfl
theorem gw1059 : Cond.code yX0_find cX0_find 5 none ∈ GW := gw_of (i := 1059) (by decide +kernel) rfl
theorem gw1060 : Cond.methodLink RX0 56 yX0_measure ∈ GW := gw_of (i := 1060) (by decide +kernel) rfl
theorem gw1062 : Cond.instanceMethod yX0_measure ∈ GW := gw_of (i := 1062) (by decide +kernel) rfl
theorem gw1063 : Cond.code yX0_measure cX0_measure 8 none ∈ GW := gw_of (i := 1063) (by decide +kernel) rfl
theorem gw1064 : Cond.constant RX0 74 (390625) ∈ GW := gw_of (i := 1064) (by decide +kernel) rfl
theorem gw1066 : Cond.constantLong RX0 60 (4611686018427387904) ∈ GW := gw_of (i := 1066) (by decide +kernel) rfl
theorem gw1075 : Cond.constantLong RX0 81 (1953125) ∈ GW := gw_of (i := 1075) (by decide +kernel) rfl
theorem gw1079 : Cond.methodLink RX0 70 yX0_choose ∈ GW := gw_of (i := 1079) (by decide +kernel) rfl
theorem gw1081 : Cond.instanceMethod yX0_choose ∈ GW := gw_of (i := 1081) (by decide +kernel) rfl
theorem gw1082 : Cond.code yX0_choose cX0_choose 5 none ∈ GW := gw_of (i := 1082) (by decide +kernel) rfl
theorem gw1084 : Cond.methodLink RL 195 yL_wood ∈ GW := gw_of (i := 1084) (by decide +kernel) rfl
theorem gw1085 : Cond.static yL_wood ∈ GW := gw_of (i := 1085) (by decide +kernel) rfl
theorem gw1086 : Cond.codeWith yL_wood cL_wood 3 (some .int) [(0, 8, 11, 46)] ∈ GW := gw_of (i := 1086) (by decide +kernel) rfl
theorem gw1087 : Cond.methodLink RL 83 yX6_wood ∈ GW := gw_of (i := 1087) (by decide +kernel) rfl
theorem gw1088 : Cond.instanceMethod yX6_wood ∈ GW := gw_of (i := 1088) (by decide +kernel) rfl
theorem gw1089 : Cond.selects RX6 yX6_wood yX6_wood ∈ GW := gw_of (i := 1089) (by decide +kernel) rfl
theorem gw1090 : Cond.code yX6_wood cX6_wood 1 (some .int) ∈ GW := gw_of (i := 1090) (by decide +kernel) rfl
theorem gw1091 : Cond.methodLink RL 198 yL_waste ∈ GW := gw_of (i := 1091) (by decide +kernel) rfl
theorem gw1092 : Cond.static yL_waste ∈ GW := gw_of (i := 1092) (by decide +kernel) rfl
theorem gw1093 : Cond.codeWith yL_waste cL_waste 4 (some .int) [(0, 9, 12, 21), (0, 9, 15, 46)] ∈ GW := gw_of (i := 1093) (by decide +kernel) rfl
theorem gw1094 : Cond.methodLink RL 86 yX6_waste ∈ GW := gw_of (i := 1094) (by decide +kernel) rfl
theorem gw1095 : Cond.instanceMethod yX6_waste ∈ GW := gw_of (i := 1095) (by decide +kernel) rfl
theorem gw1096 : Cond.selects RX6 yX6_waste yX6_waste ∈ GW := gw_of (i := 1096) (by decide +kernel) rfl
theorem gw1097 : Cond.code yX6_waste cX6_waste 2 (some .int) ∈ GW := gw_of (i := 1097) (by decide +kernel) rfl
theorem gw1103 : Cond.methodLink RL 201 yL_setProps ∈ GW := gw_of (i := 1103) (by decide +kernel) rfl
theorem gw1104 : Cond.static yL_setProps ∈ GW := gw_of (i := 1104) (by decide +kernel) rfl
theorem gw1105 : Cond.codeWith yL_setProps cL_setProps 4 (some .int) [(0, 9, 12, 13)] ∈ GW := gw_of (i := 1105) (by decide +kernel) rfl
theorem gw1106 : Cond.methodLink RL 89 yX6_setProps ∈ GW := gw_of (i := 1106) (by decide +kernel) rfl
theorem gw1107 : Cond.instanceMethod yX6_setProps ∈ GW := gw_of (i := 1107) (by decide +kernel) rfl
theorem gw1108 : Cond.selects RX6 yX6_setProps yX6_setProps ∈ GW := gw_of (i := 1108) (by decide +kernel) rfl
theorem gw1109 : Cond.code yX6_setProps cX6_setProps 3 (some .int) ∈ GW := gw_of (i := 1109) (by decide +kernel) rfl
theorem gw1111 : Cond.methodLink RL 204 yL_raised ∈ GW := gw_of (i := 1111) (by decide +kernel) rfl
theorem gw1112 : Cond.static yL_raised ∈ GW := gw_of (i := 1112) (by decide +kernel) rfl
theorem gw1113 : Cond.codeWith yL_raised cL_raised 4 (some .int) [(0, 9, 12, 46), (0, 9, 15, 21)] ∈ GW := gw_of (i := 1113) (by decide +kernel) rfl
theorem gw1114 : Cond.methodLink RL 92 yX6_raised ∈ GW := gw_of (i := 1114) (by decide +kernel) rfl
theorem gw1115 : Cond.instanceMethod yX6_raised ∈ GW := gw_of (i := 1115) (by decide +kernel) rfl
theorem gw1116 : Cond.selects RX6 yX6_raised yX6_raised ∈ GW := gw_of (i := 1116) (by decide +kernel) rfl
theorem gw1117 : Cond.code yX6_raised cX6_raised 2 (some .int) ∈ GW := gw_of (i := 1117) (by decide +kernel) rfl
theorem gw1118 : Cond.methodLink RX6 241 yX6_checkPlaceInOrder ∈ GW := gw_of (i := 1118) (by decide +kernel) rfl
theorem gw1120 : Cond.instanceMethod yX6_checkPlaceInOrder ∈ GW := gw_of (i := 1120) (by decide +kernel) rfl
theorem gw1121 : Cond.code yX6_checkPlaceInOrder cX6_checkPlaceInOrder 2 none ∈ GW := gw_of (i := 1121) (by decide +kernel) rfl
theorem gw1124 : Cond.methodLink RL 220 yL_props ∈ GW := gw_of (i := 1124) (by decide +kernel) rfl
theorem gw1125 : Cond.static yL_props ∈ GW := gw_of (i := 1125) (by decide +kernel) rfl
theorem gw1126 : Cond.codeWith yL_props cL_props 4 (some .int) [(0, 9, 12, 46), (0, 9, 15, 21)] ∈ GW := gw_of (i := 1126) (by decide +kernel) rfl
theorem gw1127 : Cond.methodLink RL 95 yX6_props ∈ GW := gw_of (i := 1127) (by decide +kernel) rfl
theorem gw1128 : Cond.instanceMethod yX6_props ∈ GW := gw_of (i := 1128) (by decide +kernel) rfl
theorem gw1129 : Cond.selects RX6 yX6_props yX6_props ∈ GW := gw_of (i := 1129) (by decide +kernel) rfl
theorem gw1130 : Cond.code yX6_props cX6_props 4 (some .int) ∈ GW := gw_of (i := 1130) (by decide +kernel) rfl
theorem gw1132 : Cond.methodLink RL 223 yL_stuck ∈ GW := gw_of (i := 1132) (by decide +kernel) rfl
theorem gw1133 : Cond.static yL_stuck ∈ GW := gw_of (i := 1133) (by decide +kernel) rfl
theorem gw1134 : Cond.codeWith yL_stuck cL_stuck 3 (some .int) [(0, 8, 11, 46)] ∈ GW := gw_of (i := 1134) (by decide +kernel) rfl
theorem gw1135 : Cond.methodLink RL 98 yX6_stuck ∈ GW := gw_of (i := 1135) (by decide +kernel) rfl
theorem gw1136 : Cond.instanceMethod yX6_stuck ∈ GW := gw_of (i := 1136) (by decide +kernel) rfl
theorem gw1137 : Cond.selects RX6 yX6_stuck yX6_stuck ∈ GW := gw_of (i := 1137) (by decide +kernel) rfl
theorem gw1138 : Cond.code yX6_stuck cX6_stuck 2 (some .int) ∈ GW := gw_of (i := 1138) (by decide +kernel) rfl
theorem gw1139 : Cond.methodLink RX6 261 yX4_lowestStuck ∈ GW := gw_of (i := 1139) (by decide +kernel) rfl
theorem gw1140 : Cond.instanceMethod yX4_lowestStuck ∈ GW := gw_of (i := 1140) (by decide +kernel) rfl
theorem gw1141 : Cond.selects RX4 yX4_lowestStuck yX4_lowestStuck ∈ GW := gw_of (i := 1141) (by decide +kernel) rfl
theorem gw1142 : Cond.code yX4_lowestStuck cX4_lowestStuck 3 (some .int) ∈ GW := gw_of (i := 1142) (by decide +kernel) rfl
theorem gw1144 : Cond.methodLink RL 226 yL_allForce ∈ GW := gw_of (i := 1144) (by decide +kernel) rfl
theorem gw1145 : Cond.static yL_allForce ∈ GW := gw_of (i := 1145) (by decide +kernel) rfl
theorem gw1146 : Cond.codeWith yL_allForce cL_allForce 3 (some .int) [(0, 7, 10, 15)] ∈ GW := gw_of (i := 1146) (by decide +kernel) rfl
theorem gw1147 : Cond.methodLink RL 101 yX6_allForce ∈ GW := gw_of (i := 1147) (by decide +kernel) rfl
theorem gw1148 : Cond.instanceMethod yX6_allForce ∈ GW := gw_of (i := 1148) (by decide +kernel) rfl
theorem gw1149 : Cond.selects RX6 yX6_allForce yX6_allForce ∈ GW := gw_of (i := 1149) (by decide +kernel) rfl
theorem gw1150 : Cond.code yX6_allForce cX6_allForce 4 (some .long) ∈ GW := gw_of (i := 1150) (by decide +kernel) rfl
theorem gw1151 : Cond.methodLink RL 229 yL_rightShare ∈ GW := gw_of (i := 1151) (by decide +kernel) rfl
theorem gw1152 : Cond.static yL_rightShare ∈ GW := gw_of (i := 1152) (by decide +kernel) rfl
theorem gw1153 : Cond.codeWith yL_rightShare cL_rightShare 3 (some .int) [(0, 8, 11, 109)] ∈ GW := gw_of (i := 1153) (by decide +kernel) rfl
theorem gw1154 : Cond.classLink RL 109 "java/lang/ArithmeticException" ∈ GW := gw_of (i := 1154) (by decide +kernel) rfl
theorem gw1166 : Cond.castable "java/lang/ArithmeticException" "java/lang/ArithmeticException" ∈ NW := nw_of (i := 1166) (by decide +kernel) rfl
theorem gw1168 : Cond.methodLink RL 105 yX6_rightShare ∈ GW := gw_of (i := 1168) (by decide +kernel) rfl
theorem gw1169 : Cond.instanceMethod yX6_rightShare ∈ GW := gw_of (i := 1169) (by decide +kernel) rfl
theorem gw1170 : Cond.selects RX6 yX6_rightShare yX6_rightShare ∈ GW := gw_of (i := 1170) (by decide +kernel) rfl
theorem gw1171 : Cond.code yX6_rightShare cX6_rightShare 3 (some .float) ∈ GW := gw_of (i := 1171) (by decide +kernel) rfl
theorem gw1172 : Cond.classLink RX6 266 "java/lang/ArithmeticException" ∈ GW := gw_of (i := 1172) (by decide +kernel) rfl
theorem gw1174 : Cond.methodLink RL 233 yL_meanPull ∈ GW := gw_of (i := 1174) (by decide +kernel) rfl
theorem gw1175 : Cond.static yL_meanPull ∈ GW := gw_of (i := 1175) (by decide +kernel) rfl
theorem gw1176 : Cond.codeWith yL_meanPull cL_meanPull 3 (some .int) [(0, 7, 10, 15), (0, 7, 13, 109)] ∈ GW := gw_of (i := 1176) (by decide +kernel) rfl
theorem gw1177 : Cond.methodLink RL 111 yX6_meanPull ∈ GW := gw_of (i := 1177) (by decide +kernel) rfl
theorem gw1178 : Cond.instanceMethod yX6_meanPull ∈ GW := gw_of (i := 1178) (by decide +kernel) rfl
theorem gw1179 : Cond.selects RX6 yX6_meanPull yX6_meanPull ∈ GW := gw_of (i := 1179) (by decide +kernel) rfl
theorem gw1180 : Cond.code yX6_meanPull cX6_meanPull 1 (some .double) ∈ GW := gw_of (i := 1180) (by decide +kernel) rfl
theorem gw1187 : Cond.classLink RL 116 RX12 ∈ GW := gw_of (i := 1187) (by decide +kernel) rfl
theorem gw1188 : Cond.instantiable RX12 27 ∈ GW := gw_of (i := 1188) (by decide +kernel) rfl
theorem gw1189 : Cond.methodLink RL 118 yX12_init ∈ GW := gw_of (i := 1189) (by decide +kernel) rfl
theorem gw1190 : Cond.instanceMethod yX12_init ∈ GW := gw_of (i := 1190) (by decide +kernel) rfl
theorem gw1191 : Cond.code yX12_init cX12_init 1 none ∈ GW := gw_of (i := 1191) (by decide +kernel) rfl
theorem gw1192 : Cond.methodLink RX12 1 objectInit ∈ GW := gw_of (i := 1192) (by decide +kernel) rfl
theorem gw1193 : Cond.classLink RX12 7 RJx4a65c ∈ GW := gw_of (i := 1193) (by decide +kernel) rfl
theorem gw1194 : Cond.instantiable RJx4a65c 3 ∈ GW := gw_of (i := 1194) (by decide +kernel) rfl
theorem gw1195 : Cond.methodLink RX12 9 yJx4a65c_init_da8c8 ∈ GW := gw_of (i := 1195) (by decide +kernel) rfl
theorem gw1196 : Cond.instanceMethod yJx4a65c_init_da8c8 ∈ GW := gw_of (i := 1196) (by decide +kernel) rfl
theorem gw1197 : Cond.code yJx4a65c_init_da8c8 cJx4a65c_init_da8c8 1 none ∈ GW := gw_of (i := 1197) (by decide +kernel) rfl
theorem gw1198 : Cond.methodLink RJx4a65c 1 yJxc12de_init_da8c8 ∈ GW := gw_of (i := 1198) (by decide +kernel) rfl
theorem gw1199 : Cond.instanceMethod yJxc12de_init_da8c8 ∈ GW := gw_of (i := 1199) (by decide +kernel) rfl
theorem gw1200 : Cond.code yJxc12de_init_da8c8 cJxc12de_init_da8c8 1 none ∈ GW := gw_of (i := 1200) (by decide +kernel) rfl
theorem gw1201 : Cond.methodLink RJxc12de 1 yJxa1e45_init_da8c8 ∈ GW := gw_of (i := 1201) (by decide +kernel) rfl
theorem gw1202 : Cond.instanceMethod yJxa1e45_init_da8c8 ∈ GW := gw_of (i := 1202) (by decide +kernel) rfl
theorem gw1203 : Cond.code yJxa1e45_init_da8c8 cJxa1e45_init_da8c8 1 none ∈ GW := gw_of (i := 1203) (by decide +kernel) rfl
theorem gw1204 : Cond.methodLink RJxa1e45 1 objectInit ∈ GW := gw_of (i := 1204) (by decide +kernel) rfl
theorem gw1205 : Cond.fieldLink RJx4a65c 39 "java/util/ArrayList" "DEFAULTCAPACITY_EMPTY_ELEMENTDATA" "[Ljava/lang/Object;" ∈ GW := gw_of (i := 1205) (by decide +kernel) rfl
theorem gw1207 : Cond.fieldLink RJx4a65c 9 "java/util/ArrayList" "elementData" "[Ljava/lang/Object;" ∈ GW := gw_of (i := 1207) (by decide +kernel) rfl
theorem gw1208 : Cond.fieldLink RJx4a65c 48 "java/util/ArrayList" "size" "I" ∈ GW := gw_of (i := 1208) (by decide +kernel) rfl
theorem gw1209 : Cond.fieldLink RJxc12de 7 "java/util/AbstractList" "modCount" "I" ∈ GW := gw_of (i := 1209) (by decide +kernel) rfl
theorem gw1210 : Cond.fieldLink RJx4a65c 63 "java/util/ArrayList" "modCount" "I" ∈ GW := gw_of (i := 1210) (by decide +kernel) rfl
theorem gw1211 : Cond.sameField "java/util/ArrayList" "java/util/AbstractList" "modCount" "I" ∈ GW := gw_of (i := 1211) (by decide +kernel) rfl
theorem gw1219 : Cond.fieldLink RX12 10 "TenonyardModel" "nodes" "Ljava/util/ArrayList;" ∈ GW := gw_of (i := 1219) (by decide +kernel) rfl
theorem gw1220 : Cond.fieldLink RX12 16 "TenonyardModel" "members" "Ljava/util/ArrayList;" ∈ GW := gw_of (i := 1220) (by decide +kernel) rfl
theorem gw1221 : Cond.fieldLink RX12 19 "TenonyardModel" "joints" "Ljava/util/ArrayList;" ∈ GW := gw_of (i := 1221) (by decide +kernel) rfl
theorem gw1222 : Cond.fieldLink RX12 22 "TenonyardModel" "sticks" "Ljava/util/ArrayList;" ∈ GW := gw_of (i := 1222) (by decide +kernel) rfl
theorem gw1223 : Cond.fieldLink RX12 25 "TenonyardModel" "minors" "[J" ∈ GW := gw_of (i := 1223) (by decide +kernel) rfl
theorem gw1224 : Cond.fieldLink RX12 29 "TenonyardModel" "pulls" "[J" ∈ GW := gw_of (i := 1224) (by decide +kernel) rfl
theorem gw1225 : Cond.fieldLink RX12 32 "TenonyardModel" "forces" "[J" ∈ GW := gw_of (i := 1225) (by decide +kernel) rfl
theorem gw1226 : Cond.fieldLink RX12 35 "TenonyardModel" "isEnd" "[Z" ∈ GW := gw_of (i := 1226) (by decide +kernel) rfl
theorem gw1227 : Cond.fieldLink RX12 39 "TenonyardModel" "canCut" "[Z" ∈ GW := gw_of (i := 1227) (by decide +kernel) rfl
theorem gw1228 : Cond.fieldLink RX12 42 "TenonyardModel" "ways" "[I" ∈ GW := gw_of (i := 1228) (by decide +kernel) rfl
theorem gw1229 : Cond.fieldLink RX12 46 "TenonyardModel" "order" "[I" ∈ GW := gw_of (i := 1229) (by decide +kernel) rfl
theorem gw1230 : Cond.fieldLink RX12 49 "TenonyardModel" "best" "[I" ∈ GW := gw_of (i := 1230) (by decide +kernel) rfl
theorem gw1231 : Cond.fieldLink RX12 52 "TenonyardModel" "tried" "[I" ∈ GW := gw_of (i := 1231) (by decide +kernel) rfl
theorem gw1232 : Cond.fieldLink RX12 55 "TenonyardModel" "left" "[I" ∈ GW := gw_of (i := 1232) (by decide +kernel) rfl
theorem gw1233 : Cond.fieldLink RX12 58 "TenonyardModel" "needs" "[I" ∈ GW := gw_of (i := 1233) (by decide +kernel) rfl
theorem gw1234 : Cond.fieldLink RX12 61 "TenonyardModel" "lengths" "[I" ∈ GW := gw_of (i := 1234) (by decide +kernel) rfl
theorem gw1235 : Cond.fieldLink RX12 64 "TenonyardModel" "breadths" "[I" ∈ GW := gw_of (i := 1235) (by decide +kernel) rfl
theorem gw1236 : Cond.fieldLink RX12 67 "TenonyardModel" "grades" "[I" ∈ GW := gw_of (i := 1236) (by decide +kernel) rfl
theorem gw1237 : Cond.fieldLink RX12 163 "TenonyardModel" "base" "J" ∈ GW := gw_of (i := 1237) (by decide +kernel) rfl
theorem gw1238 : Cond.fieldLink RX12 74 "TenonyardModel" "thrown" "I" ∈ GW := gw_of (i := 1238) (by decide +kernel) rfl
theorem gw1239 : Cond.fieldLink RX12 70 "TenonyardModel" "props" "I" ∈ GW := gw_of (i := 1239) (by decide +kernel) rfl
theorem gw1240 : Cond.fieldLink RX12 268 "TenonyardModel" "wood" "I" ∈ GW := gw_of (i := 1240) (by decide +kernel) rfl
theorem gw1241 : Cond.fieldLink RX12 77 "TenonyardModel" "isReckoned" "Z" ∈ GW := gw_of (i := 1241) (by decide +kernel) rfl
theorem gw1242 : Cond.fieldLink RX12 151 "TenonyardModel" "isForced" "Z" ∈ GW := gw_of (i := 1242) (by decide +kernel) rfl
theorem gw1243 : Cond.fieldLink RX12 81 "TenonyardModel" "isRaised" "Z" ∈ GW := gw_of (i := 1243) (by decide +kernel) rfl
theorem gw1244 : Cond.fieldLink RX12 84 "TenonyardModel" "isCut" "Z" ∈ GW := gw_of (i := 1244) (by decide +kernel) rfl
theorem gw1245 : Cond.fieldLink RX12 157 "TenonyardModel" "state" "C" ∈ GW := gw_of (i := 1245) (by decide +kernel) rfl
theorem gw1301 : Cond.methodLink RL 125 yX12_thrown ∈ GW := gw_of (i := 1301) (by decide +kernel) rfl
theorem gw1302 : Cond.instanceMethod yX12_thrown ∈ GW := gw_of (i := 1302) (by decide +kernel) rfl
theorem gw1303 : Cond.selects RX12 yX12_thrown yX12_thrown ∈ GW := gw_of (i := 1303) (by decide +kernel) rfl
theorem gw1304 : Cond.code yX12_thrown cX12_thrown 1 (some .int) ∈ GW := gw_of (i := 1304) (by decide +kernel) rfl
theorem gw1305 : Cond.methodLink RL 124 yX12_node ∈ GW := gw_of (i := 1305) (by decide +kernel) rfl
theorem gw1306 : Cond.instanceMethod yX12_node ∈ GW := gw_of (i := 1306) (by decide +kernel) rfl
theorem gw1307 : Cond.selects RX12 yX12_node yX12_node ∈ GW := gw_of (i := 1307) (by decide +kernel) rfl
theorem gw1308 : Cond.code yX12_node cX12_node 4 (some .int) ∈ GW := gw_of (i := 1308) (by decide +kernel) rfl
theorem gw1309 : Cond.methodLink RX12 285 yX12_in ∈ GW := gw_of (i := 1309) (by decide +kernel) rfl
theorem gw1310 : Cond.static yX12_in ∈ GW := gw_of (i := 1310) (by decide +kernel) rfl
theorem gw1311 : Cond.code yX12_in cX12_in 4 (some .boolean) ∈ GW := gw_of (i := 1311) (by decide +kernel) rfl
theorem gw1312 : Cond.methodLink RX12 289 yX12_fails ∈ GW := gw_of (i := 1312) (by decide +kernel) rfl
theorem gw1314 : Cond.instanceMethod yX12_fails ∈ GW := gw_of (i := 1314) (by decide +kernel) rfl
theorem gw1315 : Cond.code yX12_fails cX12_fails 2 (some .int) ∈ GW := gw_of (i := 1315) (by decide +kernel) rfl
theorem gw1316 : Cond.methodLink RX12 125 yJx4a65c_size_8abf5 ∈ GW := gw_of (i := 1316) (by decide +kernel) rfl
theorem gw1317 : Cond.instanceMethod yJx4a65c_size_8abf5 ∈ GW := gw_of (i := 1317) (by decide +kernel) rfl
theorem gw1318 : Cond.selects RJx4a65c yJx4a65c_size_8abf5 yJx4a65c_size_8abf5 ∈ GW := gw_of (i := 1318) (by decide +kernel) rfl
theorem gw1319 : Cond.code yJx4a65c_size_8abf5 cJx4a65c_size_8abf5 1 (some .int) ∈ GW := gw_of (i := 1319) (by decide +kernel) rfl
theorem gw1320 : Cond.classLink RX12 99 RX9 ∈ GW := gw_of (i := 1320) (by decide +kernel) rfl
theorem gw1321 : Cond.instantiable RX9 6 ∈ GW := gw_of (i := 1321) (by decide +kernel) rfl
theorem gw1322 : Cond.methodLink RX12 292 yX9_init ∈ GW := gw_of (i := 1322) (by decide +kernel) rfl
theorem gw1323 : Cond.instanceMethod yX9_init ∈ GW := gw_of (i := 1323) (by decide +kernel) rfl
theorem gw1324 : Cond.code yX9_init cX9_init 4 none ∈ GW := gw_of (i := 1324) (by decide +kernel) rfl
theorem gw1325 : Cond.methodLink RX9 1 objectInit ∈ GW := gw_of (i := 1325) (by decide +kernel) rfl
theorem gw1326 : Cond.fieldLink RX9 7 "TenonyardModel$Node" "x" "I" ∈ GW := gw_of (i := 1326) (by decide +kernel) rfl
theorem gw1328 : Cond.fieldLink RX9 13 "TenonyardModel$Node" "y" "I" ∈ GW := gw_of (i := 1328) (by decide +kernel) rfl
theorem gw1330 : Cond.fieldLink RX9 16 "TenonyardModel$Node" "kind" "C" ∈ GW := gw_of (i := 1330) (by decide +kernel) rfl
theorem gw1348 : Cond.methodLink RX12 295 yJx4a65c_add_9ea2d ∈ GW := gw_of (i := 1348) (by decide +kernel) rfl
theorem gw1349 : Cond.instanceMethod yJx4a65c_add_9ea2d ∈ GW := gw_of (i := 1349) (by decide +kernel) rfl
theorem gw1350 : Cond.selects RJx4a65c yJx4a65c_add_9ea2d yJx4a65c_add_9ea2d ∈ GW := gw_of (i := 1350) (by decide +kernel) rfl
theorem gw1351 : Cond.code yJx4a65c_add_9ea2d cJx4a65c_add_9ea2d 2 (some .boolean) ∈ GW := gw_of (i := 1351) (by decide +kernel) rfl
theorem gw1352 : Cond.methodLink RJx4a65c 131 yJx4a65c_add_72be8 ∈ GW := gw_of (i := 1352) (by decide +kernel) rfl
theorem gw1354 : Cond.instanceMethod yJx4a65c_add_72be8 ∈ GW := gw_of (i := 1354) (by decide +kernel) rfl
theorem gw1355 : Cond.code yJx4a65c_add_72be8 cJx4a65c_add_72be8 4 none ∈ GW := gw_of (i := 1355) (by decide +kernel) rfl
theorem gw1356 : Cond.methodLink RJx4a65c 129 yJx4a65c_grow_d5877 ∈ GW := gw_of (i := 1356) (by decide +kernel) rfl
theorem gw1358 : Cond.instanceMethod yJx4a65c_grow_d5877 ∈ GW := gw_of (i := 1358) (by decide +kernel) rfl
theorem gw1359 : Cond.code yJx4a65c_grow_d5877 cJx4a65c_grow_d5877 1 (some (.array (.object "java/lang/Object"))) ∈ GW := gw_of (i := 1359) (by decide +kernel) rfl
theorem gw1360 : Cond.methodLink RJx4a65c 69 yJx4a65c_grow_92f84 ∈ GW := gw_of (i := 1360) (by decide +kernel) rfl
theorem gw1362 : Cond.instanceMethod yJx4a65c_grow_92f84 ∈ GW := gw_of (i := 1362) (by decide +kernel) rfl
theorem gw1363 : Cond.code yJx4a65c_grow_92f84 cJx4a65c_grow_92f84 4 (some (.array (.object "java/lang/Object"))) ∈ GW := gw_of (i := 1363) (by decide +kernel) rfl
theorem gw1410 : Cond.methodLink RJx4a65c 79 Lib.Math.max.name ∈ GW := gw_of (i := 1410) (by decide +kernel) rfl
theorem gw1411 : Cond.classLink RJx4a65c 7 "java/lang/Object" ∈ GW := gw_of (i := 1411) (by decide +kernel) rfl
theorem gw1412 : Cond.methodLink RX12 299 yX12_changes ∈ GW := gw_of (i := 1412) (by decide +kernel) rfl
theorem gw1414 : Cond.instanceMethod yX12_changes ∈ GW := gw_of (i := 1414) (by decide +kernel) rfl
theorem gw1415 : Cond.code yX12_changes cX12_changes 1 none ∈ GW := gw_of (i := 1415) (by decide +kernel) rfl
theorem gw1416 : Cond.methodLink RX12 302 yX12_tell ∈ GW := gw_of (i := 1416) (by decide +kernel) rfl
theorem gw1418 : Cond.instanceMethod yX12_tell ∈ GW := gw_of (i := 1418) (by decide +kernel) rfl
theorem gw1419 : Cond.code yX12_tell cX12_tell 2 (some .int) ∈ GW := gw_of (i := 1419) (by decide +kernel) rfl
theorem gw1420 : Cond.methodLink RL 131 yX12_member ∈ GW := gw_of (i := 1420) (by decide +kernel) rfl
theorem gw1421 : Cond.instanceMethod yX12_member ∈ GW := gw_of (i := 1421) (by decide +kernel) rfl
theorem gw1422 : Cond.selects RX12 yX12_member yX12_member ∈ GW := gw_of (i := 1422) (by decide +kernel) rfl
theorem gw1423 : Cond.code yX12_member cX12_member 6 (some .int) ∈ GW := gw_of (i := 1423) (by decide +kernel) rfl
theorem gw1424 : Cond.methodLink RX12 305 yX12_isNode ∈ GW := gw_of (i := 1424) (by decide +kernel) rfl
theorem gw1426 : Cond.instanceMethod yX12_isNode ∈ GW := gw_of (i := 1426) (by decide +kernel) rfl
theorem gw1427 : Cond.code yX12_isNode cX12_isNode 2 (some .boolean) ∈ GW := gw_of (i := 1427) (by decide +kernel) rfl
theorem gw1473 : Cond.methodLink RL 135 yX12_load ∈ GW := gw_of (i := 1473) (by decide +kernel) rfl
theorem gw1474 : Cond.instanceMethod yX12_load ∈ GW := gw_of (i := 1474) (by decide +kernel) rfl
theorem gw1475 : Cond.selects RX12 yX12_load yX12_load ∈ GW := gw_of (i := 1475) (by decide +kernel) rfl
theorem gw1476 : Cond.code yX12_load cX12_load 4 (some .int) ∈ GW := gw_of (i := 1476) (by decide +kernel) rfl
theorem gw1477 : Cond.methodLink RL 140 yX12_state ∈ GW := gw_of (i := 1477) (by decide +kernel) rfl
theorem gw1478 : Cond.instanceMethod yX12_state ∈ GW := gw_of (i := 1478) (by decide +kernel) rfl
theorem gw1479 : Cond.selects RX12 yX12_state yX12_state ∈ GW := gw_of (i := 1479) (by decide +kernel) rfl
theorem gw1480 : Cond.code yX12_state cX12_state 1 (some .char) ∈ GW := gw_of (i := 1480) (by decide +kernel) rfl
theorem gw1481 : Cond.methodLink RX12 166 yX12_reckons ∈ GW := gw_of (i := 1481) (by decide +kernel) rfl
theorem gw1483 : Cond.instanceMethod yX12_reckons ∈ GW := gw_of (i := 1483) (by decide +kernel) rfl
theorem gw1484 : Cond.code yX12_reckons cX12_reckons 3 none ∈ GW := gw_of (i := 1484) (by decide +kernel) rfl
theorem gw1485 : Cond.methodLink RX12 154 yX12_unknowns ∈ GW := gw_of (i := 1485) (by decide +kernel) rfl
theorem gw1487 : Cond.instanceMethod yX12_unknowns ∈ GW := gw_of (i := 1487) (by decide +kernel) rfl
theorem gw1488 : Cond.code yX12_unknowns cX12_unknowns 3 (some .int) ∈ GW := gw_of (i := 1488) (by decide +kernel) rfl
theorem gw1489 : Cond.methodLink RX12 160 yX12_determinant ∈ GW := gw_of (i := 1489) (by decide +kernel) rfl
theorem gw1491 : Cond.instanceMethod yX12_determinant ∈ GW := gw_of (i := 1491) (by decide +kernel) rfl
theorem gw1492 : Cond.code yX12_determinant cX12_determinant 6 (some .long) ∈ GW := gw_of (i := 1492) (by decide +kernel) rfl
theorem gw1518 : Cond.methodLink RL 144 yX12_force ∈ GW := gw_of (i := 1518) (by decide +kernel) rfl
theorem gw1519 : Cond.instanceMethod yX12_force ∈ GW := gw_of (i := 1519) (by decide +kernel) rfl
theorem gw1520 : Cond.selects RX12 yX12_force yX12_force ∈ GW := gw_of (i := 1520) (by decide +kernel) rfl
theorem gw1521 : Cond.code yX12_force cX12_force 2 (some .long) ∈ GW := gw_of (i := 1521) (by decide +kernel) rfl
theorem gw1522 : Cond.methodLink RX12 314 yX12_isMember ∈ GW := gw_of (i := 1522) (by decide +kernel) rfl
theorem gw1524 : Cond.instanceMethod yX12_isMember ∈ GW := gw_of (i := 1524) (by decide +kernel) rfl
theorem gw1525 : Cond.code yX12_isMember cX12_isMember 2 (some .boolean) ∈ GW := gw_of (i := 1525) (by decide +kernel) rfl
theorem gw1526 : Cond.methodLink RX12 317 yX12_failsLong ∈ GW := gw_of (i := 1526) (by decide +kernel) rfl
theorem gw1528 : Cond.instanceMethod yX12_failsLong ∈ GW := gw_of (i := 1528) (by decide +kernel) rfl
theorem gw1529 : Cond.code yX12_failsLong cX12_failsLong 2 (some .long) ∈ GW := gw_of (i := 1529) (by decide +kernel) rfl
theorem gw1530 : Cond.methodLink RX12 320 yX12_stands ∈ GW := gw_of (i := 1530) (by decide +kernel) rfl
theorem gw1532 : Cond.instanceMethod yX12_stands ∈ GW := gw_of (i := 1532) (by decide +kernel) rfl
theorem gw1533 : Cond.code yX12_stands cX12_stands 1 (some .boolean) ∈ GW := gw_of (i := 1533) (by decide +kernel) rfl
theorem gw1576 : Cond.methodLink RX12 326 yX12_tellLong ∈ GW := gw_of (i := 1576) (by decide +kernel) rfl
theorem gw1578 : Cond.instanceMethod yX12_tellLong ∈ GW := gw_of (i := 1578) (by decide +kernel) rfl
theorem gw1579 : Cond.code yX12_tellLong cX12_tellLong 3 (some .long) ∈ GW := gw_of (i := 1579) (by decide +kernel) rfl
theorem gw1580 : Cond.methodLink RL 147 yX12_pull ∈ GW := gw_of (i := 1580) (by decide +kernel) rfl
theorem gw1581 : Cond.instanceMethod yX12_pull ∈ GW := gw_of (i := 1581) (by decide +kernel) rfl
theorem gw1582 : Cond.selects RX12 yX12_pull yX12_pull ∈ GW := gw_of (i := 1582) (by decide +kernel) rfl
theorem gw1583 : Cond.code yX12_pull cX12_pull 2 (some .long) ∈ GW := gw_of (i := 1583) (by decide +kernel) rfl
theorem gw1591 : Cond.methodLink RL 151 yX12_bearing ∈ GW := gw_of (i := 1591) (by decide +kernel) rfl
theorem gw1592 : Cond.instanceMethod yX12_bearing ∈ GW := gw_of (i := 1592) (by decide +kernel) rfl
theorem gw1593 : Cond.selects RX12 yX12_bearing yX12_bearing ∈ GW := gw_of (i := 1593) (by decide +kernel) rfl
theorem gw1594 : Cond.code yX12_bearing cX12_bearing 3 (some .long) ∈ GW := gw_of (i := 1594) (by decide +kernel) rfl
theorem gw1599 : Cond.methodLink RL 154 yX12_isBalanced ∈ GW := gw_of (i := 1599) (by decide +kernel) rfl
theorem gw1600 : Cond.instanceMethod yX12_isBalanced ∈ GW := gw_of (i := 1600) (by decide +kernel) rfl
theorem gw1601 : Cond.selects RX12 yX12_isBalanced yX12_isBalanced ∈ GW := gw_of (i := 1601) (by decide +kernel) rfl
theorem gw1602 : Cond.code yX12_isBalanced cX12_isBalanced 2 (some .boolean) ∈ GW := gw_of (i := 1602) (by decide +kernel) rfl
theorem gw1603 : Cond.methodLink RX12 336 yX12_refuses ∈ GW := gw_of (i := 1603) (by decide +kernel) rfl
theorem gw1605 : Cond.instanceMethod yX12_refuses ∈ GW := gw_of (i := 1605) (by decide +kernel) rfl
theorem gw1606 : Cond.code yX12_refuses cX12_refuses 2 (some .boolean) ∈ GW := gw_of (i := 1606) (by decide +kernel) rfl
theorem gw1607 : Cond.methodLink RX12 339 yX12_restOf ∈ GW := gw_of (i := 1607) (by decide +kernel) rfl
theorem gw1609 : Cond.instanceMethod yX12_restOf ∈ GW := gw_of (i := 1609) (by decide +kernel) rfl
theorem gw1610 : Cond.code yX12_restOf cX12_restOf 10 (some .long) ∈ GW := gw_of (i := 1610) (by decide +kernel) rfl
theorem gw1611 : Cond.methodLink RX12 343 yX12_tells ∈ GW := gw_of (i := 1611) (by decide +kernel) rfl
theorem gw1613 : Cond.instanceMethod yX12_tells ∈ GW := gw_of (i := 1613) (by decide +kernel) rfl
theorem gw1614 : Cond.code yX12_tells cX12_tells 2 (some .boolean) ∈ GW := gw_of (i := 1614) (by decide +kernel) rfl
theorem gw1615 : Cond.methodLink RL 158 yX12_weakest ∈ GW := gw_of (i := 1615) (by decide +kernel) rfl
theorem gw1616 : Cond.instanceMethod yX12_weakest ∈ GW := gw_of (i := 1616) (by decide +kernel) rfl
theorem gw1617 : Cond.selects RX12 yX12_weakest yX12_weakest ∈ GW := gw_of (i := 1617) (by decide +kernel) rfl
theorem gw1618 : Cond.code yX12_weakest cX12_weakest 3 (some .int) ∈ GW := gw_of (i := 1618) (by decide +kernel) rfl
theorem gw1619 : Cond.methodLink RL 162 yX12_joint ∈ GW := gw_of (i := 1619) (by decide +kernel) rfl
theorem gw1620 : Cond.instanceMethod yX12_joint ∈ GW := gw_of (i := 1620) (by decide +kernel) rfl
theorem gw1621 : Cond.selects RX12 yX12_joint yX12_joint ∈ GW := gw_of (i := 1621) (by decide +kernel) rfl
theorem gw1622 : Cond.code yX12_joint cX12_joint 9 (some .int) ∈ GW := gw_of (i := 1622) (by decide +kernel) rfl
theorem gw1657 : Cond.methodLink RL 165 yX12_isRight ∈ GW := gw_of (i := 1657) (by decide +kernel) rfl
theorem gw1658 : Cond.instanceMethod yX12_isRight ∈ GW := gw_of (i := 1658) (by decide +kernel) rfl
theorem gw1659 : Cond.selects RX12 yX12_isRight yX12_isRight ∈ GW := gw_of (i := 1659) (by decide +kernel) rfl
theorem gw1660 : Cond.code yX12_isRight cX12_isRight 2 (some .boolean) ∈ GW := gw_of (i := 1660) (by decide +kernel) rfl
theorem gw1661 : Cond.methodLink RX12 363 yX12_isJoint ∈ GW := gw_of (i := 1661) (by decide +kernel) rfl
theorem gw1663 : Cond.instanceMethod yX12_isJoint ∈ GW := gw_of (i := 1663) (by decide +kernel) rfl
theorem gw1664 : Cond.code yX12_isJoint cX12_isJoint 2 (some .boolean) ∈ GW := gw_of (i := 1664) (by decide +kernel) rfl
theorem gw1670 : Cond.methodLink RL 168 yX12_misread ∈ GW := gw_of (i := 1670) (by decide +kernel) rfl
theorem gw1671 : Cond.instanceMethod yX12_misread ∈ GW := gw_of (i := 1671) (by decide +kernel) rfl
theorem gw1672 : Cond.selects RX12 yX12_misread yX12_misread ∈ GW := gw_of (i := 1672) (by decide +kernel) rfl
theorem gw1673 : Cond.code yX12_misread cX12_misread 2 (some .int) ∈ GW := gw_of (i := 1673) (by decide +kernel) rfl
theorem gw1678 : Cond.methodLink RL 172 yX12_clashes ∈ GW := gw_of (i := 1678) (by decide +kernel) rfl
theorem gw1679 : Cond.instanceMethod yX12_clashes ∈ GW := gw_of (i := 1679) (by decide +kernel) rfl
theorem gw1680 : Cond.selects RX12 yX12_clashes yX12_clashes ∈ GW := gw_of (i := 1680) (by decide +kernel) rfl
theorem gw1681 : Cond.code yX12_clashes cX12_clashes 4 (some .int) ∈ GW := gw_of (i := 1681) (by decide +kernel) rfl
theorem gw1682 : Cond.methodLink RL 176 yX12_cutAt ∈ GW := gw_of (i := 1682) (by decide +kernel) rfl
theorem gw1683 : Cond.instanceMethod yX12_cutAt ∈ GW := gw_of (i := 1683) (by decide +kernel) rfl
theorem gw1684 : Cond.selects RX12 yX12_cutAt yX12_cutAt ∈ GW := gw_of (i := 1684) (by decide +kernel) rfl
theorem gw1685 : Cond.code yX12_cutAt cX12_cutAt 4 (some .int) ∈ GW := gw_of (i := 1685) (by decide +kernel) rfl
theorem gw1686 : Cond.methodLink RL 179 yX12_dry ∈ GW := gw_of (i := 1686) (by decide +kernel) rfl
theorem gw1687 : Cond.instanceMethod yX12_dry ∈ GW := gw_of (i := 1687) (by decide +kernel) rfl
theorem gw1688 : Cond.selects RX12 yX12_dry yX12_dry ∈ GW := gw_of (i := 1688) (by decide +kernel) rfl
theorem gw1689 : Cond.code yX12_dry cX12_dry 4 (some .int) ∈ GW := gw_of (i := 1689) (by decide +kernel) rfl
theorem gw1690 : Cond.methodLink RL 182 yX12_gap ∈ GW := gw_of (i := 1690) (by decide +kernel) rfl
theorem gw1691 : Cond.instanceMethod yX12_gap ∈ GW := gw_of (i := 1691) (by decide +kernel) rfl
theorem gw1692 : Cond.selects RX12 yX12_gap yX12_gap ∈ GW := gw_of (i := 1692) (by decide +kernel) rfl
theorem gw1693 : Cond.code yX12_gap cX12_gap 2 (some .int) ∈ GW := gw_of (i := 1693) (by decide +kernel) rfl
theorem gw1698 : Cond.methodLink RL 185 yX12_widest ∈ GW := gw_of (i := 1698) (by decide +kernel) rfl
theorem gw1699 : Cond.instanceMethod yX12_widest ∈ GW := gw_of (i := 1699) (by decide +kernel) rfl
theorem gw1700 : Cond.selects RX12 yX12_widest yX12_widest ∈ GW := gw_of (i := 1700) (by decide +kernel) rfl
theorem gw1701 : Cond.code yX12_widest cX12_widest 3 (some .int) ∈ GW := gw_of (i := 1701) (by decide +kernel) rfl
theorem gw1702 : Cond.methodLink RL 188 yX12_stick ∈ GW := gw_of (i := 1702) (by decide +kernel) rfl
theorem gw1703 : Cond.instanceMethod yX12_stick ∈ GW := gw_of (i := 1703) (by decide +kernel) rfl
theorem gw1704 : Cond.selects RX12 yX12_stick yX12_stick ∈ GW := gw_of (i := 1704) (by decide +kernel) rfl
theorem gw1705 : Cond.code yX12_stick cX12_stick 4 (some .int) ∈ GW := gw_of (i := 1705) (by decide +kernel) rfl
theorem gw1706 : Cond.classLink RX12 239 RX10 ∈ GW := gw_of (i := 1706) (by decide +kernel) rfl
theorem gw1707 : Cond.instantiable RX10 3 ∈ GW := gw_of (i := 1707) (by decide +kernel) rfl
theorem gw1708 : Cond.methodLink RX12 386 yX10_init ∈ GW := gw_of (i := 1708) (by decide +kernel) rfl
theorem gw1709 : Cond.instanceMethod yX10_init ∈ GW := gw_of (i := 1709) (by decide +kernel) rfl
theorem gw1710 : Cond.code yX10_init cX10_init 4 none ∈ GW := gw_of (i := 1710) (by decide +kernel) rfl
theorem gw1711 : Cond.methodLink RX10 1 objectInit ∈ GW := gw_of (i := 1711) (by decide +kernel) rfl
theorem gw1712 : Cond.fieldLink RX10 7 "TenonyardModel$Stick" "length" "I" ∈ GW := gw_of (i := 1712) (by decide +kernel) rfl
theorem gw1714 : Cond.fieldLink RX10 13 "TenonyardModel$Stick" "breadth" "I" ∈ GW := gw_of (i := 1714) (by decide +kernel) rfl
theorem gw1716 : Cond.fieldLink RX10 16 "TenonyardModel$Stick" "grade" "I" ∈ GW := gw_of (i := 1716) (by decide +kernel) rfl
theorem gw1725 : Cond.methodLink RL 191 yX12_piece ∈ GW := gw_of (i := 1725) (by decide +kernel) rfl
theorem gw1726 : Cond.instanceMethod yX12_piece ∈ GW := gw_of (i := 1726) (by decide +kernel) rfl
theorem gw1727 : Cond.selects RX12 yX12_piece yX12_piece ∈ GW := gw_of (i := 1727) (by decide +kernel) rfl
theorem gw1728 : Cond.code yX12_piece cX12_piece 2 (some .int) ∈ GW := gw_of (i := 1728) (by decide +kernel) rfl
theorem gw1733 : Cond.methodLink RL 194 yX12_stickOf ∈ GW := gw_of (i := 1733) (by decide +kernel) rfl
theorem gw1734 : Cond.instanceMethod yX12_stickOf ∈ GW := gw_of (i := 1734) (by decide +kernel) rfl
theorem gw1735 : Cond.selects RX12 yX12_stickOf yX12_stickOf ∈ GW := gw_of (i := 1735) (by decide +kernel) rfl
theorem gw1736 : Cond.code yX12_stickOf cX12_stickOf 2 (some .int) ∈ GW := gw_of (i := 1736) (by decide +kernel) rfl
theorem gw1737 : Cond.methodLink RX12 389 yX12_areCut ∈ GW := gw_of (i := 1737) (by decide +kernel) rfl
theorem gw1739 : Cond.instanceMethod yX12_areCut ∈ GW := gw_of (i := 1739) (by decide +kernel) rfl
theorem gw1740 : Cond.code yX12_areCut cX12_areCut 1 (some .boolean) ∈ GW := gw_of (i := 1740) (by decide +kernel) rfl
theorem gw1741 : Cond.methodLink RX12 282 yX12_saws ∈ GW := gw_of (i := 1741) (by decide +kernel) rfl
theorem gw1743 : Cond.instanceMethod yX12_saws ∈ GW := gw_of (i := 1743) (by decide +kernel) rfl
theorem gw1744 : Cond.code yX12_saws cX12_saws 4 none ∈ GW := gw_of (i := 1744) (by decide +kernel) rfl
theorem gw1745 : Cond.methodLink RX12 271 yX12_sums ∈ GW := gw_of (i := 1745) (by decide +kernel) rfl
theorem gw1747 : Cond.instanceMethod yX12_sums ∈ GW := gw_of (i := 1747) (by decide +kernel) rfl
theorem gw1748 : Cond.code yX12_sums cX12_sums 4 none ∈ GW := gw_of (i := 1748) (by decide +kernel) rfl
theorem gw1754 : Cond.methodLink RX12 274 yX12_areEnough ∈ GW := gw_of (i := 1754) (by decide +kernel) rfl
theorem gw1756 : Cond.instanceMethod yX12_areEnough ∈ GW := gw_of (i := 1756) (by decide +kernel) rfl
theorem gw1757 : Cond.code yX12_areEnough cX12_areEnough 5 (some .boolean) ∈ GW := gw_of (i := 1757) (by decide +kernel) rfl
theorem gw1762 : Cond.methodLink RX12 249 yX12_cuts ∈ GW := gw_of (i := 1762) (by decide +kernel) rfl
theorem gw1764 : Cond.instanceMethod yX12_cuts ∈ GW := gw_of (i := 1764) (by decide +kernel) rfl
theorem gw1765 : Cond.code yX12_cuts cX12_cuts 8 (some .boolean) ∈ GW := gw_of (i := 1765) (by decide +kernel) rfl
theorem gw1770 : Cond.methodLink RL 197 yX12_wood ∈ GW := gw_of (i := 1770) (by decide +kernel) rfl
theorem gw1771 : Cond.instanceMethod yX12_wood ∈ GW := gw_of (i := 1771) (by decide +kernel) rfl
theorem gw1772 : Cond.selects RX12 yX12_wood yX12_wood ∈ GW := gw_of (i := 1772) (by decide +kernel) rfl
theorem gw1773 : Cond.code yX12_wood cX12_wood 1 (some .int) ∈ GW := gw_of (i := 1773) (by decide +kernel) rfl
theorem gw1774 : Cond.methodLink RL 200 yX12_waste ∈ GW := gw_of (i := 1774) (by decide +kernel) rfl
theorem gw1775 : Cond.instanceMethod yX12_waste ∈ GW := gw_of (i := 1775) (by decide +kernel) rfl
theorem gw1776 : Cond.selects RX12 yX12_waste yX12_waste ∈ GW := gw_of (i := 1776) (by decide +kernel) rfl
theorem gw1777 : Cond.code yX12_waste cX12_waste 4 (some .int) ∈ GW := gw_of (i := 1777) (by decide +kernel) rfl
theorem gw1778 : Cond.methodLink RL 203 yX12_setProps ∈ GW := gw_of (i := 1778) (by decide +kernel) rfl
theorem gw1779 : Cond.instanceMethod yX12_setProps ∈ GW := gw_of (i := 1779) (by decide +kernel) rfl
theorem gw1780 : Cond.selects RX12 yX12_setProps yX12_setProps ∈ GW := gw_of (i := 1780) (by decide +kernel) rfl
theorem gw1781 : Cond.code yX12_setProps cX12_setProps 3 (some .int) ∈ GW := gw_of (i := 1781) (by decide +kernel) rfl
theorem gw1782 : Cond.methodLink RL 206 yX12_raised ∈ GW := gw_of (i := 1782) (by decide +kernel) rfl
theorem gw1783 : Cond.instanceMethod yX12_raised ∈ GW := gw_of (i := 1783) (by decide +kernel) rfl
theorem gw1784 : Cond.selects RX12 yX12_raised yX12_raised ∈ GW := gw_of (i := 1784) (by decide +kernel) rfl
theorem gw1785 : Cond.code yX12_raised cX12_raised 2 (some .int) ∈ GW := gw_of (i := 1785) (by decide +kernel) rfl
theorem gw1786 : Cond.methodLink RX12 395 yX12_hasOrder ∈ GW := gw_of (i := 1786) (by decide +kernel) rfl
theorem gw1788 : Cond.instanceMethod yX12_hasOrder ∈ GW := gw_of (i := 1788) (by decide +kernel) rfl
theorem gw1789 : Cond.code yX12_hasOrder cX12_hasOrder 1 (some .boolean) ∈ GW := gw_of (i := 1789) (by decide +kernel) rfl
theorem gw1790 : Cond.methodLink RX12 392 yX12_raises ∈ GW := gw_of (i := 1790) (by decide +kernel) rfl
theorem gw1792 : Cond.instanceMethod yX12_raises ∈ GW := gw_of (i := 1792) (by decide +kernel) rfl
theorem gw1793 : Cond.code yX12_raises cX12_raises 5 none ∈ GW := gw_of (i := 1793) (by decide +kernel) rfl
theorem gw1810 : Cond.methodLink RL 211 yX12_canRaise ∈ GW := gw_of (i := 1810) (by decide +kernel) rfl
theorem gw1811 : Cond.instanceMethod yX12_canRaise ∈ GW := gw_of (i := 1811) (by decide +kernel) rfl
theorem gw1812 : Cond.selects RX12 yX12_canRaise yX12_canRaise ∈ GW := gw_of (i := 1812) (by decide +kernel) rfl
theorem gw1813 : Cond.code yX12_canRaise cX12_canRaise 1 (some .boolean) ∈ GW := gw_of (i := 1813) (by decide +kernel) rfl
theorem gw1814 : Cond.methodLink RL 215 yX12_canTakeAway ∈ GW := gw_of (i := 1814) (by decide +kernel) rfl
theorem gw1815 : Cond.instanceMethod yX12_canTakeAway ∈ GW := gw_of (i := 1815) (by decide +kernel) rfl
theorem gw1816 : Cond.selects RX12 yX12_canTakeAway yX12_canTakeAway ∈ GW := gw_of (i := 1816) (by decide +kernel) rfl
theorem gw1817 : Cond.code yX12_canTakeAway cX12_canTakeAway 1 (some .boolean) ∈ GW := gw_of (i := 1817) (by decide +kernel) rfl
theorem gw1818 : Cond.methodLink RX12 398 yX12_isTakenAway ∈ GW := gw_of (i := 1818) (by decide +kernel) rfl
theorem gw1820 : Cond.instanceMethod yX12_isTakenAway ∈ GW := gw_of (i := 1820) (by decide +kernel) rfl
theorem gw1821 : Cond.code yX12_isTakenAway cX12_isTakenAway 5 (some .boolean) ∈ GW := gw_of (i := 1821) (by decide +kernel) rfl
theorem gw1822 : Cond.methodLink RL 219 yX12_orders ∈ GW := gw_of (i := 1822) (by decide +kernel) rfl
theorem gw1823 : Cond.instanceMethod yX12_orders ∈ GW := gw_of (i := 1823) (by decide +kernel) rfl
theorem gw1824 : Cond.selects RX12 yX12_orders yX12_orders ∈ GW := gw_of (i := 1824) (by decide +kernel) rfl
theorem gw1825 : Cond.code yX12_orders cX12_orders 1 (some .int) ∈ GW := gw_of (i := 1825) (by decide +kernel) rfl
theorem gw1826 : Cond.methodLink RL 222 yX12_props ∈ GW := gw_of (i := 1826) (by decide +kernel) rfl
theorem gw1827 : Cond.instanceMethod yX12_props ∈ GW := gw_of (i := 1827) (by decide +kernel) rfl
theorem gw1828 : Cond.selects RX12 yX12_props yX12_props ∈ GW := gw_of (i := 1828) (by decide +kernel) rfl
theorem gw1829 : Cond.code yX12_props cX12_props 4 (some .int) ∈ GW := gw_of (i := 1829) (by decide +kernel) rfl
theorem gw1830 : Cond.methodLink RL 225 yX12_stuck ∈ GW := gw_of (i := 1830) (by decide +kernel) rfl
theorem gw1831 : Cond.instanceMethod yX12_stuck ∈ GW := gw_of (i := 1831) (by decide +kernel) rfl
theorem gw1832 : Cond.selects RX12 yX12_stuck yX12_stuck ∈ GW := gw_of (i := 1832) (by decide +kernel) rfl
theorem gw1833 : Cond.code yX12_stuck cX12_stuck 3 (some .int) ∈ GW := gw_of (i := 1833) (by decide +kernel) rfl
theorem gw1834 : Cond.methodLink RL 228 yX12_allForce ∈ GW := gw_of (i := 1834) (by decide +kernel) rfl
theorem gw1835 : Cond.instanceMethod yX12_allForce ∈ GW := gw_of (i := 1835) (by decide +kernel) rfl
theorem gw1836 : Cond.selects RX12 yX12_allForce yX12_allForce ∈ GW := gw_of (i := 1836) (by decide +kernel) rfl
theorem gw1837 : Cond.code yX12_allForce cX12_allForce 4 (some .long) ∈ GW := gw_of (i := 1837) (by decide +kernel) rfl
theorem gw1838 : Cond.methodLink RL 232 yX12_rightShare ∈ GW := gw_of (i := 1838) (by decide +kernel) rfl
theorem gw1839 : Cond.instanceMethod yX12_rightShare ∈ GW := gw_of (i := 1839) (by decide +kernel) rfl
theorem gw1840 : Cond.selects RX12 yX12_rightShare yX12_rightShare ∈ GW := gw_of (i := 1840) (by decide +kernel) rfl
theorem gw1841 : Cond.code yX12_rightShare cX12_rightShare 3 (some .float) ∈ GW := gw_of (i := 1841) (by decide +kernel) rfl
theorem gw1842 : Cond.methodLink RX12 401 yJx4a65c_isEmpty_aae02 ∈ GW := gw_of (i := 1842) (by decide +kernel) rfl
theorem gw1843 : Cond.instanceMethod yJx4a65c_isEmpty_aae02 ∈ GW := gw_of (i := 1843) (by decide +kernel) rfl
theorem gw1844 : Cond.selects RJx4a65c yJx4a65c_isEmpty_aae02 yJx4a65c_isEmpty_aae02 ∈ GW := gw_of (i := 1844) (by decide +kernel) rfl
theorem gw1845 : Cond.code yJx4a65c_isEmpty_aae02 cJx4a65c_isEmpty_aae02 1 (some .boolean) ∈ GW := gw_of (i := 1845) (by decide +kernel) rfl
theorem gw1846 : Cond.methodLink RL 235 yX12_meanPull ∈ GW := gw_of (i := 1846) (by decide +kernel) rfl
theorem gw1847 : Cond.instanceMethod yX12_meanPull ∈ GW := gw_of (i := 1847) (by decide +kernel) rfl
theorem gw1848 : Cond.selects RX12 yX12_meanPull yX12_meanPull ∈ GW := gw_of (i := 1848) (by decide +kernel) rfl
theorem gw1849 : Cond.code yX12_meanPull cX12_meanPull 4 (some .double) ∈ GW := gw_of (i := 1849) (by decide +kernel) rfl
theorem gw1850 : Cond.methodLink RL 239 yX12_isSound ∈ GW := gw_of (i := 1850) (by decide +kernel) rfl
theorem gw1851 : Cond.instanceMethod yX12_isSound ∈ GW := gw_of (i := 1851) (by decide +kernel) rfl
theorem gw1852 : Cond.selects RX12 yX12_isSound yX12_isSound ∈ GW := gw_of (i := 1852) (by decide +kernel) rfl
theorem gw1853 : Cond.code yX12_isSound cX12_isSound 1 (some .boolean) ∈ GW := gw_of (i := 1853) (by decide +kernel) rfl
theorem gw1854 : Cond.arrayClass .double ∈ GW := gw_of (i := 1854) (by decide +kernel) rfl
theorem gw1868 : Cond.castable RX9 "java/lang/Object" ∈ NW := nw_of (i := 1868) (by decide +kernel) rfl
theorem gw1876 : Cond.castable RX10 "java/lang/Object" ∈ NW := nw_of (i := 1876) (by decide +kernel) rfl
theorem gw1890 : Cond.fieldLink RJ0 15 "java/lang/String" "coder" "B" ∈ GW := gw_of (i := 1890) (by decide +kernel) rfl
theorem gw1891 : Cond.fieldLink RJ0 9 "java/lang/String" "value" "[B" ∈ GW := gw_of (i := 1891) (by decide +kernel) rfl
