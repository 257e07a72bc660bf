theorem gw0 : Cond.selects RX1 yX1_findPulls yX1_findPulls ∈ GW := gw_of (i := 0) (by decide +kernel) rfl
theorem gw1 : Cond.selects RX1 yX1_fillRows yX1_fillRows ∈ GW := gw_of (i := 1) (by decide +kernel) rfl
theorem gw2 : Cond.selects RX1 yX1_findDeterminants yX1_findDeterminants ∈ GW := gw_of (i := 2) (by decide +kernel) rfl
theorem gw3 : Cond.selects RX1 yX1_expanded yX1_expanded ∈ GW := gw_of (i := 3) (by decide +kernel) rfl
theorem gw4 : Cond.selects RX1 yX1_setPull yX1_setPull ∈ GW := gw_of (i := 4) (by decide +kernel) rfl
theorem gw5 : Cond.selects RX1 yX1_carry yX1_carry ∈ GW := gw_of (i := 5) (by decide +kernel) rfl
theorem gw6 : Cond.selects RX1 yX1_findBearings yX1_findBearings ∈ GW := gw_of (i := 6) (by decide +kernel) rfl
theorem gw7 : Cond.selects RX1 yX1_findAmounts yX1_findAmounts ∈ GW := gw_of (i := 7) (by decide +kernel) rfl
theorem gw8 : Cond.selects RX1 yX1_timesLength yX1_timesLength ∈ GW := gw_of (i := 8) (by decide +kernel) rfl
theorem gw9 : Cond.selects RX1 yX1_holdsAlong yX1_holdsAlong ∈ GW := gw_of (i := 9) (by decide +kernel) rfl
theorem gw10 : Cond.selects RX4 yX4_gather yX4_gather ∈ GW := gw_of (i := 10) (by decide +kernel) rfl
theorem gw11 : Cond.selects RX4 yX4_goForward yX4_goForward ∈ GW := gw_of (i := 11) (by decide +kernel) rfl
theorem gw12 : Cond.selects RX4 yX4_canMoveIn yX4_canMoveIn ∈ GW := gw_of (i := 12) (by decide +kernel) rfl
theorem gw13 : Cond.selects RX4 yX4_goBackward yX4_goBackward ∈ GW := gw_of (i := 13) (by decide +kernel) rfl
theorem gw14 : Cond.selects RX4 yX4_findOrder yX4_findOrder ∈ GW := gw_of (i := 14) (by decide +kernel) rfl
theorem gw15 : Cond.selects RX4 yX4_firstThatLeads yX4_firstThatLeads ∈ GW := gw_of (i := 15) (by decide +kernel) rfl
theorem gw17 : Cond.selects RX6 yX6_checkNode yX6_checkNode ∈ GW := gw_of (i := 17) (by decide +kernel) rfl
theorem gw18 : Cond.selects RX6 yX6_checkMember yX6_checkMember ∈ GW := gw_of (i := 18) (by decide +kernel) rfl
theorem gw19 : Cond.selects RX6 yX6_checkMoisture yX6_checkMoisture ∈ GW := gw_of (i := 19) (by decide +kernel) rfl
theorem gw20 : Cond.selects RX6 yX6_checkStanding yX6_checkStanding ∈ GW := gw_of (i := 20) (by decide +kernel) rfl
theorem gw21 : Cond.selects RX1 yX1_restInThousandths yX1_restInThousandths ∈ GW := gw_of (i := 21) (by decide +kernel) rfl
theorem gw22 : Cond.selects RX6 yX6_checkJoint yX6_checkJoint ∈ GW := gw_of (i := 22) (by decide +kernel) rfl
theorem gw23 : Cond.selects RX6 yX6_checkCut yX6_checkCut ∈ GW := gw_of (i := 23) (by decide +kernel) rfl
theorem gw24 : Cond.selects RX0 yX0_measure yX0_measure ∈ GW := gw_of (i := 24) (by decide +kernel) rfl
theorem gw25 : Cond.selects RX0 yX0_fitting yX0_fitting ∈ GW := gw_of (i := 25) (by decide +kernel) rfl
theorem gw26 : Cond.selects RX0 yX0_offer yX0_offer ∈ GW := gw_of (i := 26) (by decide +kernel) rfl
theorem gw27 : Cond.selects RX0 yX0_choose yX0_choose ∈ GW := gw_of (i := 27) (by decide +kernel) rfl
theorem gw28 : Cond.selects RX6 yX6_checkPlaceInOrder yX6_checkPlaceInOrder ∈ GW := gw_of (i := 28) (by decide +kernel) rfl
theorem gw29 : Cond.initialized RL ∈ GW := gw_of (i := 29) (by decide +kernel) rfl
theorem gw30 : Cond.initialized RX6 ∈ GW := gw_of (i := 30) (by decide +kernel) rfl
theorem gw31 : Cond.initialized RX2 ∈ GW := gw_of (i := 31) (by decide +kernel) rfl
theorem gw32 : Cond.initialized RX1 ∈ GW := gw_of (i := 32) (by decide +kernel) rfl
theorem gw33 : Cond.initialized RX5 ∈ GW := gw_of (i := 33) (by decide +kernel) rfl
theorem gw34 : Cond.initialized RX3 ∈ GW := gw_of (i := 34) (by decide +kernel) rfl
theorem gw35 : Cond.initialized RX0 ∈ GW := gw_of (i := 35) (by decide +kernel) rfl
theorem gw36 : Cond.initialized RX4 ∈ GW := gw_of (i := 36) (by decide +kernel) rfl
theorem gw37 : Cond.initialized RJ0 ∈ GW := gw_of (i := 37) (by decide +kernel) rfl
theorem gw38 : Cond.initialized RJ1 ∈ GW := gw_of (i := 38) (by decide +kernel) rfl
theorem gw39 : Cond.initialized RJ3 ∈ GW := gw_of (i := 39) (by decide +kernel) rfl
theorem gw40 : Cond.initialized RJ2 ∈ GW := gw_of (i := 40) (by decide +kernel) rfl
theorem gw41 : Cond.initialized RJ9 ∈ GW := gw_of (i := 41) (by decide +kernel) rfl
theorem gw42 : Cond.initialized RJ11 ∈ GW := gw_of (i := 42) (by decide +kernel) rfl
theorem gw43 : Cond.initialized "java/lang/Throwable" ∈ GW := gw_of (i := 43) (by decide +kernel) rfl
theorem gw44 : Cond.initialized "java/lang/Exception" ∈ GW := gw_of (i := 44) (by decide +kernel) rfl
theorem gw45 : Cond.initialized "java/lang/RuntimeException" ∈ GW := gw_of (i := 45) (by decide +kernel) rfl
theorem gw46 : Cond.initialized "java/lang/IllegalArgumentException" ∈ GW := gw_of (i := 46) (by decide +kernel) rfl
theorem gw47 : Cond.initialized "java/lang/IllegalStateException" ∈ GW := gw_of (i := 47) (by decide +kernel) rfl
theorem gw48 : Cond.initialized "java/lang/IndexOutOfBoundsException" ∈ GW := gw_of (i := 48) (by decide +kernel) rfl
theorem gw49 : Cond.initialized RJx00060 ∈ GW := gw_of (i := 49) (by decide +kernel) rfl
theorem gw50 : Cond.initialized "java/lang/UnsupportedOperationException" ∈ GW := gw_of (i := 50) (by decide +kernel) rfl
theorem gw51 : Cond.initialized RJ6 ∈ GW := gw_of (i := 51) (by decide +kernel) rfl
theorem gw52 : Cond.initialized "java/util/NoSuchElementException" ∈ GW := gw_of (i := 52) (by decide +kernel) rfl
theorem gw53 : Cond.initialized "java/lang/ArithmeticException" ∈ GW := gw_of (i := 53) (by decide +kernel) rfl
theorem gw54 : Cond.classLink RL 15 RX6 ∈ GW := gw_of (i := 54) (by decide +kernel) rfl
theorem gw55 : Cond.instantiable RX6 5 ∈ GW := gw_of (i := 55) (by decide +kernel) rfl
theorem gw56 : Cond.methodLink RL 127 yX6_init ∈ GW := gw_of (i := 56) (by decide +kernel) rfl
theorem gw57 : Cond.instanceMethod yX6_init ∈ GW := gw_of (i := 57) (by decide +kernel) rfl
theorem gw58 : Cond.code yX6_init cX6_init 1 none ∈ GW := gw_of (i := 58) (by decide +kernel) rfl
theorem gw59 : Cond.methodLink RX6 3 objectInit ∈ GW := gw_of (i := 59) (by decide +kernel) rfl
theorem gw60 : Cond.instanceMethod objectInit ∈ GW := gw_of (i := 60) (by decide +kernel) rfl
theorem gw61 : Cond.code objectInit ⟨#[0xb1]⟩ 1 none ∈ GW := gw_of (i := 61) (by decide +kernel) rfl
theorem gw62 : Cond.classLink RX6 9 RX2 ∈ GW := gw_of (i := 62) (by decide +kernel) rfl
theorem gw63 : Cond.instantiable RX2 12 ∈ GW := gw_of (i := 63) (by decide +kernel) rfl
theorem gw64 : Cond.methodLinkNest RX6 11 yX2_init "Tenonyard" ∈ NW := nw_of (i := 64) (by decide +kernel) rfl
theorem gw65 : Cond.instanceMethod yX2_init ∈ GW := gw_of (i := 65) (by decide +kernel) rfl
theorem gw66 : Cond.code yX2_init cX2_init 1 none ∈ GW := gw_of (i := 66) (by decide +kernel) rfl
theorem gw67 : Cond.methodLink RX2 3 objectInit ∈ GW := gw_of (i := 67) (by decide +kernel) rfl
theorem gw68 : Cond.fieldLink RX2 43 "Tenonyard$Frame" "nodes" "I" ∈ GW := gw_of (i := 68) (by decide +kernel) rfl
theorem gw69 : Cond.fieldLink RX6 63 "Tenonyard$Frame" "nodes" "I" ∈ GW := gw_of (i := 69) (by decide +kernel) rfl
theorem gw70 : Cond.fieldLink RX1 78 "Tenonyard$Frame" "nodes" "I" ∈ GW := gw_of (i := 70) (by decide +kernel) rfl
theorem gw71 : Cond.fieldLink RX2 47 "Tenonyard$Frame" "members" "I" ∈ GW := gw_of (i := 71) (by decide +kernel) rfl
theorem gw72 : Cond.fieldLink RX4 41 "Tenonyard$Frame" "members" "I" ∈ GW := gw_of (i := 72) (by decide +kernel) rfl
theorem gw73 : Cond.fieldLink RX6 93 "Tenonyard$Frame" "members" "I" ∈ GW := gw_of (i := 73) (by decide +kernel) rfl
theorem gw74 : Cond.fieldLink RX0 53 "Tenonyard$Frame" "members" "I" ∈ GW := gw_of (i := 74) (by decide +kernel) rfl
theorem gw75 : Cond.fieldLink RX1 88 "Tenonyard$Frame" "members" "I" ∈ GW := gw_of (i := 75) (by decide +kernel) rfl
theorem gw76 : Cond.fieldLink RX2 9 "Tenonyard$Frame" "places" "[I" ∈ GW := gw_of (i := 76) (by decide +kernel) rfl
theorem gw77 : Cond.fieldLink RX1 189 "Tenonyard$Frame" "places" "[I" ∈ GW := gw_of (i := 77) (by decide +kernel) rfl
theorem gw78 : Cond.fieldLink RX2 15 "Tenonyard$Frame" "loads" "[I" ∈ GW := gw_of (i := 78) (by decide +kernel) rfl
theorem gw79 : Cond.fieldLink RX1 116 "Tenonyard$Frame" "loads" "[I" ∈ GW := gw_of (i := 79) (by decide +kernel) rfl
theorem gw80 : Cond.fieldLink RX2 18 "Tenonyard$Frame" "loadCounts" "[I" ∈ GW := gw_of (i := 80) (by decide +kernel) rfl
theorem gw81 : Cond.fieldLink RX2 21 "Tenonyard$Frame" "kinds" "[C" ∈ GW := gw_of (i := 81) (by decide +kernel) rfl
theorem gw82 : Cond.fieldLink RX2 25 "Tenonyard$Frame" "firstNodes" "[I" ∈ GW := gw_of (i := 82) (by decide +kernel) rfl
theorem gw83 : Cond.fieldLink RX2 28 "Tenonyard$Frame" "secondNodes" "[I" ∈ GW := gw_of (i := 83) (by decide +kernel) rfl
theorem gw84 : Cond.fieldLink RX2 31 "Tenonyard$Frame" "breadths" "[I" ∈ GW := gw_of (i := 84) (by decide +kernel) rfl
theorem gw85 : Cond.fieldLink RX0 79 "Tenonyard$Frame" "breadths" "[I" ∈ GW := gw_of (i := 85) (by decide +kernel) rfl
theorem gw86 : Cond.fieldLink RX3 43 "Tenonyard$Frame" "breadths" "[I" ∈ GW := gw_of (i := 86) (by decide +kernel) rfl
theorem gw87 : Cond.fieldLink RX2 34 "Tenonyard$Frame" "grades" "[I" ∈ GW := gw_of (i := 87) (by decide +kernel) rfl
theorem gw88 : Cond.fieldLink RX0 80 "Tenonyard$Frame" "grades" "[I" ∈ GW := gw_of (i := 88) (by decide +kernel) rfl
theorem gw89 : Cond.fieldLink RX2 37 "Tenonyard$Frame" "cutMoistures" "[I" ∈ GW := gw_of (i := 89) (by decide +kernel) rfl
theorem gw90 : Cond.fieldLink RX3 56 "Tenonyard$Frame" "cutMoistures" "[I" ∈ GW := gw_of (i := 90) (by decide +kernel) rfl
theorem gw91 : Cond.fieldLink RX6 195 "Tenonyard$Frame" "cutMoistures" "[I" ∈ GW := gw_of (i := 91) (by decide +kernel) rfl
theorem gw92 : Cond.fieldLink RX2 40 "Tenonyard$Frame" "driedMoistures" "[I" ∈ GW := gw_of (i := 92) (by decide +kernel) rfl
theorem gw93 : Cond.fieldLink RX3 59 "Tenonyard$Frame" "driedMoistures" "[I" ∈ GW := gw_of (i := 93) (by decide +kernel) rfl
theorem gw94 : Cond.fieldLink RX6 199 "Tenonyard$Frame" "driedMoistures" "[I" ∈ GW := gw_of (i := 94) (by decide +kernel) rfl
theorem gw120 : Cond.arrayClass .int ∈ GW := gw_of (i := 120) (by decide +kernel) rfl
theorem gw121 : Cond.arrayClass .char ∈ GW := gw_of (i := 121) (by decide +kernel) rfl
theorem gw122 : Cond.classLink RX6 16 RX1 ∈ GW := gw_of (i := 122) (by decide +kernel) rfl
theorem gw123 : Cond.instantiable RX1 17 ∈ GW := gw_of (i := 123) (by decide +kernel) rfl
theorem gw124 : Cond.methodLinkNest RX6 18 yX1_init "Tenonyard" ∈ NW := nw_of (i := 124) (by decide +kernel) rfl
theorem gw125 : Cond.instanceMethod yX1_init ∈ GW := gw_of (i := 125) (by decide +kernel) rfl
theorem gw126 : Cond.code yX1_init cX1_init 1 none ∈ GW := gw_of (i := 126) (by decide +kernel) rfl
theorem gw127 : Cond.methodLink RX1 3 objectInit ∈ GW := gw_of (i := 127) (by decide +kernel) rfl
theorem gw128 : Cond.classLink RX1 40 RX5 ∈ GW := gw_of (i := 128) (by decide +kernel) rfl
theorem gw129 : Cond.instantiable RX5 1 ∈ GW := gw_of (i := 129) (by decide +kernel) rfl
theorem gw130 : Cond.methodLinkNest RX1 42 yX5_init "Tenonyard" ∈ NW := nw_of (i := 130) (by decide +kernel) rfl
theorem gw131 : Cond.instanceMethod yX5_init ∈ GW := gw_of (i := 131) (by decide +kernel) rfl
theorem gw132 : Cond.code yX5_init cX5_init 1 none ∈ GW := gw_of (i := 132) (by decide +kernel) rfl
theorem gw133 : Cond.methodLink RX5 1 objectInit ∈ GW := gw_of (i := 133) (by decide +kernel) rfl
theorem gw134 : Cond.fieldLink RX5 9 "Tenonyard$Wide" "parts" "[J" ∈ GW := gw_of (i := 134) (by decide +kernel) rfl
theorem gw138 : Cond.arrayClass .long ∈ GW := gw_of (i := 138) (by decide +kernel) rfl
theorem gw139 : Cond.fieldLink RX6 72 "Tenonyard$Forces" "isFound" "Z" ∈ GW := gw_of (i := 139) (by decide +kernel) rfl
theorem gw140 : Cond.fieldLink RX1 59 "Tenonyard$Forces" "isFound" "Z" ∈ GW := gw_of (i := 140) (by decide +kernel) rfl
theorem gw141 : Cond.fieldLink RX1 67 "Tenonyard$Forces" "outcome" "C" ∈ GW := gw_of (i := 141) (by decide +kernel) rfl
theorem gw142 : Cond.fieldLink RX6 114 "Tenonyard$Forces" "outcome" "C" ∈ GW := gw_of (i := 142) (by decide +kernel) rfl
theorem gw143 : Cond.fieldLink RX1 104 "Tenonyard$Forces" "divisor" "J" ∈ GW := gw_of (i := 143) (by decide +kernel) rfl
theorem gw144 : Cond.fieldLink RX1 11 "Tenonyard$Forces" "wholes" "[J" ∈ GW := gw_of (i := 144) (by decide +kernel) rfl
theorem gw145 : Cond.fieldLink RX1 15 "Tenonyard$Forces" "rests" "[J" ∈ GW := gw_of (i := 145) (by decide +kernel) rfl
theorem gw146 : Cond.fieldLink RX1 18 "Tenonyard$Forces" "amounts" "[J" ∈ GW := gw_of (i := 146) (by decide +kernel) rfl
theorem gw147 : Cond.fieldLink RX6 124 "Tenonyard$Forces" "amounts" "[J" ∈ GW := gw_of (i := 147) (by decide +kernel) rfl
theorem gw148 : Cond.fieldLink RX1 21 "Tenonyard$Forces" "ways" "[I" ∈ GW := gw_of (i := 148) (by decide +kernel) rfl
theorem gw149 : Cond.fieldLink RX1 25 "Tenonyard$Forces" "highAsked" "[I" ∈ GW := gw_of (i := 149) (by decide +kernel) rfl
theorem gw150 : Cond.fieldLink RX1 28 "Tenonyard$Forces" "lowAsked" "[I" ∈ GW := gw_of (i := 150) (by decide +kernel) rfl
theorem gw151 : Cond.fieldLink RX1 31 "Tenonyard$Forces" "plain" "[J" ∈ GW := gw_of (i := 151) (by decide +kernel) rfl
theorem gw152 : Cond.fieldLink RX1 34 "Tenonyard$Forces" "high" "[J" ∈ GW := gw_of (i := 152) (by decide +kernel) rfl
theorem gw153 : Cond.fieldLink RX1 37 "Tenonyard$Forces" "low" "[J" ∈ GW := gw_of (i := 153) (by decide +kernel) rfl
theorem gw154 : Cond.fieldLink RX1 43 "Tenonyard$Forces" "factor" "LTenonyard$Wide;" ∈ GW := gw_of (i := 154) (by decide +kernel) rfl
theorem gw155 : Cond.fieldLink RX1 47 "Tenonyard$Forces" "wideDivisor" "LTenonyard$Wide;" ∈ GW := gw_of (i := 155) (by decide +kernel) rfl
theorem gw156 : Cond.fieldLink RX1 50 "Tenonyard$Forces" "product" "LTenonyard$Wide;" ∈ GW := gw_of (i := 156) (by decide +kernel) rfl
theorem gw157 : Cond.fieldLink RX1 53 "Tenonyard$Forces" "square" "LTenonyard$Wide;" ∈ GW := gw_of (i := 157) (by decide +kernel) rfl
theorem gw158 : Cond.fieldLink RX1 56 "Tenonyard$Forces" "greatestSquare" "LTenonyard$Wide;" ∈ GW := gw_of (i := 158) (by decide +kernel) rfl
theorem gw194 : Cond.classLink RX6 23 RX3 ∈ GW := gw_of (i := 194) (by decide +kernel) rfl
theorem gw195 : Cond.instantiable RX3 6 ∈ GW := gw_of (i := 195) (by decide +kernel) rfl
theorem gw196 : Cond.methodLinkNest RX6 25 yX3_init "Tenonyard" ∈ NW := nw_of (i := 196) (by decide +kernel) rfl
theorem gw197 : Cond.instanceMethod yX3_init ∈ GW := gw_of (i := 197) (by decide +kernel) rfl
theorem gw198 : Cond.code yX3_init cX3_init 1 none ∈ GW := gw_of (i := 198) (by decide +kernel) rfl
theorem gw199 : Cond.methodLink RX3 3 objectInit ∈ GW := gw_of (i := 199) (by decide +kernel) rfl
theorem gw200 : Cond.fieldLink RX3 35 "Tenonyard$Joinery" "count" "I" ∈ GW := gw_of (i := 200) (by decide +kernel) rfl
theorem gw201 : Cond.fieldLink RX4 67 "Tenonyard$Joinery" "count" "I" ∈ GW := gw_of (i := 201) (by decide +kernel) rfl
theorem gw202 : Cond.fieldLink RX6 170 "Tenonyard$Joinery" "count" "I" ∈ GW := gw_of (i := 202) (by decide +kernel) rfl
theorem gw203 : Cond.fieldLink RX3 9 "Tenonyard$Joinery" "goingIn" "[I" ∈ GW := gw_of (i := 203) (by decide +kernel) rfl
theorem gw204 : Cond.fieldLink RX3 15 "Tenonyard$Joinery" "receiving" "[I" ∈ GW := gw_of (i := 204) (by decide +kernel) rfl
theorem gw205 : Cond.fieldLink RX3 18 "Tenonyard$Joinery" "ways" "[I" ∈ GW := gw_of (i := 205) (by decide +kernel) rfl
theorem gw206 : Cond.fieldLink RX3 21 "Tenonyard$Joinery" "thicknesses" "[I" ∈ GW := gw_of (i := 206) (by decide +kernel) rfl
theorem gw207 : Cond.fieldLink RX3 24 "Tenonyard$Joinery" "marks" "[I" ∈ GW := gw_of (i := 207) (by decide +kernel) rfl
theorem gw221 : Cond.classLink RX6 30 RX0 ∈ GW := gw_of (i := 221) (by decide +kernel) rfl
theorem gw222 : Cond.instantiable RX0 11 ∈ GW := gw_of (i := 222) (by decide +kernel) rfl
theorem gw223 : Cond.methodLinkNest RX6 32 yX0_init "Tenonyard" ∈ NW := nw_of (i := 223) (by decide +kernel) rfl
theorem gw224 : Cond.instanceMethod yX0_init ∈ GW := gw_of (i := 224) (by decide +kernel) rfl
theorem gw225 : Cond.code yX0_init cX0_init 1 none ∈ GW := gw_of (i := 225) (by decide +kernel) rfl
theorem gw226 : Cond.methodLink RX0 3 objectInit ∈ GW := gw_of (i := 226) (by decide +kernel) rfl
theorem gw227 : Cond.fieldLink RX0 34 "Tenonyard$Cutting" "count" "I" ∈ GW := gw_of (i := 227) (by decide +kernel) rfl
theorem gw228 : Cond.fieldLink RX6 210 "Tenonyard$Cutting" "count" "I" ∈ GW := gw_of (i := 228) (by decide +kernel) rfl
theorem gw229 : Cond.fieldLink RX6 98 "Tenonyard$Cutting" "isFound" "Z" ∈ GW := gw_of (i := 229) (by decide +kernel) rfl
theorem gw230 : Cond.fieldLink RX0 49 "Tenonyard$Cutting" "isFound" "Z" ∈ GW := gw_of (i := 230) (by decide +kernel) rfl
theorem gw231 : Cond.fieldLink RX0 89 "Tenonyard$Cutting" "canCut" "Z" ∈ GW := gw_of (i := 231) (by decide +kernel) rfl
theorem gw232 : Cond.fieldLink RX6 291 "Tenonyard$Cutting" "canCut" "Z" ∈ GW := gw_of (i := 232) (by decide +kernel) rfl
theorem gw233 : Cond.fieldLink RX0 92 "Tenonyard$Cutting" "usedLength" "I" ∈ GW := gw_of (i := 233) (by decide +kernel) rfl
theorem gw234 : Cond.fieldLink RX6 225 "Tenonyard$Cutting" "usedLength" "I" ∈ GW := gw_of (i := 234) (by decide +kernel) rfl
theorem gw235 : Cond.fieldLink RX0 9 "Tenonyard$Cutting" "chosen" "[I" ∈ GW := gw_of (i := 235) (by decide +kernel) rfl
theorem gw236 : Cond.fieldLink RX6 222 "Tenonyard$Cutting" "chosen" "[I" ∈ GW := gw_of (i := 236) (by decide +kernel) rfl
theorem gw237 : Cond.fieldLink RX0 15 "Tenonyard$Cutting" "lengths" "[I" ∈ GW := gw_of (i := 237) (by decide +kernel) rfl
theorem gw238 : Cond.fieldLink RX0 18 "Tenonyard$Cutting" "breadths" "[I" ∈ GW := gw_of (i := 238) (by decide +kernel) rfl
theorem gw239 : Cond.fieldLink RX0 21 "Tenonyard$Cutting" "grades" "[I" ∈ GW := gw_of (i := 239) (by decide +kernel) rfl
theorem gw240 : Cond.fieldLink RX0 24 "Tenonyard$Cutting" "spans" "[I" ∈ GW := gw_of (i := 240) (by decide +kernel) rfl
theorem gw241 : Cond.fieldLink RX0 27 "Tenonyard$Cutting" "weights" "[I" ∈ GW := gw_of (i := 241) (by decide +kernel) rfl
theorem gw242 : Cond.fieldLink RX0 30 "Tenonyard$Cutting" "costs" "[J" ∈ GW := gw_of (i := 242) (by decide +kernel) rfl
theorem gw266 : Cond.classLink RX6 37 RX4 ∈ GW := gw_of (i := 266) (by decide +kernel) rfl
theorem gw267 : Cond.instantiable RX4 9 ∈ GW := gw_of (i := 267) (by decide +kernel) rfl
theorem gw268 : Cond.methodLinkNest RX6 39 yX4_init "Tenonyard" ∈ NW := nw_of (i := 268) (by decide +kernel) rfl
theorem gw269 : Cond.instanceMethod yX4_init ∈ GW := gw_of (i := 269) (by decide +kernel) rfl
theorem gw270 : Cond.code yX4_init cX4_init 1 none ∈ GW := gw_of (i := 270) (by decide +kernel) rfl
theorem gw271 : Cond.methodLink RX4 3 objectInit ∈ GW := gw_of (i := 271) (by decide +kernel) rfl
theorem gw272 : Cond.fieldLink RX4 9 "Tenonyard$Raising" "limit" "I" ∈ GW := gw_of (i := 272) (by decide +kernel) rfl
theorem gw273 : Cond.fieldLink RX6 238 "Tenonyard$Raising" "limit" "I" ∈ GW := gw_of (i := 273) (by decide +kernel) rfl
theorem gw274 : Cond.fieldLink RX4 37 "Tenonyard$Raising" "isFound" "Z" ∈ GW := gw_of (i := 274) (by decide +kernel) rfl
theorem gw275 : Cond.fieldLink RX6 99 "Tenonyard$Raising" "isFound" "Z" ∈ GW := gw_of (i := 275) (by decide +kernel) rfl
theorem gw276 : Cond.fieldLink RX4 34 "Tenonyard$Raising" "all" "I" ∈ GW := gw_of (i := 276) (by decide +kernel) rfl
theorem gw277 : Cond.fieldLink RX4 60 "Tenonyard$Raising" "hanging" "I" ∈ GW := gw_of (i := 277) (by decide +kernel) rfl
theorem gw278 : Cond.fieldLink RX4 17 "Tenonyard$Raising" "asking" "[I" ∈ GW := gw_of (i := 278) (by decide +kernel) rfl
theorem gw279 : Cond.fieldLink RX4 21 "Tenonyard$Raising" "joined" "[I" ∈ GW := gw_of (i := 279) (by decide +kernel) rfl
theorem gw280 : Cond.fieldLink RX4 24 "Tenonyard$Raising" "orderCounts" "[I" ∈ GW := gw_of (i := 280) (by decide +kernel) rfl
theorem gw281 : Cond.fieldLink RX4 27 "Tenonyard$Raising" "leadsToAll" "[Z" ∈ GW := gw_of (i := 281) (by decide +kernel) rfl
theorem gw282 : Cond.fieldLink RX6 254 "Tenonyard$Raising" "leadsToAll" "[Z" ∈ GW := gw_of (i := 282) (by decide +kernel) rfl
theorem gw283 : Cond.fieldLink RX4 31 "Tenonyard$Raising" "order" "[I" ∈ GW := gw_of (i := 283) (by decide +kernel) rfl
theorem gw284 : Cond.fieldLink RX6 244 "Tenonyard$Raising" "order" "[I" ∈ GW := gw_of (i := 284) (by decide +kernel) rfl
theorem gw304 : Cond.arrayClass .boolean ∈ GW := gw_of (i := 304) (by decide +kernel) rfl
theorem gw305 : Cond.fieldLink RX6 12 "Tenonyard" "frame" "LTenonyard$Frame;" ∈ GW := gw_of (i := 305) (by decide +kernel) rfl
theorem gw306 : Cond.fieldLink RX6 19 "Tenonyard" "forces" "LTenonyard$Forces;" ∈ GW := gw_of (i := 306) (by decide +kernel) rfl
theorem gw307 : Cond.fieldLink RX6 26 "Tenonyard" "joinery" "LTenonyard$Joinery;" ∈ GW := gw_of (i := 307) (by decide +kernel) rfl
theorem gw308 : Cond.fieldLink RX6 33 "Tenonyard" "cutting" "LTenonyard$Cutting;" ∈ GW := gw_of (i := 308) (by decide +kernel) rfl
theorem gw309 : Cond.fieldLink RX6 40 "Tenonyard" "raising" "LTenonyard$Raising;" ∈ GW := gw_of (i := 309) (by decide +kernel) rfl
theorem gw321 : Cond.methodLink RL 178 yX6_isSound ∈ GW := gw_of (i := 321) (by decide +kernel) rfl
theorem gw322 : Cond.instanceMethod yX6_isSound ∈ GW := gw_of (i := 322) (by decide +kernel) rfl
theorem gw323 : Cond.selects RX6 yX6_isSound yX6_isSound ∈ GW := gw_of (i := 323) (by decide +kernel) rfl
theorem gw324 : Cond.code yX6_isSound cX6_isSound 2 (some .boolean) ∈ GW := gw_of (i := 324) (by decide +kernel) rfl
theorem gw325 : Cond.methodLink RX6 110 yX1_find ∈ GW := gw_of (i := 325) (by decide +kernel) rfl
theorem gw326 : Cond.instanceMethod yX1_find ∈ GW := gw_of (i := 326) (by decide +kernel) rfl
theorem gw327 : Cond.selects RX1 yX1_find yX1_find ∈ GW := gw_of (i := 327) (by decide +kernel) rfl
theorem gw328 : Cond.code yX1_find cX1_find 2 none ∈ GW := gw_of (i := 328) (by decide +kernel) rfl
theorem gw329 : Cond.methodLink RX1 63 yX1_findPulls ∈ GW := gw_of (i := 329) (by decide +kernel) rfl
theorem gw331 : Cond.instanceMethod yX1_findPulls ∈ GW := gw_of (i := 331) (by decide +kernel) rfl
theorem gw332 : Cond.code yX1_findPulls cX1_findPulls 7 (some .char) ∈ GW := gw_of (i := 332) (by decide +kernel) rfl
theorem gw333 : Cond.methodLink RX1 84 yX2_isBorne ∈ GW := gw_of (i := 333) (by decide +kernel) rfl
theorem gw334 : Cond.instanceMethod yX2_isBorne ∈ GW := gw_of (i := 334) (by decide +kernel) rfl
theorem gw335 : Cond.selects RX2 yX2_isBorne yX2_isBorne ∈ GW := gw_of (i := 335) (by decide +kernel) rfl
theorem gw336 : Cond.code yX2_isBorne cX2_isBorne 3 (some .boolean) ∈ GW := gw_of (i := 336) (by decide +kernel) rfl
theorem gw337 : Cond.methodLink RX1 91 yX1_fillRows ∈ GW := gw_of (i := 337) (by decide +kernel) rfl
theorem gw339 : Cond.instanceMethod yX1_fillRows ∈ GW := gw_of (i := 339) (by decide +kernel) rfl
theorem gw340 : Cond.code yX1_fillRows cX1_fillRows 7 none ∈ GW := gw_of (i := 340) (by decide +kernel) rfl
theorem gw341 : Cond.methodLink RX1 112 yX2_wayAlong ∈ GW := gw_of (i := 341) (by decide +kernel) rfl
theorem gw342 : Cond.instanceMethod yX2_wayAlong ∈ GW := gw_of (i := 342) (by decide +kernel) rfl
theorem gw343 : Cond.selects RX2 yX2_wayAlong yX2_wayAlong ∈ GW := gw_of (i := 343) (by decide +kernel) rfl
theorem gw344 : Cond.code yX2_wayAlong cX2_wayAlong 5 (some .int) ∈ GW := gw_of (i := 344) (by decide +kernel) rfl
theorem gw345 : Cond.methodLink RX2 50 yX2_otherEnd ∈ GW := gw_of (i := 345) (by decide +kernel) rfl
theorem gw346 : Cond.instanceMethod yX2_otherEnd ∈ GW := gw_of (i := 346) (by decide +kernel) rfl
theorem gw347 : Cond.selects RX2 yX2_otherEnd yX2_otherEnd ∈ GW := gw_of (i := 347) (by decide +kernel) rfl
theorem gw348 : Cond.code yX2_otherEnd cX2_otherEnd 3 (some .int) ∈ GW := gw_of (i := 348) (by decide +kernel) rfl
theorem gw349 : Cond.methodLink RX1 94 yX1_findDeterminants ∈ GW := gw_of (i := 349) (by decide +kernel) rfl
theorem gw351 : Cond.instanceMethod yX1_findDeterminants ∈ GW := gw_of (i := 351) (by decide +kernel) rfl
theorem gw352 : Cond.code yX1_findDeterminants cX1_findDeterminants 4 none ∈ GW := gw_of (i := 352) (by decide +kernel) rfl
theorem gw353 : Cond.methodLink RX1 119 yJ6_bitCount_0f7a4 ∈ GW := gw_of (i := 353) (by decide +kernel) rfl
theorem gw354 : Cond.static yJ6_bitCount_0f7a4 ∈ GW := gw_of (i := 354) (by decide +kernel) rfl
theorem gw355 : Cond.code yJ6_bitCount_0f7a4 cJ6_bitCount_0f7a4 1 (some .int) ∈ GW := gw_of (i := 355) (by decide +kernel) rfl
theorem gw356 : Cond.constant RJ6 265 (1431655765) ∈ GW := gw_of (i := 356) (by decide +kernel) rfl
theorem gw357 : Cond.constant RJ6 266 (858993459) ∈ GW := gw_of (i := 357) (by decide +kernel) rfl
theorem gw358 : Cond.constant RJ6 267 (252645135) ∈ GW := gw_of (i := 358) (by decide +kernel) rfl
theorem gw359 : Cond.methodLink RX1 125 yX1_expanded ∈ GW := gw_of (i := 359) (by decide +kernel) rfl
theorem gw361 : Cond.instanceMethod yX1_expanded ∈ GW := gw_of (i := 361) (by decide +kernel) rfl
theorem gw362 : Cond.code yX1_expanded cX1_expanded 9 (some .long) ∈ GW := gw_of (i := 362) (by decide +kernel) rfl
theorem gw363 : Cond.methodLink RX1 98 Lib.MathLoose.abs_long.x ∈ GW := gw_of (i := 363) (by decide +kernel) rfl
theorem gw364 : Cond.static Lib.MathLoose.abs_long.x ∈ GW := gw_of (i := 364) (by decide +kernel) rfl
theorem gw365 : Cond.code Lib.MathLoose.abs_long.x Lib.MathLoose.abs_long.code 2 (some .long) ∈ GW := gw_of (i := 365) (by decide +kernel) rfl
theorem gw366 : Cond.methodLink RX1 108 yX1_setPull ∈ GW := gw_of (i := 366) (by decide +kernel) rfl
theorem gw368 : Cond.instanceMethod yX1_setPull ∈ GW := gw_of (i := 368) (by decide +kernel) rfl
theorem gw369 : Cond.code yX1_setPull cX1_setPull 8 none ∈ GW := gw_of (i := 369) (by decide +kernel) rfl
theorem gw370 : Cond.constantLong RX1 129 (256) ∈ GW := gw_of (i := 370) (by decide +kernel) rfl
theorem gw371 : Cond.methodLink RX1 131 yJ9_floorDiv_f86c9 ∈ GW := gw_of (i := 371) (by decide +kernel) rfl
theorem gw372 : Cond.static yJ9_floorDiv_f86c9 ∈ GW := gw_of (i := 372) (by decide +kernel) rfl
theorem gw373 : Cond.code yJ9_floorDiv_f86c9 cJ9_floorDiv_f86c9 6 (some .long) ∈ GW := gw_of (i := 373) (by decide +kernel) rfl
theorem gw374 : Cond.methodLink RX1 135 yJ9_floorMod_f86c9 ∈ GW := gw_of (i := 374) (by decide +kernel) rfl
theorem gw375 : Cond.static yJ9_floorMod_f86c9 ∈ GW := gw_of (i := 375) (by decide +kernel) rfl
theorem gw376 : Cond.code yJ9_floorMod_f86c9 cJ9_floorMod_f86c9 6 (some .long) ∈ GW := gw_of (i := 376) (by decide +kernel) rfl
theorem gw377 : Cond.methodLink RX1 138 yX1_carry ∈ GW := gw_of (i := 377) (by decide +kernel) rfl
theorem gw379 : Cond.instanceMethod yX1_carry ∈ GW := gw_of (i := 379) (by decide +kernel) rfl
theorem gw380 : Cond.code yX1_carry cX1_carry 2 none ∈ GW := gw_of (i := 380) (by decide +kernel) rfl
theorem gw381 : Cond.methodLink RX1 71 yX1_findBearings ∈ GW := gw_of (i := 381) (by decide +kernel) rfl
theorem gw383 : Cond.instanceMethod yX1_findBearings ∈ GW := gw_of (i := 383) (by decide +kernel) rfl
theorem gw384 : Cond.code yX1_findBearings cX1_findBearings 6 none ∈ GW := gw_of (i := 384) (by decide +kernel) rfl
theorem gw385 : Cond.methodLink RX1 75 yX1_findAmounts ∈ GW := gw_of (i := 385) (by decide +kernel) rfl
theorem gw387 : Cond.instanceMethod yX1_findAmounts ∈ GW := gw_of (i := 387) (by decide +kernel) rfl
theorem gw388 : Cond.code yX1_findAmounts cX1_findAmounts 8 none ∈ GW := gw_of (i := 388) (by decide +kernel) rfl
theorem gw389 : Cond.methodLink RX1 141 yX5_set ∈ GW := gw_of (i := 389) (by decide +kernel) rfl
theorem gw390 : Cond.instanceMethod yX5_set ∈ GW := gw_of (i := 390) (by decide +kernel) rfl
theorem gw391 : Cond.selects RX5 yX5_set yX5_set ∈ GW := gw_of (i := 391) (by decide +kernel) rfl
theorem gw392 : Cond.code yX5_set cX5_set 4 none ∈ GW := gw_of (i := 392) (by decide +kernel) rfl
theorem gw393 : Cond.constantLong RX5 13 (4294967295) ∈ GW := gw_of (i := 393) (by decide +kernel) rfl
theorem gw394 : Cond.methodLink RX1 145 yX2_lengthSquare ∈ GW := gw_of (i := 394) (by decide +kernel) rfl
theorem gw395 : Cond.instanceMethod yX2_lengthSquare ∈ GW := gw_of (i := 395) (by decide +kernel) rfl
theorem gw396 : Cond.selects RX2 yX2_lengthSquare yX2_lengthSquare ∈ GW := gw_of (i := 396) (by decide +kernel) rfl
theorem gw397 : Cond.code yX2_lengthSquare cX2_lengthSquare 6 (some .int) ∈ GW := gw_of (i := 397) (by decide +kernel) rfl
theorem gw398 : Cond.constantLong RX1 148 (-1) ∈ GW := gw_of (i := 398) (by decide +kernel) rfl
theorem gw399 : Cond.methodLink RX1 150 yX1_timesLength ∈ GW := gw_of (i := 399) (by decide +kernel) rfl
theorem gw401 : Cond.instanceMethod yX1_timesLength ∈ GW := gw_of (i := 401) (by decide +kernel) rfl
theorem gw402 : Cond.code yX1_timesLength cX1_timesLength 13 (some .long) ∈ GW := gw_of (i := 402) (by decide +kernel) rfl
theorem gw403 : Cond.methodLink RX1 154 yX5_setProduct ∈ GW := gw_of (i := 403) (by decide +kernel) rfl
theorem gw404 : Cond.instanceMethod yX5_setProduct ∈ GW := gw_of (i := 404) (by decide +kernel) rfl
theorem gw405 : Cond.selects RX5 yX5_setProduct yX5_setProduct ∈ GW := gw_of (i := 405) (by decide +kernel) rfl
theorem gw406 : Cond.code yX5_setProduct cX5_setProduct 7 none ∈ GW := gw_of (i := 406) (by decide +kernel) rfl
theorem gw407 : Cond.methodLink RX1 158 yX5_add ∈ GW := gw_of (i := 407) (by decide +kernel) rfl
theorem gw408 : Cond.instanceMethod yX5_add ∈ GW := gw_of (i := 408) (by decide +kernel) rfl
theorem gw409 : Cond.selects RX5 yX5_add yX5_add ∈ GW := gw_of (i := 409) (by decide +kernel) rfl
theorem gw410 : Cond.code yX5_add cX5_add 8 none ∈ GW := gw_of (i := 410) (by decide +kernel) rfl
theorem gw411 : Cond.constantLong RX1 161 (214497024112901762) ∈ GW := gw_of (i := 411) (by decide +kernel) rfl
theorem gw412 : Cond.constantLong RX1 163 (43) ∈ GW := gw_of (i := 412) (by decide +kernel) rfl
theorem gw413 : Cond.constantLong RX1 165 (9223372036854775807) ∈ GW := gw_of (i := 413) (by decide +kernel) rfl
theorem gw414 : Cond.constantLong RX1 167 (2) ∈ GW := gw_of (i := 414) (by decide +kernel) rfl
theorem gw415 : Cond.methodLink RX1 169 yX5_isAtMost ∈ GW := gw_of (i := 415) (by decide +kernel) rfl
theorem gw416 : Cond.instanceMethod yX5_isAtMost ∈ GW := gw_of (i := 416) (by decide +kernel) rfl
theorem gw417 : Cond.selects RX5 yX5_isAtMost yX5_isAtMost ∈ GW := gw_of (i := 417) (by decide +kernel) rfl
theorem gw418 : Cond.code yX5_isAtMost cX5_isAtMost 3 (some .boolean) ∈ GW := gw_of (i := 418) (by decide +kernel) rfl
theorem gw419 : Cond.methodLink RX6 138 yX1_holdsAt ∈ GW := gw_of (i := 419) (by decide +kernel) rfl
theorem gw420 : Cond.instanceMethod yX1_holdsAt ∈ GW := gw_of (i := 420) (by decide +kernel) rfl
theorem gw421 : Cond.selects RX1 yX1_holdsAt yX1_holdsAt ∈ GW := gw_of (i := 421) (by decide +kernel) rfl
theorem gw422 : Cond.code yX1_holdsAt cX1_holdsAt 3 (some .boolean) ∈ GW := gw_of (i := 422) (by decide +kernel) rfl
theorem gw423 : Cond.methodLink RX1 185 yX1_holdsAlong ∈ GW := gw_of (i := 423) (by decide +kernel) rfl
theorem gw425 : Cond.instanceMethod yX1_holdsAlong ∈ GW := gw_of (i := 425) (by decide +kernel) rfl
theorem gw426 : Cond.code yX1_holdsAlong cX1_holdsAlong 12 (some .boolean) ∈ GW := gw_of (i := 426) (by decide +kernel) rfl
theorem gw427 : Cond.methodLink RX1 192 yX1_bearingIndex ∈ GW := gw_of (i := 427) (by decide +kernel) rfl
theorem gw428 : Cond.instanceMethod yX1_bearingIndex ∈ GW := gw_of (i := 428) (by decide +kernel) rfl
theorem gw429 : Cond.selects RX1 yX1_bearingIndex yX1_bearingIndex ∈ GW := gw_of (i := 429) (by decide +kernel) rfl
theorem gw430 : Cond.code yX1_bearingIndex cX1_bearingIndex 3 (some .int) ∈ GW := gw_of (i := 430) (by decide +kernel) rfl
theorem gw431 : Cond.methodLink RX1 196 yX2_otherEnd ∈ GW := gw_of (i := 431) (by decide +kernel) rfl
theorem gw432 : Cond.methodLink RX6 273 yX6_canRaise ∈ GW := gw_of (i := 432) (by decide +kernel) rfl
theorem gw433 : Cond.instanceMethod yX6_canRaise ∈ GW := gw_of (i := 433) (by decide +kernel) rfl
theorem gw434 : Cond.selects RX6 yX6_canRaise yX6_canRaise ∈ GW := gw_of (i := 434) (by decide +kernel) rfl
theorem gw435 : Cond.code yX6_canRaise cX6_canRaise 1 (some .boolean) ∈ GW := gw_of (i := 435) (by decide +kernel) rfl
theorem gw436 : Cond.methodLink RX6 247 yX4_find ∈ GW := gw_of (i := 436) (by decide +kernel) rfl
theorem gw437 : Cond.instanceMethod yX4_find ∈ GW := gw_of (i := 437) (by decide +kernel) rfl
theorem gw438 : Cond.selects RX4 yX4_find yX4_find ∈ GW := gw_of (i := 438) (by decide +kernel) rfl
theorem gw439 : Cond.code yX4_find cX4_find 3 none ∈ GW := gw_of (i := 439) (by decide +kernel) rfl
theorem gw440 : Cond.methodLink RX4 46 yX4_gather ∈ GW := gw_of (i := 440) (by decide +kernel) rfl
theorem gw442 : Cond.instanceMethod yX4_gather ∈ GW := gw_of (i := 442) (by decide +kernel) rfl
theorem gw443 : Cond.code yX4_gather cX4_gather 6 none ∈ GW := gw_of (i := 443) (by decide +kernel) rfl
theorem gw444 : Cond.methodLink RX4 63 yX2_isOnGround ∈ GW := gw_of (i := 444) (by decide +kernel) rfl
theorem gw445 : Cond.instanceMethod yX2_isOnGround ∈ GW := gw_of (i := 445) (by decide +kernel) rfl
theorem gw446 : Cond.selects RX2 yX2_isOnGround yX2_isOnGround ∈ GW := gw_of (i := 446) (by decide +kernel) rfl
theorem gw447 : Cond.code yX2_isOnGround cX2_isOnGround 2 (some .boolean) ∈ GW := gw_of (i := 447) (by decide +kernel) rfl
theorem gw448 : Cond.methodLink RX4 70 yX3_partner ∈ GW := gw_of (i := 448) (by decide +kernel) rfl
theorem gw449 : Cond.instanceMethod yX3_partner ∈ GW := gw_of (i := 449) (by decide +kernel) rfl
theorem gw450 : Cond.selects RX3 yX3_partner yX3_partner ∈ GW := gw_of (i := 450) (by decide +kernel) rfl
theorem gw451 : Cond.code yX3_partner cX3_partner 3 (some .int) ∈ GW := gw_of (i := 451) (by decide +kernel) rfl
theorem gw452 : Cond.methodLink RX4 74 yX3_wayFor ∈ GW := gw_of (i := 452) (by decide +kernel) rfl
theorem gw453 : Cond.instanceMethod yX3_wayFor ∈ GW := gw_of (i := 453) (by decide +kernel) rfl
theorem gw454 : Cond.selects RX3 yX3_wayFor yX3_wayFor ∈ GW := gw_of (i := 454) (by decide +kernel) rfl
theorem gw455 : Cond.code yX3_wayFor cX3_wayFor 4 (some .int) ∈ GW := gw_of (i := 455) (by decide +kernel) rfl
theorem gw456 : Cond.methodLink RX4 50 yX4_goForward ∈ GW := gw_of (i := 456) (by decide +kernel) rfl
theorem gw458 : Cond.instanceMethod yX4_goForward ∈ GW := gw_of (i := 458) (by decide +kernel) rfl
theorem gw459 : Cond.code yX4_goForward cX4_goForward 6 none ∈ GW := gw_of (i := 459) (by decide +kernel) rfl
theorem gw460 : Cond.methodLink RX4 83 yX4_propsFor ∈ GW := gw_of (i := 460) (by decide +kernel) rfl
theorem gw461 : Cond.instanceMethod yX4_propsFor ∈ GW := gw_of (i := 461) (by decide +kernel) rfl
theorem gw462 : Cond.selects RX4 yX4_propsFor yX4_propsFor ∈ GW := gw_of (i := 462) (by decide +kernel) rfl
theorem gw463 : Cond.code yX4_propsFor cX4_propsFor 5 (some .int) ∈ GW := gw_of (i := 463) (by decide +kernel) rfl
theorem gw464 : Cond.methodLink RX4 77 yJ6_bitCount_0f7a4 ∈ GW := gw_of (i := 464) (by decide +kernel) rfl
theorem gw465 : Cond.methodLink RX4 86 yX4_canMoveIn ∈ GW := gw_of (i := 465) (by decide +kernel) rfl
theorem gw467 : Cond.instanceMethod yX4_canMoveIn ∈ GW := gw_of (i := 467) (by decide +kernel) rfl
theorem gw468 : Cond.code yX4_canMoveIn cX4_canMoveIn 5 (some .boolean) ∈ GW := gw_of (i := 468) (by decide +kernel) rfl
theorem gw469 : Cond.methodLink RX4 54 yX4_goBackward ∈ GW := gw_of (i := 469) (by decide +kernel) rfl
theorem gw471 : Cond.instanceMethod yX4_goBackward ∈ GW := gw_of (i := 471) (by decide +kernel) rfl
theorem gw472 : Cond.code yX4_goBackward cX4_goBackward 6 none ∈ GW := gw_of (i := 472) (by decide +kernel) rfl
theorem gw473 : Cond.methodLink RX4 57 yX4_findOrder ∈ GW := gw_of (i := 473) (by decide +kernel) rfl
theorem gw475 : Cond.instanceMethod yX4_findOrder ∈ GW := gw_of (i := 475) (by decide +kernel) rfl
theorem gw476 : Cond.code yX4_findOrder cX4_findOrder 5 none ∈ GW := gw_of (i := 476) (by decide +kernel) rfl
theorem gw477 : Cond.methodLink RX4 90 yX4_firstThatLeads ∈ GW := gw_of (i := 477) (by decide +kernel) rfl
theorem gw479 : Cond.instanceMethod yX4_firstThatLeads ∈ GW := gw_of (i := 479) (by decide +kernel) rfl
theorem gw480 : Cond.code yX4_firstThatLeads cX4_firstThatLeads 6 (some .int) ∈ GW := gw_of (i := 480) (by decide +kernel) rfl
theorem gw481 : Cond.methodLink RX6 250 yX4_orderCount ∈ GW := gw_of (i := 481) (by decide +kernel) rfl
theorem gw482 : Cond.instanceMethod yX4_orderCount ∈ GW := gw_of (i := 482) (by decide +kernel) rfl
theorem gw483 : Cond.selects RX4 yX4_orderCount yX4_orderCount ∈ GW := gw_of (i := 483) (by decide +kernel) rfl
theorem gw484 : Cond.code yX4_orderCount cX4_orderCount 1 (some .int) ∈ GW := gw_of (i := 484) (by decide +kernel) rfl
theorem gw485 : Cond.methodLink RX6 277 yX6_canTakeAway ∈ GW := gw_of (i := 485) (by decide +kernel) rfl
theorem gw486 : Cond.instanceMethod yX6_canTakeAway ∈ GW := gw_of (i := 486) (by decide +kernel) rfl
theorem gw487 : Cond.selects RX6 yX6_canTakeAway yX6_canTakeAway ∈ GW := gw_of (i := 487) (by decide +kernel) rfl
theorem gw488 : Cond.code yX6_canTakeAway cX6_canTakeAway 1 (some .boolean) ∈ GW := gw_of (i := 488) (by decide +kernel) rfl
theorem gw489 : Cond.methodLink RL 128 yL_pick ∈ GW := gw_of (i := 489) (by decide +kernel) rfl
theorem gw490 : Cond.static yL_pick ∈ GW := gw_of (i := 490) (by decide +kernel) rfl
theorem gw491 : Cond.code yL_pick cL_pick 3 (some .int) ∈ GW := gw_of (i := 491) (by decide +kernel) rfl
theorem gw492 : Cond.methodLink RL 8 yL_cell ∈ GW := gw_of (i := 492) (by decide +kernel) rfl
theorem gw493 : Cond.static yL_cell ∈ GW := gw_of (i := 493) (by decide +kernel) rfl
theorem gw494 : Cond.code yL_cell cL_cell 2 (some .int) ∈ GW := gw_of (i := 494) (by decide +kernel) rfl
theorem gw495 : Cond.constant RL 7 (40503) ∈ GW := gw_of (i := 495) (by decide +kernel) rfl
theorem gw496 : Cond.methodLink RL 140 yL_node ∈ GW := gw_of (i := 496) (by decide +kernel) rfl
theorem gw497 : Cond.static yL_node ∈ GW := gw_of (i := 497) (by decide +kernel) rfl
theorem gw498 : Cond.codeWith yL_node cL_node 5 (some .int) [(0, 7, 8, 20), (0, 7, 13, 22)] ∈ GW := gw_of (i := 498) (by decide +kernel) rfl
theorem gw499 : Cond.classLink RL 20 "java/lang/IllegalArgumentException" ∈ GW := gw_of (i := 499) (by decide +kernel) rfl
theorem gw500 : Cond.classLink RL 22 "java/lang/IllegalStateException" ∈ GW := gw_of (i := 500) (by decide +kernel) rfl
theorem gw501 : Cond.methodLink RL 14 yX6_node ∈ GW := gw_of (i := 501) (by decide +kernel) rfl
theorem gw502 : Cond.instanceMethod yX6_node ∈ GW := gw_of (i := 502) (by decide +kernel) rfl
theorem gw503 : Cond.selects RX6 yX6_node yX6_node ∈ GW := gw_of (i := 503) (by decide +kernel) rfl
theorem gw504 : Cond.code yX6_node cX6_node 4 (some .int) ∈ GW := gw_of (i := 504) (by decide +kernel) rfl
theorem gw505 : Cond.methodLink RX6 44 yX6_isWithin ∈ GW := gw_of (i := 505) (by decide +kernel) rfl
theorem gw506 : Cond.static yX6_isWithin ∈ GW := gw_of (i := 506) (by decide +kernel) rfl
theorem gw507 : Cond.code yX6_isWithin cX6_isWithin 3 (some .boolean) ∈ GW := gw_of (i := 507) (by decide +kernel) rfl
theorem gw509 : Cond.methodLink RX6 50 yJ0_indexOf_0f7a4 ∈ GW := gw_of (i := 509) (by decide +kernel) rfl
theorem gw510 : Cond.instanceMethod yJ0_indexOf_0f7a4 ∈ GW := gw_of (i := 510) (by decide +kernel) rfl
theorem gw511 : Cond.selects RJ0 yJ0_indexOf_0f7a4 yJ0_indexOf_0f7a4 ∈ GW := gw_of (i := 511) (by decide +kernel) rfl
theorem gw512 : Cond.code yJ0_indexOf_0f7a4 cJ0_indexOf_0f7a4 2 (some .int) ∈ GW := gw_of (i := 512) (by decide +kernel) rfl
theorem gw513 : Cond.methodLink RJ0 633 yJ0_indexOf_7cf53 ∈ GW := gw_of (i := 513) (by decide +kernel) rfl
theorem gw514 : Cond.instanceMethod yJ0_indexOf_7cf53 ∈ GW := gw_of (i := 514) (by decide +kernel) rfl
theorem gw515 : Cond.selects RJ0 yJ0_indexOf_7cf53 yJ0_indexOf_7cf53 ∈ GW := gw_of (i := 515) (by decide +kernel) rfl
theorem gw516 : Cond.code yJ0_indexOf_7cf53 cJ0_indexOf_7cf53 3 (some .int) ∈ GW := gw_of (i := 516) (by decide +kernel) rfl
theorem gw517 : Cond.methodLink RJ0 492 yJ0_isLatin1_aae02 ∈ GW := gw_of (i := 517) (by decide +kernel) rfl
theorem gw518 : Cond.instanceMethod yJ0_isLatin1_aae02 ∈ GW := gw_of (i := 518) (by decide +kernel) rfl
theorem gw519 : Cond.selects RJ0 yJ0_isLatin1_aae02 yJ0_isLatin1_aae02 ∈ GW := gw_of (i := 519) (by decide +kernel) rfl
theorem gw520 : Cond.code yJ0_isLatin1_aae02 cJ0_isLatin1_aae02 1 (some .boolean) ∈ GW := gw_of (i := 520) (by decide +kernel) rfl
theorem gw521 : Cond.fieldLink RJ0 38 "java/lang/String" "COMPACT_STRINGS" "Z" ∈ GW := gw_of (i := 521) (by decide +kernel) rfl
theorem gw523 : Cond.methodLink RJ0 505 yJ0_length_8abf5 ∈ GW := gw_of (i := 523) (by decide +kernel) rfl
theorem gw524 : Cond.instanceMethod yJ0_length_8abf5 ∈ GW := gw_of (i := 524) (by decide +kernel) rfl
theorem gw525 : Cond.selects RJ0 yJ0_length_8abf5 yJ0_length_8abf5 ∈ GW := gw_of (i := 525) (by decide +kernel) rfl
theorem gw526 : Cond.code yJ0_length_8abf5 cJ0_length_8abf5 1 (some .int) ∈ GW := gw_of (i := 526) (by decide +kernel) rfl
theorem gw527 : Cond.methodLink RJ0 335 yJ0_coder_7d493 ∈ GW := gw_of (i := 527) (by decide +kernel) rfl
theorem gw528 : Cond.instanceMethod yJ0_coder_7d493 ∈ GW := gw_of (i := 528) (by decide +kernel) rfl
theorem gw529 : Cond.selects RJ0 yJ0_coder_7d493 yJ0_coder_7d493 ∈ GW := gw_of (i := 529) (by decide +kernel) rfl
theorem gw530 : Cond.code yJ0_coder_7d493 cJ0_coder_7d493 1 (some .byte) ∈ GW := gw_of (i := 530) (by decide +kernel) rfl
theorem gw531 : Cond.methodLink RJ0 637 yJ1_indexOf_4cfef ∈ GW := gw_of (i := 531) (by decide +kernel) rfl
theorem gw532 : Cond.static yJ1_indexOf_4cfef ∈ GW := gw_of (i := 532) (by decide +kernel) rfl
theorem gw533 : Cond.code yJ1_indexOf_4cfef cJ1_indexOf_4cfef 4 (some .int) ∈ GW := gw_of (i := 533) (by decide +kernel) rfl
theorem gw534 : Cond.methodLink RJ1 88 yJ1_canEncode_9a6ad ∈ GW := gw_of (i := 534) (by decide +kernel) rfl
theorem gw535 : Cond.static yJ1_canEncode_9a6ad ∈ GW := gw_of (i := 535) (by decide +kernel) rfl
theorem gw536 : Cond.code yJ1_canEncode_9a6ad cJ1_canEncode_9a6ad 1 (some .boolean) ∈ GW := gw_of (i := 536) (by decide +kernel) rfl
theorem gw537 : Cond.methodLink RJ1 92 Lib.Math.max.name ∈ GW := gw_of (i := 537) (by decide +kernel) rfl
theorem gw538 : Cond.static Lib.Math.max.name ∈ GW := gw_of (i := 538) (by decide +kernel) rfl
theorem gw539 : Cond.code Lib.Math.max.name Lib.Math.max.code 2 (some .int) ∈ GW := gw_of (i := 539) (by decide +kernel) rfl
theorem gw540 : Cond.methodLink RJ1 38 Lib.Math.min.name ∈ GW := gw_of (i := 540) (by decide +kernel) rfl
theorem gw541 : Cond.static Lib.Math.min.name ∈ GW := gw_of (i := 541) (by decide +kernel) rfl
theorem gw542 : Cond.code Lib.Math.min.name Lib.Math.min.code 2 (some .int) ∈ GW := gw_of (i := 542) (by decide +kernel) rfl
theorem gw543 : Cond.methodLink RJ1 95 yJ1_indexOfChar_4cfef ∈ GW := gw_of (i := 543) (by decide +kernel) rfl
theorem gw544 : Cond.static yJ1_indexOfChar_4cfef ∈ GW := gw_of (i := 544) (by decide +kernel) rfl
theorem gw545 : Cond.code yJ1_indexOfChar_4cfef cJ1_indexOfChar_4cfef 6 (some .int) ∈ GW := gw_of (i := 545) (by decide +kernel) rfl
theorem gw546 : Cond.methodLink RJ0 640 yJ2_indexOf_4cfef ∈ GW := gw_of (i := 546) (by decide +kernel) rfl
theorem gw547 : Cond.static yJ2_indexOf_4cfef ∈ GW := gw_of (i := 547) (by decide +kernel) rfl
theorem gw548 : Cond.code yJ2_indexOf_4cfef cJ2_indexOf_4cfef 4 (some .int) ∈ GW := gw_of (i := 548) (by decide +kernel) rfl
theorem gw549 : Cond.methodLink RJ2 224 Lib.Math.max.name ∈ GW := gw_of (i := 549) (by decide +kernel) rfl
theorem gw550 : Cond.methodLink RJ2 183 Lib.Math.min.name ∈ GW := gw_of (i := 550) (by decide +kernel) rfl
theorem gw551 : Cond.constant RJ2 227 (65536) ∈ GW := gw_of (i := 551) (by decide +kernel) rfl
theorem gw552 : Cond.methodLink RJ2 228 yJ2_indexOfChar_4cfef ∈ GW := gw_of (i := 552) (by decide +kernel) rfl
theorem gw553 : Cond.static yJ2_indexOfChar_4cfef ∈ GW := gw_of (i := 553) (by decide +kernel) rfl
theorem gw554 : Cond.code yJ2_indexOfChar_4cfef cJ2_indexOfChar_4cfef 4 (some .int) ∈ GW := gw_of (i := 554) (by decide +kernel) rfl
theorem gw555 : Cond.methodLink RJ2 96 yJ2_checkBoundsBeginEnd_d044e ∈ GW := gw_of (i := 555) (by decide +kernel) rfl
theorem gw556 : Cond.static yJ2_checkBoundsBeginEnd_d044e ∈ GW := gw_of (i := 556) (by decide +kernel) rfl
theorem gw557 : Cond.code yJ2_checkBoundsBeginEnd_d044e cJ2_checkBoundsBeginEnd_d044e 3 none ∈ GW := gw_of (i := 557) (by decide +kernel) rfl
theorem gw558 : Cond.methodLink RJ2 48 yJ2_length_9d52b ∈ GW := gw_of (i := 558) (by decide +kernel) rfl
theorem gw559 : Cond.static yJ2_length_9d52b ∈ GW := gw_of (i := 559) (by decide +kernel) rfl
theorem gw560 : Cond.code yJ2_length_9d52b cJ2_length_9d52b 1 (some .int) ∈ GW := gw_of (i := 560) (by decide +kernel) rfl
theorem gw561 : Cond.methodLink RJ2 241 yJ0_checkBoundsBeginEnd_23922 ∈ GW := gw_of (i := 561) (by decide +kernel) rfl
theorem gw562 : Cond.static yJ0_checkBoundsBeginEnd_23922 ∈ GW := gw_of (i := 562) (by decide +kernel) rfl
theorem gw563 : Cond.code yJ0_checkBoundsBeginEnd_23922 cJ0_checkBoundsBeginEnd_23922 3 none ∈ GW := gw_of (i := 563) (by decide +kernel) rfl
theorem gw564 : Cond.fieldLink RJ0 1053 "jdk/internal/util/Preconditions" "SIOOBE_FORMATTER" "Ljava/util/function/BiFunction;" ∈ GW := gw_of (i := 564) (by decide +kernel) rfl
theorem gw566 : Cond.methodLink RJ0 1062 yJ3_checkFromToIndex_8c36e ∈ GW := gw_of (i := 566) (by decide +kernel) rfl
theorem gw567 : Cond.static yJ3_checkFromToIndex_8c36e ∈ GW := gw_of (i := 567) (by decide +kernel) rfl
theorem gw568 : Cond.code yJ3_checkFromToIndex_8c36e cJ3_checkFromToIndex_8c36e 4 (some .int) ∈ GW := gw_of (i := 568) (by decide +kernel) rfl
theorem gw569 : Cond.methodLink RJ2 244 yJ2_indexOfCharUnsafe_4cfef ∈ GW := gw_of (i := 569) (by decide +kernel) rfl
theorem gw570 : Cond.static yJ2_indexOfCharUnsafe_4cfef ∈ GW := gw_of (i := 570) (by decide +kernel) rfl
theorem gw571 : Cond.code yJ2_indexOfCharUnsafe_4cfef cJ2_indexOfCharUnsafe_4cfef 5 (some .int) ∈ GW := gw_of (i := 571) (by decide +kernel) rfl
theorem gw572 : Cond.methodLink RJ2 71 yJ2_getChar_3b067 ∈ GW := gw_of (i := 572) (by decide +kernel) rfl
theorem gw573 : Cond.static yJ2_getChar_3b067 ∈ GW := gw_of (i := 573) (by decide +kernel) rfl
theorem gw574 : Cond.code yJ2_getChar_3b067 cJ2_getChar_3b067 2 (some .char) ∈ GW := gw_of (i := 574) (by decide +kernel) rfl
theorem gw575 : Cond.fieldLink RJ2 44 "java/lang/StringUTF16" "$assertionsDisabled" "Z" ∈ GW := gw_of (i := 575) (by decide +kernel) rfl
theorem gw577 : Cond.fieldLink RJ2 59 "java/lang/StringUTF16" "HI_BYTE_SHIFT" "I" ∈ GW := gw_of (i := 577) (by decide +kernel) rfl
theorem gw579 : Cond.fieldLink RJ2 63 "java/lang/StringUTF16" "LO_BYTE_SHIFT" "I" ∈ GW := gw_of (i := 579) (by decide +kernel) rfl
theorem gw581 : Cond.methodLink RJ2 232 yJ2_indexOfSupplementary_4cfef ∈ GW := gw_of (i := 581) (by decide +kernel) rfl
theorem gw582 : Cond.static yJ2_indexOfSupplementary_4cfef ∈ GW := gw_of (i := 582) (by decide +kernel) rfl
theorem gw583 : Cond.code yJ2_indexOfSupplementary_4cfef cJ2_indexOfSupplementary_4cfef 7 (some .int) ∈ GW := gw_of (i := 583) (by decide +kernel) rfl
theorem gw584 : Cond.methodLink RJ2 164 yJ11_isValidCodePoint_9a6ad ∈ GW := gw_of (i := 584) (by decide +kernel) rfl
theorem gw585 : Cond.static yJ11_isValidCodePoint_9a6ad ∈ GW := gw_of (i := 585) (by decide +kernel) rfl
theorem gw586 : Cond.code yJ11_isValidCodePoint_9a6ad cJ11_isValidCodePoint_9a6ad 2 (some .boolean) ∈ GW := gw_of (i := 586) (by decide +kernel) rfl
theorem gw587 : Cond.methodLink RJ2 157 yJ11_highSurrogate_5068e ∈ GW := gw_of (i := 587) (by decide +kernel) rfl
theorem gw588 : Cond.static yJ11_highSurrogate_5068e ∈ GW := gw_of (i := 588) (by decide +kernel) rfl
theorem gw589 : Cond.code yJ11_highSurrogate_5068e cJ11_highSurrogate_5068e 1 (some .char) ∈ GW := gw_of (i := 589) (by decide +kernel) rfl
theorem gw590 : Cond.constant RJ11 110 (55232) ∈ GW := gw_of (i := 590) (by decide +kernel) rfl
theorem gw591 : Cond.methodLink RJ2 161 yJ11_lowSurrogate_5068e ∈ GW := gw_of (i := 591) (by decide +kernel) rfl
theorem gw592 : Cond.static yJ11_lowSurrogate_5068e ∈ GW := gw_of (i := 592) (by decide +kernel) rfl
theorem gw593 : Cond.code yJ11_lowSurrogate_5068e cJ11_lowSurrogate_5068e 1 (some .char) ∈ GW := gw_of (i := 593) (by decide +kernel) rfl
theorem gw594 : Cond.constant RJ11 76 (56320) ∈ GW := gw_of (i := 594) (by decide +kernel) rfl
theorem gw595 : Cond.classLink RX6 56 "java/lang/IllegalArgumentException" ∈ GW := gw_of (i := 595) (by decide +kernel) rfl
theorem gw596 : Cond.instantiable "java/lang/IllegalArgumentException" 6 ∈ GW := gw_of (i := 596) (by decide +kernel) rfl
theorem gw597 : Cond.castable "java/lang/IllegalArgumentException" "java/lang/IllegalArgumentException" ∈ NW := nw_of (i := 597) (by decide +kernel) rfl
theorem gw616 : Cond.fieldLink "java/lang/Throwable" 198 "java/lang/Throwable" "backtrace" "Ljava/lang/Object;" ∈ GW := gw_of (i := 616) (by decide +kernel) rfl
theorem gw620 : Cond.methodLink "java/lang/Throwable" 1 objectInit ∈ GW := gw_of (i := 620) (by decide +kernel) rfl
theorem gw621 : Cond.fieldLink "java/lang/Throwable" 13 "java/lang/Throwable" "UNASSIGNED_STACK" "[Ljava/lang/StackTraceElement;" ∈ GW := gw_of (i := 621) (by decide +kernel) rfl
theorem gw623 : Cond.fieldLink "java/lang/Throwable" 20 "java/lang/Throwable" "SUPPRESSED_SENTINEL" "Ljava/util/List;" ∈ GW := gw_of (i := 623) (by decide +kernel) rfl
theorem gw638 : Cond.instantiable "java/lang/Throwable" 6 ∈ GW := gw_of (i := 638) (by decide +kernel) rfl
theorem gw654 : Cond.fieldLink "java/lang/Throwable" 31 "java/lang/Throwable" "detailMessage" "Ljava/lang/String;" ∈ GW := gw_of (i := 654) (by decide +kernel) rfl
theorem gw655 : Cond.fieldLink "java/lang/Throwable" 7 "java/lang/Throwable" "cause" "Ljava/lang/Throwable;" ∈ GW := gw_of (i := 655) (by decide +kernel) rfl
theorem gw656 : Cond.fieldLink "java/lang/Throwable" 17 "java/lang/Throwable" "stackTrace" "[Ljava/lang/StackTraceElement;" ∈ GW := gw_of (i := 656) (by decide +kernel) rfl
theorem gw657 : Cond.fieldLink "java/lang/Throwable" 24 "java/lang/Throwable" "suppressedExceptions" "Ljava/util/List;" ∈ GW := gw_of (i := 657) (by decide +kernel) rfl
theorem gw666 : Cond.arrayClass .byte ∈ GW := gw_of (i := 666) (by decide +kernel) rfl
theorem gw667 : Cond.classLink RX6 67 "java/lang/IllegalStateException" ∈ GW := gw_of (i := 667) (by decide +kernel) rfl
theorem gw668 : Cond.instantiable "java/lang/IllegalStateException" 6 ∈ GW := gw_of (i := 668) (by decide +kernel) rfl
theorem gw669 : Cond.castable "java/lang/IllegalStateException" "java/lang/IllegalStateException" ∈ NW := nw_of (i := 669) (by decide +kernel) rfl
theorem gw683 : Cond.methodLink RX6 76 yX2_addNode ∈ GW := gw_of (i := 683) (by decide +kernel) rfl
theorem gw684 : Cond.instanceMethod yX2_addNode ∈ GW := gw_of (i := 684) (by decide +kernel) rfl
theorem gw685 : Cond.selects RX2 yX2_addNode yX2_addNode ∈ GW := gw_of (i := 685) (by decide +kernel) rfl
theorem gw686 : Cond.code yX2_addNode cX2_addNode 5 (some .int) ∈ GW := gw_of (i := 686) (by decide +kernel) rfl
theorem gw687 : Cond.methodLink RL 143 yL_member ∈ GW := gw_of (i := 687) (by decide +kernel) rfl
theorem gw688 : Cond.static yL_member ∈ GW := gw_of (i := 688) (by decide +kernel) rfl
theorem gw689 : Cond.codeWith yL_member cL_member 6 (some .int) [(0, 9, 10, 28), (0, 9, 15, 20), (0, 9, 20, 22)] ∈ GW := gw_of (i := 689) (by decide +kernel) rfl
theorem gw690 : Cond.classLink RL 28 "java/lang/IndexOutOfBoundsException" ∈ GW := gw_of (i := 690) (by decide +kernel) rfl
theorem gw691 : Cond.instantiable RJx00060 6 ∈ GW := gw_of (i := 691) (by decide +kernel) rfl
theorem gw692 : Cond.instanceMethod yJx00060_init_a7421 ∈ GW := gw_of (i := 692) (by decide +kernel) rfl
theorem gw693 : Cond.code yJx00060_init_a7421 cJx00060_init_a7421 2 none ∈ GW := gw_of (i := 693) (by decide +kernel) rfl
theorem gw705 : Cond.castable RJx00060 RJx00060 ∈ NW := nw_of (i := 705) (by decide +kernel) rfl
theorem gw709 : Cond.instantiable RJ0 4 ∈ GW := gw_of (i := 709) (by decide +kernel) rfl
theorem gw714 : Cond.methodLink RL 24 yX6_member ∈ GW := gw_of (i := 714) (by decide +kernel) rfl
theorem gw715 : Cond.instanceMethod yX6_member ∈ GW := gw_of (i := 715) (by decide +kernel) rfl
theorem gw716 : Cond.selects RX6 yX6_member yX6_member ∈ GW := gw_of (i := 716) (by decide +kernel) rfl
theorem gw717 : Cond.code yX6_member cX6_member 5 (some .int) ∈ GW := gw_of (i := 717) (by decide +kernel) rfl
theorem gw718 : Cond.methodLink RX6 80 yX6_checkNode ∈ GW := gw_of (i := 718) (by decide +kernel) rfl
theorem gw720 : Cond.instanceMethod yX6_checkNode ∈ GW := gw_of (i := 720) (by decide +kernel) rfl
theorem gw721 : Cond.code yX6_checkNode cX6_checkNode 2 none ∈ GW := gw_of (i := 721) (by decide +kernel) rfl
theorem gw722 : Cond.classLink RX6 228 "java/lang/IndexOutOfBoundsException" ∈ GW := gw_of (i := 722) (by decide +kernel) rfl
theorem gw723 : Cond.instantiable "java/lang/IndexOutOfBoundsException" 6 ∈ GW := gw_of (i := 723) (by decide +kernel) rfl
theorem gw724 : Cond.castable "java/lang/IndexOutOfBoundsException" "java/lang/IndexOutOfBoundsException" ∈ NW := nw_of (i := 724) (by decide +kernel) rfl
theorem gw735 : Cond.methodLink RX6 84 yX2_isOnePlace ∈ GW := gw_of (i := 735) (by decide +kernel) rfl
theorem gw736 : Cond.instanceMethod yX2_isOnePlace ∈ GW := gw_of (i := 736) (by decide +kernel) rfl
theorem gw737 : Cond.selects RX2 yX2_isOnePlace yX2_isOnePlace ∈ GW := gw_of (i := 737) (by decide +kernel) rfl
theorem gw738 : Cond.code yX2_isOnePlace cX2_isOnePlace 3 (some .boolean) ∈ GW := gw_of (i := 738) (by decide +kernel) rfl
theorem gw739 : Cond.methodLink RX6 88 yX6_isSection ∈ GW := gw_of (i := 739) (by decide +kernel) rfl
theorem gw740 : Cond.static yX6_isSection ∈ GW := gw_of (i := 740) (by decide +kernel) rfl
theorem gw741 : Cond.code yX6_isSection cX6_isSection 2 (some .boolean) ∈ GW := gw_of (i := 741) (by decide +kernel) rfl
theorem gw744 : Cond.methodLink RX6 100 yX2_addMember ∈ GW := gw_of (i := 744) (by decide +kernel) rfl
theorem gw745 : Cond.instanceMethod yX2_addMember ∈ GW := gw_of (i := 745) (by decide +kernel) rfl
theorem gw746 : Cond.selects RX2 yX2_addMember yX2_addMember ∈ GW := gw_of (i := 746) (by decide +kernel) rfl
theorem gw747 : Cond.code yX2_addMember cX2_addMember 6 (some .int) ∈ GW := gw_of (i := 747) (by decide +kernel) rfl
theorem gw748 : Cond.methodLink RL 146 yL_load ∈ GW := gw_of (i := 748) (by decide +kernel) rfl
theorem gw749 : Cond.static yL_load ∈ GW := gw_of (i := 749) (by decide +kernel) rfl
theorem gw750 : Cond.codeWith yL_load cL_load 5 (some .int) [(0, 7, 8, 28), (0, 7, 13, 20)] ∈ GW := gw_of (i := 750) (by decide +kernel) rfl
theorem gw751 : Cond.methodLink RL 30 yX6_load ∈ GW := gw_of (i := 751) (by decide +kernel) rfl
theorem gw752 : Cond.instanceMethod yX6_load ∈ GW := gw_of (i := 752) (by decide +kernel) rfl
theorem gw753 : Cond.selects RX6 yX6_load yX6_load ∈ GW := gw_of (i := 753) (by decide +kernel) rfl
theorem gw754 : Cond.code yX6_load cX6_load 4 (some .int) ∈ GW := gw_of (i := 754) (by decide +kernel) rfl
theorem gw756 : Cond.methodLink RX6 106 yX2_addLoad ∈ GW := gw_of (i := 756) (by decide +kernel) rfl
theorem gw757 : Cond.instanceMethod yX2_addLoad ∈ GW := gw_of (i := 757) (by decide +kernel) rfl
theorem gw758 : Cond.selects RX2 yX2_addLoad yX2_addLoad ∈ GW := gw_of (i := 758) (by decide +kernel) rfl
theorem gw759 : Cond.code yX2_addLoad cX2_addLoad 4 (some .int) ∈ GW := gw_of (i := 759) (by decide +kernel) rfl
theorem gw760 : Cond.methodLink RL 151 yL_joint ∈ GW := gw_of (i := 760) (by decide +kernel) rfl
theorem gw761 : Cond.static yL_joint ∈ GW := gw_of (i := 761) (by decide +kernel) rfl
theorem gw762 : Cond.codeWith yL_joint cL_joint 7 (some .int) [(0, 11, 12, 28), (0, 11, 17, 20), (0, 11, 22, 59), (0, 11, 27, 22)] ∈ GW := gw_of (i := 762) (by decide +kernel) rfl
theorem gw763 : Cond.classLink RL 59 "java/lang/UnsupportedOperationException" ∈ GW := gw_of (i := 763) (by decide +kernel) rfl
theorem gw764 : Cond.methodLink RL 55 yX6_joint ∈ GW := gw_of (i := 764) (by decide +kernel) rfl
theorem gw765 : Cond.instanceMethod yX6_joint ∈ GW := gw_of (i := 765) (by decide +kernel) rfl
theorem gw766 : Cond.selects RX6 yX6_joint yX6_joint ∈ GW := gw_of (i := 766) (by decide +kernel) rfl
theorem gw767 : Cond.code yX6_joint cX6_joint 6 (some .int) ∈ GW := gw_of (i := 767) (by decide +kernel) rfl
theorem gw768 : Cond.methodLink RX6 118 yX6_checkMember ∈ GW := gw_of (i := 768) (by decide +kernel) rfl
theorem gw770 : Cond.instanceMethod yX6_checkMember ∈ GW := gw_of (i := 770) (by decide +kernel) rfl
theorem gw771 : Cond.code yX6_checkMember cX6_checkMember 2 none ∈ GW := gw_of (i := 771) (by decide +kernel) rfl
theorem gw773 : Cond.methodLink RX6 153 yX3_wayIndex ∈ GW := gw_of (i := 773) (by decide +kernel) rfl
theorem gw774 : Cond.instanceMethod yX3_wayIndex ∈ GW := gw_of (i := 774) (by decide +kernel) rfl
theorem gw775 : Cond.selects RX3 yX3_wayIndex yX3_wayIndex ∈ GW := gw_of (i := 775) (by decide +kernel) rfl
theorem gw776 : Cond.code yX3_wayIndex cX3_wayIndex 2 (some .int) ∈ GW := gw_of (i := 776) (by decide +kernel) rfl
theorem gw778 : Cond.methodLink RX3 29 yJ0_indexOf_0f7a4 ∈ GW := gw_of (i := 778) (by decide +kernel) rfl
theorem gw780 : Cond.methodLink RX6 159 yX2_haveCommonNode ∈ GW := gw_of (i := 780) (by decide +kernel) rfl
theorem gw781 : Cond.instanceMethod yX2_haveCommonNode ∈ GW := gw_of (i := 781) (by decide +kernel) rfl
theorem gw782 : Cond.selects RX2 yX2_haveCommonNode yX2_haveCommonNode ∈ GW := gw_of (i := 782) (by decide +kernel) rfl
theorem gw783 : Cond.code yX2_haveCommonNode cX2_haveCommonNode 3 (some .boolean) ∈ GW := gw_of (i := 783) (by decide +kernel) rfl
theorem gw784 : Cond.methodLink RX6 162 yX3_areJoined ∈ GW := gw_of (i := 784) (by decide +kernel) rfl
theorem gw785 : Cond.instanceMethod yX3_areJoined ∈ GW := gw_of (i := 785) (by decide +kernel) rfl
theorem gw786 : Cond.selects RX3 yX3_areJoined yX3_areJoined ∈ GW := gw_of (i := 786) (by decide +kernel) rfl
theorem gw787 : Cond.code yX3_areJoined cX3_areJoined 4 (some .boolean) ∈ GW := gw_of (i := 787) (by decide +kernel) rfl
theorem gw788 : Cond.methodLink RX3 39 yX3_partner ∈ GW := gw_of (i := 788) (by decide +kernel) rfl
theorem gw789 : Cond.classLink RX6 165 "java/lang/UnsupportedOperationException" ∈ GW := gw_of (i := 789) (by decide +kernel) rfl
theorem gw790 : Cond.instantiable "java/lang/UnsupportedOperationException" 6 ∈ GW := gw_of (i := 790) (by decide +kernel) rfl
theorem gw791 : Cond.castable "java/lang/UnsupportedOperationException" "java/lang/UnsupportedOperationException" ∈ NW := nw_of (i := 791) (by decide +kernel) rfl
theorem gw806 : Cond.methodLink RX6 175 yX3_add ∈ GW := gw_of (i := 806) (by decide +kernel) rfl
theorem gw807 : Cond.instanceMethod yX3_add ∈ GW := gw_of (i := 807) (by decide +kernel) rfl
theorem gw808 : Cond.selects RX3 yX3_add yX3_add ∈ GW := gw_of (i := 808) (by decide +kernel) rfl
theorem gw809 : Cond.code yX3_add cX3_add 7 (some .int) ∈ GW := gw_of (i := 809) (by decide +kernel) rfl
theorem gw810 : Cond.methodLink RL 159 yL_cutAt ∈ GW := gw_of (i := 810) (by decide +kernel) rfl
theorem gw811 : Cond.static yL_cutAt ∈ GW := gw_of (i := 811) (by decide +kernel) rfl
theorem gw812 : Cond.codeWith yL_cutAt cL_cutAt 4 (some .int) [(0, 6, 7, 28), (0, 6, 11, 20)] ∈ GW := gw_of (i := 812) (by decide +kernel) rfl
theorem gw813 : Cond.methodLink RL 68 yX6_cutAt ∈ GW := gw_of (i := 813) (by decide +kernel) rfl
theorem gw814 : Cond.instanceMethod yX6_cutAt ∈ GW := gw_of (i := 814) (by decide +kernel) rfl
theorem gw815 : Cond.selects RX6 yX6_cutAt yX6_cutAt ∈ GW := gw_of (i := 815) (by decide +kernel) rfl
theorem gw816 : Cond.code yX6_cutAt cX6_cutAt 4 (some .int) ∈ GW := gw_of (i := 816) (by decide +kernel) rfl
theorem gw817 : Cond.methodLink RX6 192 yX6_checkMoisture ∈ GW := gw_of (i := 817) (by decide +kernel) rfl
theorem gw819 : Cond.instanceMethod yX6_checkMoisture ∈ GW := gw_of (i := 819) (by decide +kernel) rfl
theorem gw820 : Cond.code yX6_checkMoisture cX6_checkMoisture 2 none ∈ GW := gw_of (i := 820) (by decide +kernel) rfl
theorem gw822 : Cond.methodLink RL 162 yL_dry ∈ GW := gw_of (i := 822) (by decide +kernel) rfl
theorem gw823 : Cond.static yL_dry ∈ GW := gw_of (i := 823) (by decide +kernel) rfl
theorem gw824 : Cond.codeWith yL_dry cL_dry 4 (some .int) [(0, 6, 7, 28), (0, 6, 11, 20)] ∈ GW := gw_of (i := 824) (by decide +kernel) rfl
theorem gw825 : Cond.methodLink RL 72 yX6_dry ∈ GW := gw_of (i := 825) (by decide +kernel) rfl
theorem gw826 : Cond.instanceMethod yX6_dry ∈ GW := gw_of (i := 826) (by decide +kernel) rfl
theorem gw827 : Cond.selects RX6 yX6_dry yX6_dry ∈ GW := gw_of (i := 827) (by decide +kernel) rfl
theorem gw828 : Cond.code yX6_dry cX6_dry 4 (some .int) ∈ GW := gw_of (i := 828) (by decide +kernel) rfl
theorem gw829 : Cond.methodLink RL 154 yL_stick ∈ GW := gw_of (i := 829) (by decide +kernel) rfl
theorem gw830 : Cond.static yL_stick ∈ GW := gw_of (i := 830) (by decide +kernel) rfl
theorem gw831 : Cond.codeWith yL_stick cL_stick 5 (some .int) [(0, 7, 8, 20), (0, 7, 13, 22)] ∈ GW := gw_of (i := 831) (by decide +kernel) rfl
theorem gw832 : Cond.methodLink RL 81 yX6_stick ∈ GW := gw_of (i := 832) (by decide +kernel) rfl
theorem gw833 : Cond.instanceMethod yX6_stick ∈ GW := gw_of (i := 833) (by decide +kernel) rfl
theorem gw834 : Cond.selects RX6 yX6_stick yX6_stick ∈ GW := gw_of (i := 834) (by decide +kernel) rfl
theorem gw835 : Cond.code yX6_stick cX6_stick 4 (some .int) ∈ GW := gw_of (i := 835) (by decide +kernel) rfl
theorem gw838 : Cond.methodLink RX6 213 yX0_add ∈ GW := gw_of (i := 838) (by decide +kernel) rfl
theorem gw839 : Cond.instanceMethod yX0_add ∈ GW := gw_of (i := 839) (by decide +kernel) rfl
theorem gw840 : Cond.selects RX0 yX0_add yX0_add ∈ GW := gw_of (i := 840) (by decide +kernel) rfl
theorem gw841 : Cond.code yX0_add cX0_add 5 (some .int) ∈ GW := gw_of (i := 841) (by decide +kernel) rfl
theorem gw842 : Cond.methodLink RL 156 yL_setProps ∈ GW := gw_of (i := 842) (by decide +kernel) rfl
theorem gw843 : Cond.static yL_setProps ∈ GW := gw_of (i := 843) (by decide +kernel) rfl
theorem gw844 : Cond.codeWith yL_setProps cL_setProps 3 (some .int) [(0, 5, 6, 20)] ∈ GW := gw_of (i := 844) (by decide +kernel) rfl
theorem gw845 : Cond.methodLink RL 96 yX6_setProps ∈ GW := gw_of (i := 845) (by decide +kernel) rfl
theorem gw846 : Cond.instanceMethod yX6_setProps ∈ GW := gw_of (i := 846) (by decide +kernel) rfl
theorem gw847 : Cond.selects RX6 yX6_setProps yX6_setProps ∈ GW := gw_of (i := 847) (by decide +kernel) rfl
theorem gw848 : Cond.code yX6_setProps cX6_setProps 3 (some .int) ∈ GW := gw_of (i := 848) (by decide +kernel) rfl
theorem gw850 : Cond.methodLink RL 164 yL_isFrame ∈ GW := gw_of (i := 850) (by decide +kernel) rfl
theorem gw851 : Cond.static yL_isFrame ∈ GW := gw_of (i := 851) (by decide +kernel) rfl
theorem gw852 : Cond.code yL_isFrame cL_isFrame 16 (some .boolean) ∈ GW := gw_of (i := 852) (by decide +kernel) rfl
theorem gw853 : Cond.methodLink RL 186 yX6_state ∈ GW := gw_of (i := 853) (by decide +kernel) rfl
theorem gw854 : Cond.instanceMethod yX6_state ∈ GW := gw_of (i := 854) (by decide +kernel) rfl
theorem gw855 : Cond.selects RX6 yX6_state yX6_state ∈ GW := gw_of (i := 855) (by decide +kernel) rfl
theorem gw856 : Cond.code yX6_state cX6_state 1 (some .char) ∈ GW := gw_of (i := 856) (by decide +kernel) rfl
theorem gw858 : Cond.methodLink RL 192 yJ0_indexOf_0f7a4 ∈ GW := gw_of (i := 858) (by decide +kernel) rfl
theorem gw859 : Cond.methodLink RL 195 yL_allForce ∈ GW := gw_of (i := 859) (by decide +kernel) rfl
theorem gw860 : Cond.static yL_allForce ∈ GW := gw_of (i := 860) (by decide +kernel) rfl
theorem gw861 : Cond.codeWith yL_allForce cL_allForce 2 (some .long) [(0, 4, 5, 22)] ∈ GW := gw_of (i := 861) (by decide +kernel) rfl
theorem gw862 : Cond.methodLink RL 108 yX6_allForce ∈ GW := gw_of (i := 862) (by decide +kernel) rfl
theorem gw863 : Cond.instanceMethod yX6_allForce ∈ GW := gw_of (i := 863) (by decide +kernel) rfl
theorem gw864 : Cond.selects RX6 yX6_allForce yX6_allForce ∈ GW := gw_of (i := 864) (by decide +kernel) rfl
theorem gw865 : Cond.code yX6_allForce cX6_allForce 4 (some .long) ∈ GW := gw_of (i := 865) (by decide +kernel) rfl
theorem gw866 : Cond.methodLink RX6 121 yX6_checkStanding ∈ GW := gw_of (i := 866) (by decide +kernel) rfl
theorem gw868 : Cond.instanceMethod yX6_checkStanding ∈ GW := gw_of (i := 868) (by decide +kernel) rfl
theorem gw869 : Cond.code yX6_checkStanding cX6_checkStanding 1 none ∈ GW := gw_of (i := 869) (by decide +kernel) rfl
theorem gw871 : Cond.methodLink RX6 147 Lib.MathLoose.abs_long.x ∈ GW := gw_of (i := 871) (by decide +kernel) rfl
theorem gw872 : Cond.constantLong RL 40 (-79) ∈ GW := gw_of (i := 872) (by decide +kernel) rfl
theorem gw873 : Cond.methodLink RL 198 yL_weakest ∈ GW := gw_of (i := 873) (by decide +kernel) rfl
theorem gw874 : Cond.static yL_weakest ∈ GW := gw_of (i := 874) (by decide +kernel) rfl
theorem gw875 : Cond.codeWith yL_weakest cL_weakest 2 (some .int) [(0, 4, 5, 22), (0, 4, 9, 53)] ∈ GW := gw_of (i := 875) (by decide +kernel) rfl
theorem gw876 : Cond.classLink RL 53 "java/util/NoSuchElementException" ∈ GW := gw_of (i := 876) (by decide +kernel) rfl
theorem gw877 : Cond.methodLink RL 49 yX6_weakest ∈ GW := gw_of (i := 877) (by decide +kernel) rfl
theorem gw878 : Cond.instanceMethod yX6_weakest ∈ GW := gw_of (i := 878) (by decide +kernel) rfl
theorem gw879 : Cond.selects RX6 yX6_weakest yX6_weakest ∈ GW := gw_of (i := 879) (by decide +kernel) rfl
theorem gw880 : Cond.code yX6_weakest cX6_weakest 3 (some .int) ∈ GW := gw_of (i := 880) (by decide +kernel) rfl
theorem gw881 : Cond.classLink RX6 142 "java/util/NoSuchElementException" ∈ GW := gw_of (i := 881) (by decide +kernel) rfl
theorem gw882 : Cond.instantiable "java/util/NoSuchElementException" 6 ∈ GW := gw_of (i := 882) (by decide +kernel) rfl
theorem gw883 : Cond.castable "java/util/NoSuchElementException" "java/util/NoSuchElementException" ∈ NW := nw_of (i := 883) (by decide +kernel) rfl
theorem gw897 : Cond.methodLink RL 201 yL_isBalanced ∈ GW := gw_of (i := 897) (by decide +kernel) rfl
theorem gw898 : Cond.static yL_isBalanced ∈ GW := gw_of (i := 898) (by decide +kernel) rfl
theorem gw899 : Cond.codeWith yL_isBalanced cL_isBalanced 3 (some .int) [(0, 13, 14, 20), (0, 13, 18, 22)] ∈ GW := gw_of (i := 899) (by decide +kernel) rfl
theorem gw900 : Cond.methodLink RL 45 yX6_isBalanced ∈ GW := gw_of (i := 900) (by decide +kernel) rfl
theorem gw901 : Cond.instanceMethod yX6_isBalanced ∈ GW := gw_of (i := 901) (by decide +kernel) rfl
theorem gw902 : Cond.selects RX6 yX6_isBalanced yX6_isBalanced ∈ GW := gw_of (i := 902) (by decide +kernel) rfl
theorem gw903 : Cond.code yX6_isBalanced cX6_isBalanced 2 (some .boolean) ∈ GW := gw_of (i := 903) (by decide +kernel) rfl
theorem gw905 : Cond.methodLink RL 203 yL_meanPull ∈ GW := gw_of (i := 905) (by decide +kernel) rfl
theorem gw906 : Cond.static yL_meanPull ∈ GW := gw_of (i := 906) (by decide +kernel) rfl
theorem gw907 : Cond.codeWith yL_meanPull cL_meanPull 2 (some .double) [(0, 4, 5, 22), (0, 4, 10, 116)] ∈ GW := gw_of (i := 907) (by decide +kernel) rfl
theorem gw908 : Cond.classLink RL 116 "java/lang/ArithmeticException" ∈ GW := gw_of (i := 908) (by decide +kernel) rfl
theorem gw909 : Cond.instantiable "java/lang/ArithmeticException" 6 ∈ GW := gw_of (i := 909) (by decide +kernel) rfl
theorem gw920 : Cond.castable "java/lang/ArithmeticException" "java/lang/ArithmeticException" ∈ NW := nw_of (i := 920) (by decide +kernel) rfl
theorem gw922 : Cond.methodLink RL 119 yX6_meanPull ∈ GW := gw_of (i := 922) (by decide +kernel) rfl
theorem gw923 : Cond.instanceMethod yX6_meanPull ∈ GW := gw_of (i := 923) (by decide +kernel) rfl
theorem gw924 : Cond.selects RX6 yX6_meanPull yX6_meanPull ∈ GW := gw_of (i := 924) (by decide +kernel) rfl
theorem gw925 : Cond.code yX6_meanPull cX6_meanPull 1 (some .double) ∈ GW := gw_of (i := 925) (by decide +kernel) rfl
theorem gw926 : Cond.classLink RX6 266 "java/lang/ArithmeticException" ∈ GW := gw_of (i := 926) (by decide +kernel) rfl
theorem gw928 : Cond.methodLink RX6 269 yX1_sumOfThousandths ∈ GW := gw_of (i := 928) (by decide +kernel) rfl
theorem gw929 : Cond.instanceMethod yX1_sumOfThousandths ∈ GW := gw_of (i := 929) (by decide +kernel) rfl
theorem gw930 : Cond.selects RX1 yX1_sumOfThousandths yX1_sumOfThousandths ∈ GW := gw_of (i := 930) (by decide +kernel) rfl
theorem gw931 : Cond.code yX1_sumOfThousandths cX1_sumOfThousandths 7 (some .double) ∈ GW := gw_of (i := 931) (by decide +kernel) rfl
theorem gw932 : Cond.constantLong RX1 173 (1000) ∈ GW := gw_of (i := 932) (by decide +kernel) rfl
theorem gw933 : Cond.constantLong RX1 181 (4294967295) ∈ GW := gw_of (i := 933) (by decide +kernel) rfl
theorem gw934 : Cond.methodLink RX1 175 yX1_restInThousandths ∈ GW := gw_of (i := 934) (by decide +kernel) rfl
theorem gw936 : Cond.instanceMethod yX1_restInThousandths ∈ GW := gw_of (i := 936) (by decide +kernel) rfl
theorem gw937 : Cond.code yX1_restInThousandths cX1_restInThousandths 7 (some .long) ∈ GW := gw_of (i := 937) (by decide +kernel) rfl
theorem gw938 : Cond.constantLong RX1 179 (10) ∈ GW := gw_of (i := 938) (by decide +kernel) rfl
theorem gw939 : Cond.constantDouble RX1 183 (4751297606875873280) ∈ GW := gw_of (i := 939) (by decide +kernel) rfl
theorem gw940 : Cond.constantDouble RL 123 (13858631584581681152) ∈ GW := gw_of (i := 940) (by decide +kernel) rfl
theorem gw941 : Cond.constantDouble RL 125 (13858279740860792832) ∈ GW := gw_of (i := 941) (by decide +kernel) rfl
theorem gw942 : Cond.methodLink RL 206 yL_force ∈ GW := gw_of (i := 942) (by decide +kernel) rfl
theorem gw943 : Cond.static yL_force ∈ GW := gw_of (i := 943) (by decide +kernel) rfl
theorem gw944 : Cond.codeWith yL_force cL_force 3 (some .long) [(0, 5, 6, 28), (0, 5, 11, 22)] ∈ GW := gw_of (i := 944) (by decide +kernel) rfl
theorem gw945 : Cond.methodLink RL 34 yX6_force ∈ GW := gw_of (i := 945) (by decide +kernel) rfl
theorem gw946 : Cond.instanceMethod yX6_force ∈ GW := gw_of (i := 946) (by decide +kernel) rfl
theorem gw947 : Cond.selects RX6 yX6_force yX6_force ∈ GW := gw_of (i := 947) (by decide +kernel) rfl
theorem gw948 : Cond.code yX6_force cX6_force 2 (some .long) ∈ GW := gw_of (i := 948) (by decide +kernel) rfl
theorem gw949 : Cond.constantLong RL 38 (-77) ∈ GW := gw_of (i := 949) (by decide +kernel) rfl
theorem gw950 : Cond.methodLink RL 209 yL_pull ∈ GW := gw_of (i := 950) (by decide +kernel) rfl
theorem gw951 : Cond.static yL_pull ∈ GW := gw_of (i := 951) (by decide +kernel) rfl
theorem gw952 : Cond.codeWith yL_pull cL_pull 3 (some .long) [(0, 5, 6, 28), (0, 5, 11, 22)] ∈ GW := gw_of (i := 952) (by decide +kernel) rfl
theorem gw953 : Cond.methodLink RL 42 yX6_pull ∈ GW := gw_of (i := 953) (by decide +kernel) rfl
theorem gw954 : Cond.instanceMethod yX6_pull ∈ GW := gw_of (i := 954) (by decide +kernel) rfl
theorem gw955 : Cond.selects RX6 yX6_pull yX6_pull ∈ GW := gw_of (i := 955) (by decide +kernel) rfl
theorem gw956 : Cond.code yX6_pull cX6_pull 2 (some .long) ∈ GW := gw_of (i := 956) (by decide +kernel) rfl
theorem gw957 : Cond.methodLink RX6 128 yX1_thousandths ∈ GW := gw_of (i := 957) (by decide +kernel) rfl
theorem gw958 : Cond.instanceMethod yX1_thousandths ∈ GW := gw_of (i := 958) (by decide +kernel) rfl
theorem gw959 : Cond.selects RX1 yX1_thousandths yX1_thousandths ∈ GW := gw_of (i := 959) (by decide +kernel) rfl
theorem gw960 : Cond.code yX1_thousandths cX1_thousandths 2 (some .long) ∈ GW := gw_of (i := 960) (by decide +kernel) rfl
theorem gw961 : Cond.methodLink RL 211 Lib.MathLoose.abs_long.x ∈ GW := gw_of (i := 961) (by decide +kernel) rfl
theorem gw962 : Cond.methodLink RL 217 yJ9_max_f86c9 ∈ GW := gw_of (i := 962) (by decide +kernel) rfl
theorem gw963 : Cond.static yJ9_max_f86c9 ∈ GW := gw_of (i := 963) (by decide +kernel) rfl
theorem gw964 : Cond.code yJ9_max_f86c9 cJ9_max_f86c9 4 (some .long) ∈ GW := gw_of (i := 964) (by decide +kernel) rfl
theorem gw965 : Cond.methodLink RL 168 yL_areJoints ∈ GW := gw_of (i := 965) (by decide +kernel) rfl
theorem gw966 : Cond.static yL_areJoints ∈ GW := gw_of (i := 966) (by decide +kernel) rfl
theorem gw967 : Cond.code yL_areJoints cL_areJoints 8 (some .boolean) ∈ GW := gw_of (i := 967) (by decide +kernel) rfl
theorem gw968 : Cond.methodLink RL 221 yL_isRight ∈ GW := gw_of (i := 968) (by decide +kernel) rfl
theorem gw969 : Cond.static yL_isRight ∈ GW := gw_of (i := 969) (by decide +kernel) rfl
theorem gw970 : Cond.codeWith yL_isRight cL_isRight 3 (some .int) [(0, 13, 14, 28)] ∈ GW := gw_of (i := 970) (by decide +kernel) rfl
theorem gw971 : Cond.methodLink RL 61 yX6_isRight ∈ GW := gw_of (i := 971) (by decide +kernel) rfl
theorem gw972 : Cond.instanceMethod yX6_isRight ∈ GW := gw_of (i := 972) (by decide +kernel) rfl
theorem gw973 : Cond.selects RX6 yX6_isRight yX6_isRight ∈ GW := gw_of (i := 973) (by decide +kernel) rfl
theorem gw974 : Cond.code yX6_isRight cX6_isRight 2 (some .boolean) ∈ GW := gw_of (i := 974) (by decide +kernel) rfl
theorem gw975 : Cond.methodLink RX6 179 yX6_checkJoint ∈ GW := gw_of (i := 975) (by decide +kernel) rfl
theorem gw977 : Cond.instanceMethod yX6_checkJoint ∈ GW := gw_of (i := 977) (by decide +kernel) rfl
theorem gw978 : Cond.code yX6_checkJoint cX6_checkJoint 2 none ∈ GW := gw_of (i := 978) (by decide +kernel) rfl
theorem gw980 : Cond.methodLink RX6 182 yX3_isThinEnough ∈ GW := gw_of (i := 980) (by decide +kernel) rfl
theorem gw981 : Cond.instanceMethod yX3_isThinEnough ∈ GW := gw_of (i := 981) (by decide +kernel) rfl
theorem gw982 : Cond.selects RX3 yX3_isThinEnough yX3_isThinEnough ∈ GW := gw_of (i := 982) (by decide +kernel) rfl
theorem gw983 : Cond.code yX3_isThinEnough cX3_isThinEnough 5 (some .boolean) ∈ GW := gw_of (i := 983) (by decide +kernel) rfl
theorem gw984 : Cond.methodLink RX3 48 Lib.Math.min.name ∈ GW := gw_of (i := 984) (by decide +kernel) rfl
theorem gw985 : Cond.methodLink RL 223 yL_misread ∈ GW := gw_of (i := 985) (by decide +kernel) rfl
theorem gw986 : Cond.static yL_misread ∈ GW := gw_of (i := 986) (by decide +kernel) rfl
theorem gw987 : Cond.codeWith yL_misread cL_misread 3 (some .int) [(0, 5, 6, 28)] ∈ GW := gw_of (i := 987) (by decide +kernel) rfl
theorem gw988 : Cond.methodLink RL 64 yX6_misread ∈ GW := gw_of (i := 988) (by decide +kernel) rfl
theorem gw989 : Cond.instanceMethod yX6_misread ∈ GW := gw_of (i := 989) (by decide +kernel) rfl
theorem gw990 : Cond.selects RX6 yX6_misread yX6_misread ∈ GW := gw_of (i := 990) (by decide +kernel) rfl
theorem gw991 : Cond.code yX6_misread cX6_misread 2 (some .int) ∈ GW := gw_of (i := 991) (by decide +kernel) rfl
theorem gw992 : Cond.methodLink RX6 186 yX3_misreadMark ∈ GW := gw_of (i := 992) (by decide +kernel) rfl
theorem gw993 : Cond.instanceMethod yX3_misreadMark ∈ GW := gw_of (i := 993) (by decide +kernel) rfl
theorem gw994 : Cond.selects RX3 yX3_misreadMark yX3_misreadMark ∈ GW := gw_of (i := 994) (by decide +kernel) rfl
theorem gw995 : Cond.code yX3_misreadMark cX3_misreadMark 4 (some .int) ∈ GW := gw_of (i := 995) (by decide +kernel) rfl
theorem gw996 : Cond.methodLink RL 225 yL_gap ∈ GW := gw_of (i := 996) (by decide +kernel) rfl
theorem gw997 : Cond.static yL_gap ∈ GW := gw_of (i := 997) (by decide +kernel) rfl
theorem gw998 : Cond.codeWith yL_gap cL_gap 3 (some .int) [(0, 5, 6, 28)] ∈ GW := gw_of (i := 998) (by decide +kernel) rfl
theorem gw999 : Cond.methodLink RL 75 yX6_gap ∈ GW := gw_of (i := 999) (by decide +kernel) rfl
theorem gw1000 : Cond.instanceMethod yX6_gap ∈ GW := gw_of (i := 1000) (by decide +kernel) rfl
theorem gw1001 : Cond.selects RX6 yX6_gap yX6_gap ∈ GW := gw_of (i := 1001) (by decide +kernel) rfl
theorem gw1002 : Cond.code yX6_gap cX6_gap 2 (some .int) ∈ GW := gw_of (i := 1002) (by decide +kernel) rfl
theorem gw1003 : Cond.methodLink RX6 202 yX3_opening ∈ GW := gw_of (i := 1003) (by decide +kernel) rfl
theorem gw1004 : Cond.instanceMethod yX3_opening ∈ GW := gw_of (i := 1004) (by decide +kernel) rfl
theorem gw1005 : Cond.selects RX3 yX3_opening yX3_opening ∈ GW := gw_of (i := 1005) (by decide +kernel) rfl
theorem gw1006 : Cond.code yX3_opening cX3_opening 6 (some .int) ∈ GW := gw_of (i := 1006) (by decide +kernel) rfl
theorem gw1007 : Cond.methodLink RL 227 Lib.Math.max.name ∈ GW := gw_of (i := 1007) (by decide +kernel) rfl
theorem gw1008 : Cond.methodLink RL 229 yL_widest ∈ GW := gw_of (i := 1008) (by decide +kernel) rfl
theorem gw1009 : Cond.static yL_widest ∈ GW := gw_of (i := 1009) (by decide +kernel) rfl
theorem gw1010 : Cond.codeWith yL_widest cL_widest 2 (some .int) [(0, 4, 5, 53)] ∈ GW := gw_of (i := 1010) (by decide +kernel) rfl
theorem gw1011 : Cond.methodLink RL 78 yX6_widest ∈ GW := gw_of (i := 1011) (by decide +kernel) rfl
theorem gw1012 : Cond.instanceMethod yX6_widest ∈ GW := gw_of (i := 1012) (by decide +kernel) rfl
theorem gw1013 : Cond.selects RX6 yX6_widest yX6_widest ∈ GW := gw_of (i := 1013) (by decide +kernel) rfl
theorem gw1014 : Cond.code yX6_widest cX6_widest 3 (some .int) ∈ GW := gw_of (i := 1014) (by decide +kernel) rfl
theorem gw1016 : Cond.methodLink RL 231 yL_rightShare ∈ GW := gw_of (i := 1016) (by decide +kernel) rfl
theorem gw1017 : Cond.static yL_rightShare ∈ GW := gw_of (i := 1017) (by decide +kernel) rfl
theorem gw1018 : Cond.codeWith yL_rightShare cL_rightShare 2 (some .float) [(0, 4, 5, 116)] ∈ GW := gw_of (i := 1018) (by decide +kernel) rfl
theorem gw1019 : Cond.methodLink RL 112 yX6_rightShare ∈ GW := gw_of (i := 1019) (by decide +kernel) rfl
theorem gw1020 : Cond.instanceMethod yX6_rightShare ∈ GW := gw_of (i := 1020) (by decide +kernel) rfl
theorem gw1021 : Cond.selects RX6 yX6_rightShare yX6_rightShare ∈ GW := gw_of (i := 1021) (by decide +kernel) rfl
theorem gw1022 : Cond.code yX6_rightShare cX6_rightShare 3 (some .float) ∈ GW := gw_of (i := 1022) (by decide +kernel) rfl
theorem gw1023 : Cond.constantFloat RL 118 (3264479232) ∈ GW := gw_of (i := 1023) (by decide +kernel) rfl
theorem gw1024 : Cond.methodLink RL 234 yX6_clashes ∈ GW := gw_of (i := 1024) (by decide +kernel) rfl
theorem gw1025 : Cond.instanceMethod yX6_clashes ∈ GW := gw_of (i := 1025) (by decide +kernel) rfl
theorem gw1026 : Cond.selects RX6 yX6_clashes yX6_clashes ∈ GW := gw_of (i := 1026) (by decide +kernel) rfl
theorem gw1027 : Cond.code yX6_clashes cX6_clashes 4 (some .int) ∈ GW := gw_of (i := 1027) (by decide +kernel) rfl
theorem gw1028 : Cond.methodLink RX6 189 yX3_canBeConfused ∈ GW := gw_of (i := 1028) (by decide +kernel) rfl
theorem gw1029 : Cond.instanceMethod yX3_canBeConfused ∈ GW := gw_of (i := 1029) (by decide +kernel) rfl
theorem gw1030 : Cond.selects RX3 yX3_canBeConfused yX3_canBeConfused ∈ GW := gw_of (i := 1030) (by decide +kernel) rfl
theorem gw1031 : Cond.code yX3_canBeConfused cX3_canBeConfused 3 (some .boolean) ∈ GW := gw_of (i := 1031) (by decide +kernel) rfl
theorem gw1032 : Cond.methodLink RX3 53 yX3_misreadMark ∈ GW := gw_of (i := 1032) (by decide +kernel) rfl
theorem gw1033 : Cond.methodLink RL 172 yL_isYard ∈ GW := gw_of (i := 1033) (by decide +kernel) rfl
theorem gw1034 : Cond.static yL_isYard ∈ GW := gw_of (i := 1034) (by decide +kernel) rfl
theorem gw1035 : Cond.code yL_isYard cL_isYard 10 (some .boolean) ∈ GW := gw_of (i := 1035) (by decide +kernel) rfl
theorem gw1036 : Cond.methodLink RL 237 yL_wood ∈ GW := gw_of (i := 1036) (by decide +kernel) rfl
theorem gw1037 : Cond.static yL_wood ∈ GW := gw_of (i := 1037) (by decide +kernel) rfl
theorem gw1038 : Cond.codeWith yL_wood cL_wood 2 (some .int) [(0, 4, 5, 53)] ∈ GW := gw_of (i := 1038) (by decide +kernel) rfl
theorem gw1039 : Cond.methodLink RL 90 yX6_wood ∈ GW := gw_of (i := 1039) (by decide +kernel) rfl
theorem gw1040 : Cond.instanceMethod yX6_wood ∈ GW := gw_of (i := 1040) (by decide +kernel) rfl
theorem gw1041 : Cond.selects RX6 yX6_wood yX6_wood ∈ GW := gw_of (i := 1041) (by decide +kernel) rfl
theorem gw1042 : Cond.code yX6_wood cX6_wood 1 (some .int) ∈ GW := gw_of (i := 1042) (by decide +kernel) rfl
theorem gw1043 : Cond.methodLink RX6 219 yX6_checkCut ∈ GW := gw_of (i := 1043) (by decide +kernel) rfl
theorem gw1045 : Cond.instanceMethod yX6_checkCut ∈ GW := gw_of (i := 1045) (by decide +kernel) rfl
theorem gw1046 : Cond.code yX6_checkCut cX6_checkCut 1 none ∈ GW := gw_of (i := 1046) (by decide +kernel) rfl
theorem gw1047 : Cond.methodLink RX6 290 yX0_find ∈ GW := gw_of (i := 1047) (by decide +kernel) rfl
theorem gw1048 : Cond.instanceMethod yX0_find ∈ GW := gw_of (i := 1048) (by decide +kernel) rfl
theorem gw1049 : Cond.selects RX0 yX0_find yX0_find ∈ GW := gw_of (i := 1049) (by decide +kernel) rfl
theorem gw1050 : Cond.code yX0_find cX0_find 5 none ∈ GW := gw_of (i := 1050) (by decide +kernel) rfl
theorem gw1051 : Cond.methodLink RX0 56 yX0_measure ∈ GW := gw_of (i := 1051) (by decide +kernel) rfl
theorem gw1053 : Cond.instanceMethod yX0_measure ∈ GW := gw_of (i := 1053) (by decide +kernel) rfl
theorem gw1054 : Cond.code yX0_measure cX0_measure 8 none ∈ GW := gw_of (i := 1054) (by decide +kernel) rfl
theorem gw1055 : Cond.constant RX0 74 (390625) ∈ GW := gw_of (i := 1055) (by decide +kernel) rfl
theorem gw1056 : Cond.methodLink RX0 75 yX0_pieceLength ∈ GW := gw_of (i := 1056) (by decide +kernel) rfl
theorem gw1057 : Cond.instanceMethod yX0_pieceLength ∈ GW := gw_of (i := 1057) (by decide +kernel) rfl
theorem gw1058 : Cond.selects RX0 yX0_pieceLength yX0_pieceLength ∈ GW := gw_of (i := 1058) (by decide +kernel) rfl
theorem gw1059 : Cond.code yX0_pieceLength cX0_pieceLength 6 (some .int) ∈ GW := gw_of (i := 1059) (by decide +kernel) rfl
theorem gw1060 : Cond.methodLink RX0 38 yX2_lengthSquare ∈ GW := gw_of (i := 1060) (by decide +kernel) rfl
theorem gw1061 : Cond.methodLink RX0 44 yX3_joinsGoingIn ∈ GW := gw_of (i := 1061) (by decide +kernel) rfl
theorem gw1062 : Cond.instanceMethod yX3_joinsGoingIn ∈ GW := gw_of (i := 1062) (by decide +kernel) rfl
theorem gw1063 : Cond.selects RX3 yX3_joinsGoingIn yX3_joinsGoingIn ∈ GW := gw_of (i := 1063) (by decide +kernel) rfl
theorem gw1064 : Cond.code yX3_joinsGoingIn cX3_joinsGoingIn 4 (some .int) ∈ GW := gw_of (i := 1064) (by decide +kernel) rfl
theorem gw1065 : Cond.constantLong RX0 60 (4611686018427387904) ∈ GW := gw_of (i := 1065) (by decide +kernel) rfl
theorem gw1066 : Cond.methodLink RX0 62 yX0_fitting ∈ GW := gw_of (i := 1066) (by decide +kernel) rfl
theorem gw1068 : Cond.instanceMethod yX0_fitting ∈ GW := gw_of (i := 1068) (by decide +kernel) rfl
theorem gw1069 : Cond.code yX0_fitting cX0_fitting 5 (some .int) ∈ GW := gw_of (i := 1069) (by decide +kernel) rfl
theorem gw1070 : Cond.methodLink RX0 66 yX0_offer ∈ GW := gw_of (i := 1070) (by decide +kernel) rfl
theorem gw1072 : Cond.instanceMethod yX0_offer ∈ GW := gw_of (i := 1072) (by decide +kernel) rfl
theorem gw1073 : Cond.code yX0_offer cX0_offer 11 none ∈ GW := gw_of (i := 1073) (by decide +kernel) rfl
theorem gw1074 : Cond.constantLong RX0 81 (1953125) ∈ GW := gw_of (i := 1074) (by decide +kernel) rfl
theorem gw1075 : Cond.methodLink RX0 83 Lib.MathLoose.min_long.x ∈ GW := gw_of (i := 1075) (by decide +kernel) rfl
theorem gw1076 : Cond.static Lib.MathLoose.min_long.x ∈ GW := gw_of (i := 1076) (by decide +kernel) rfl
theorem gw1077 : Cond.code Lib.MathLoose.min_long.x Lib.MathLoose.min_long.code 4 (some .long) ∈ GW := gw_of (i := 1077) (by decide +kernel) rfl
theorem gw1078 : Cond.methodLink RX0 70 yX0_choose ∈ GW := gw_of (i := 1078) (by decide +kernel) rfl
theorem gw1080 : Cond.instanceMethod yX0_choose ∈ GW := gw_of (i := 1080) (by decide +kernel) rfl
theorem gw1081 : Cond.code yX0_choose cX0_choose 5 none ∈ GW := gw_of (i := 1081) (by decide +kernel) rfl
theorem gw1083 : Cond.methodLink RL 239 yL_stickOf ∈ GW := gw_of (i := 1083) (by decide +kernel) rfl
theorem gw1084 : Cond.static yL_stickOf ∈ GW := gw_of (i := 1084) (by decide +kernel) rfl
theorem gw1085 : Cond.codeWith yL_stickOf cL_stickOf 3 (some .int) [(0, 5, 6, 28), (0, 5, 10, 53)] ∈ GW := gw_of (i := 1085) (by decide +kernel) rfl
theorem gw1086 : Cond.methodLink RL 87 yX6_stickOf ∈ GW := gw_of (i := 1086) (by decide +kernel) rfl
theorem gw1087 : Cond.instanceMethod yX6_stickOf ∈ GW := gw_of (i := 1087) (by decide +kernel) rfl
theorem gw1088 : Cond.selects RX6 yX6_stickOf yX6_stickOf ∈ GW := gw_of (i := 1088) (by decide +kernel) rfl
theorem gw1089 : Cond.code yX6_stickOf cX6_stickOf 2 (some .int) ∈ GW := gw_of (i := 1089) (by decide +kernel) rfl
theorem gw1090 : Cond.methodLink RL 241 yL_piece ∈ GW := gw_of (i := 1090) (by decide +kernel) rfl
theorem gw1091 : Cond.static yL_piece ∈ GW := gw_of (i := 1091) (by decide +kernel) rfl
theorem gw1092 : Cond.codeWith yL_piece cL_piece 3 (some .int) [(0, 5, 6, 28)] ∈ GW := gw_of (i := 1092) (by decide +kernel) rfl
theorem gw1093 : Cond.methodLink RL 84 yX6_piece ∈ GW := gw_of (i := 1093) (by decide +kernel) rfl
theorem gw1094 : Cond.instanceMethod yX6_piece ∈ GW := gw_of (i := 1094) (by decide +kernel) rfl
theorem gw1095 : Cond.selects RX6 yX6_piece yX6_piece ∈ GW := gw_of (i := 1095) (by decide +kernel) rfl
theorem gw1096 : Cond.code yX6_piece cX6_piece 2 (some .int) ∈ GW := gw_of (i := 1096) (by decide +kernel) rfl
theorem gw1097 : Cond.methodLink RX6 215 yX0_pieceLength ∈ GW := gw_of (i := 1097) (by decide +kernel) rfl
theorem gw1098 : Cond.methodLink RL 243 yL_waste ∈ GW := gw_of (i := 1098) (by decide +kernel) rfl
theorem gw1099 : Cond.static yL_waste ∈ GW := gw_of (i := 1099) (by decide +kernel) rfl
theorem gw1100 : Cond.codeWith yL_waste cL_waste 3 (some .int) [(0, 5, 6, 28), (0, 5, 10, 53)] ∈ GW := gw_of (i := 1100) (by decide +kernel) rfl
theorem gw1101 : Cond.methodLink RL 93 yX6_waste ∈ GW := gw_of (i := 1101) (by decide +kernel) rfl
theorem gw1102 : Cond.instanceMethod yX6_waste ∈ GW := gw_of (i := 1102) (by decide +kernel) rfl
theorem gw1103 : Cond.selects RX6 yX6_waste yX6_waste ∈ GW := gw_of (i := 1103) (by decide +kernel) rfl
theorem gw1104 : Cond.code yX6_waste cX6_waste 2 (some .int) ∈ GW := gw_of (i := 1104) (by decide +kernel) rfl
theorem gw1106 : Cond.methodLink RX6 233 yX0_leftOf ∈ GW := gw_of (i := 1106) (by decide +kernel) rfl
theorem gw1107 : Cond.instanceMethod yX0_leftOf ∈ GW := gw_of (i := 1107) (by decide +kernel) rfl
theorem gw1108 : Cond.selects RX0 yX0_leftOf yX0_leftOf ∈ GW := gw_of (i := 1108) (by decide +kernel) rfl
theorem gw1109 : Cond.code yX0_leftOf cX0_leftOf 5 (some .int) ∈ GW := gw_of (i := 1109) (by decide +kernel) rfl
theorem gw1110 : Cond.methodLink RL 175 yL_isRaising ∈ GW := gw_of (i := 1110) (by decide +kernel) rfl
theorem gw1111 : Cond.static yL_isRaising ∈ GW := gw_of (i := 1111) (by decide +kernel) rfl
theorem gw1112 : Cond.code yL_isRaising cL_isRaising 8 (some .boolean) ∈ GW := gw_of (i := 1112) (by decide +kernel) rfl
theorem gw1113 : Cond.methodLink RL 245 yX6_canRaise ∈ GW := gw_of (i := 1113) (by decide +kernel) rfl
theorem gw1114 : Cond.methodLink RL 248 yX6_canTakeAway ∈ GW := gw_of (i := 1114) (by decide +kernel) rfl
theorem gw1115 : Cond.methodLink RL 251 yX6_orders ∈ GW := gw_of (i := 1115) (by decide +kernel) rfl
theorem gw1116 : Cond.instanceMethod yX6_orders ∈ GW := gw_of (i := 1116) (by decide +kernel) rfl
theorem gw1117 : Cond.selects RX6 yX6_orders yX6_orders ∈ GW := gw_of (i := 1117) (by decide +kernel) rfl
theorem gw1118 : Cond.code yX6_orders cX6_orders 1 (some .int) ∈ GW := gw_of (i := 1118) (by decide +kernel) rfl
theorem gw1119 : Cond.methodLink RL 254 yL_raised ∈ GW := gw_of (i := 1119) (by decide +kernel) rfl
theorem gw1120 : Cond.static yL_raised ∈ GW := gw_of (i := 1120) (by decide +kernel) rfl
theorem gw1121 : Cond.codeWith yL_raised cL_raised 3 (some .int) [(0, 5, 6, 53), (0, 5, 10, 28)] ∈ GW := gw_of (i := 1121) (by decide +kernel) rfl
theorem gw1122 : Cond.methodLink RL 99 yX6_raised ∈ GW := gw_of (i := 1122) (by decide +kernel) rfl
theorem gw1123 : Cond.instanceMethod yX6_raised ∈ GW := gw_of (i := 1123) (by decide +kernel) rfl
theorem gw1124 : Cond.selects RX6 yX6_raised yX6_raised ∈ GW := gw_of (i := 1124) (by decide +kernel) rfl
theorem gw1125 : Cond.code yX6_raised cX6_raised 2 (some .int) ∈ GW := gw_of (i := 1125) (by decide +kernel) rfl
theorem gw1126 : Cond.methodLink RX6 241 yX6_checkPlaceInOrder ∈ GW := gw_of (i := 1126) (by decide +kernel) rfl
theorem gw1128 : Cond.instanceMethod yX6_checkPlaceInOrder ∈ GW := gw_of (i := 1128) (by decide +kernel) rfl
theorem gw1129 : Cond.code yX6_checkPlaceInOrder cX6_checkPlaceInOrder 2 none ∈ GW := gw_of (i := 1129) (by decide +kernel) rfl
theorem gw1132 : Cond.methodLink RL 256 yL_props ∈ GW := gw_of (i := 1132) (by decide +kernel) rfl
theorem gw1133 : Cond.static yL_props ∈ GW := gw_of (i := 1133) (by decide +kernel) rfl
theorem gw1134 : Cond.codeWith yL_props cL_props 3 (some .int) [(0, 5, 6, 53), (0, 5, 10, 28)] ∈ GW := gw_of (i := 1134) (by decide +kernel) rfl
theorem gw1135 : Cond.methodLink RL 102 yX6_props ∈ GW := gw_of (i := 1135) (by decide +kernel) rfl
theorem gw1136 : Cond.instanceMethod yX6_props ∈ GW := gw_of (i := 1136) (by decide +kernel) rfl
theorem gw1137 : Cond.selects RX6 yX6_props yX6_props ∈ GW := gw_of (i := 1137) (by decide +kernel) rfl
theorem gw1138 : Cond.code yX6_props cX6_props 4 (some .int) ∈ GW := gw_of (i := 1138) (by decide +kernel) rfl
theorem gw1139 : Cond.methodLink RX6 258 yX4_propsFor ∈ GW := gw_of (i := 1139) (by decide +kernel) rfl
theorem gw1140 : Cond.methodLink RL 258 yL_stuck ∈ GW := gw_of (i := 1140) (by decide +kernel) rfl
theorem gw1141 : Cond.static yL_stuck ∈ GW := gw_of (i := 1141) (by decide +kernel) rfl
theorem gw1142 : Cond.codeWith yL_stuck cL_stuck 2 (some .int) [(0, 4, 5, 53)] ∈ GW := gw_of (i := 1142) (by decide +kernel) rfl
theorem gw1143 : Cond.methodLink RL 105 yX6_stuck ∈ GW := gw_of (i := 1143) (by decide +kernel) rfl
theorem gw1144 : Cond.instanceMethod yX6_stuck ∈ GW := gw_of (i := 1144) (by decide +kernel) rfl
theorem gw1145 : Cond.selects RX6 yX6_stuck yX6_stuck ∈ GW := gw_of (i := 1145) (by decide +kernel) rfl
theorem gw1146 : Cond.code yX6_stuck cX6_stuck 2 (some .int) ∈ GW := gw_of (i := 1146) (by decide +kernel) rfl
theorem gw1147 : Cond.methodLink RX6 261 yX4_lowestStuck ∈ GW := gw_of (i := 1147) (by decide +kernel) rfl
theorem gw1148 : Cond.instanceMethod yX4_lowestStuck ∈ GW := gw_of (i := 1148) (by decide +kernel) rfl
theorem gw1149 : Cond.selects RX4 yX4_lowestStuck yX4_lowestStuck ∈ GW := gw_of (i := 1149) (by decide +kernel) rfl
theorem gw1150 : Cond.code yX4_lowestStuck cX4_lowestStuck 3 (some .int) ∈ GW := gw_of (i := 1150) (by decide +kernel) rfl
theorem gw1152 : Cond.methodLink RL 182 yL_isThrown ∈ GW := gw_of (i := 1152) (by decide +kernel) rfl
theorem gw1153 : Cond.static yL_isThrown ∈ GW := gw_of (i := 1153) (by decide +kernel) rfl
theorem gw1154 : Cond.code yL_isThrown cL_isThrown 5 (some .boolean) ∈ GW := gw_of (i := 1154) (by decide +kernel) rfl
theorem gw1155 : Cond.methodLink RL 134 yJ0_charAt_5068e ∈ GW := gw_of (i := 1155) (by decide +kernel) rfl
theorem gw1156 : Cond.instanceMethod yJ0_charAt_5068e ∈ GW := gw_of (i := 1156) (by decide +kernel) rfl
theorem gw1157 : Cond.selects RJ0 yJ0_charAt_5068e yJ0_charAt_5068e ∈ GW := gw_of (i := 1157) (by decide +kernel) rfl
theorem gw1158 : Cond.code yJ0_charAt_5068e cJ0_charAt_5068e 2 (some .char) ∈ GW := gw_of (i := 1158) (by decide +kernel) rfl
theorem gw1159 : Cond.methodLink RJ0 495 yJ1_charAt_3b067 ∈ GW := gw_of (i := 1159) (by decide +kernel) rfl
theorem gw1160 : Cond.static yJ1_charAt_3b067 ∈ GW := gw_of (i := 1160) (by decide +kernel) rfl
theorem gw1161 : Cond.code yJ1_charAt_3b067 cJ1_charAt_3b067 2 (some .char) ∈ GW := gw_of (i := 1161) (by decide +kernel) rfl
theorem gw1162 : Cond.methodLink RJ1 9 yJ0_checkIndex_df160 ∈ GW := gw_of (i := 1162) (by decide +kernel) rfl
theorem gw1163 : Cond.static yJ0_checkIndex_df160 ∈ GW := gw_of (i := 1163) (by decide +kernel) rfl
theorem gw1164 : Cond.code yJ0_checkIndex_df160 cJ0_checkIndex_df160 2 none ∈ GW := gw_of (i := 1164) (by decide +kernel) rfl
theorem gw1165 : Cond.methodLink RJ0 1059 yJ3_checkIndex_8e157 ∈ GW := gw_of (i := 1165) (by decide +kernel) rfl
theorem gw1166 : Cond.static yJ3_checkIndex_8e157 ∈ GW := gw_of (i := 1166) (by decide +kernel) rfl
theorem gw1167 : Cond.code yJ3_checkIndex_8e157 cJ3_checkIndex_8e157 3 (some .int) ∈ GW := gw_of (i := 1167) (by decide +kernel) rfl
theorem gw1168 : Cond.methodLink RJ0 498 yJ2_charAt_3b067 ∈ GW := gw_of (i := 1168) (by decide +kernel) rfl
theorem gw1169 : Cond.static yJ2_charAt_3b067 ∈ GW := gw_of (i := 1169) (by decide +kernel) rfl
theorem gw1170 : Cond.code yJ2_charAt_3b067 cJ2_charAt_3b067 2 (some .char) ∈ GW := gw_of (i := 1170) (by decide +kernel) rfl
theorem gw1171 : Cond.methodLink RJ2 67 yJ2_checkIndex_2214a ∈ GW := gw_of (i := 1171) (by decide +kernel) rfl
theorem gw1172 : Cond.static yJ2_checkIndex_2214a ∈ GW := gw_of (i := 1172) (by decide +kernel) rfl
theorem gw1173 : Cond.code yJ2_checkIndex_2214a cJ2_checkIndex_2214a 2 none ∈ GW := gw_of (i := 1173) (by decide +kernel) rfl
theorem gw1174 : Cond.methodLink RJ2 414 yJ0_checkIndex_df160 ∈ GW := gw_of (i := 1174) (by decide +kernel) rfl
theorem gw1178 : Cond.castable RJx00060 "java/lang/IndexOutOfBoundsException" ∈ NW := nw_of (i := 1178) (by decide +kernel) rfl
theorem gw1179 : Cond.castable RX6 "java/lang/Object" ∈ NW := nw_of (i := 1179) (by decide +kernel) rfl
theorem gw1180 : Cond.castable RX2 "java/lang/Object" ∈ NW := nw_of (i := 1180) (by decide +kernel) rfl
theorem gw1181 : Cond.castable RX1 "java/lang/Object" ∈ NW := nw_of (i := 1181) (by decide +kernel) rfl
theorem gw1182 : Cond.castable RX5 "java/lang/Object" ∈ NW := nw_of (i := 1182) (by decide +kernel) rfl
theorem gw1183 : Cond.castable RX3 "java/lang/Object" ∈ NW := nw_of (i := 1183) (by decide +kernel) rfl
theorem gw1184 : Cond.castable RX0 "java/lang/Object" ∈ NW := nw_of (i := 1184) (by decide +kernel) rfl
theorem gw1185 : Cond.castable RX4 "java/lang/Object" ∈ NW := nw_of (i := 1185) (by decide +kernel) rfl
theorem gw1186 : Cond.castable "java/lang/IllegalArgumentException" "java/lang/Object" ∈ NW := nw_of (i := 1186) (by decide +kernel) rfl
theorem gw1187 : Cond.castable "java/lang/IllegalStateException" "java/lang/Object" ∈ NW := nw_of (i := 1187) (by decide +kernel) rfl
theorem gw1188 : Cond.castable RJx00060 "java/lang/Object" ∈ NW := nw_of (i := 1188) (by decide +kernel) rfl
theorem gw1189 : Cond.castable "java/lang/IndexOutOfBoundsException" "java/lang/Object" ∈ NW := nw_of (i := 1189) (by decide +kernel) rfl
theorem gw1190 : Cond.castable "java/lang/UnsupportedOperationException" "java/lang/Object" ∈ NW := nw_of (i := 1190) (by decide +kernel) rfl
theorem gw1191 : Cond.castable "java/util/NoSuchElementException" "java/lang/Object" ∈ NW := nw_of (i := 1191) (by decide +kernel) rfl
theorem gw1192 : Cond.castable "java/lang/ArithmeticException" "java/lang/Object" ∈ NW := nw_of (i := 1192) (by decide +kernel) rfl
theorem gw1193 : Cond.castable "java/lang/Throwable" "java/lang/Object" ∈ NW := nw_of (i := 1193) (by decide +kernel) rfl
theorem gw1194 : Cond.castable RJ0 "java/lang/Object" ∈ NW := nw_of (i := 1194) (by decide +kernel) rfl
theorem gw1195 : Cond.fieldLink RJ0 15 "java/lang/String" "coder" "B" ∈ GW := gw_of (i := 1195) (by decide +kernel) rfl
theorem gw1196 : Cond.fieldLink RJ0 9 "java/lang/String" "value" "[B" ∈ GW := gw_of (i := 1196) (by decide +kernel) rfl
