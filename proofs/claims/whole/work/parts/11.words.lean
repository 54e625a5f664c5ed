/-! WORDS of the tables, by their places (wip/whole/gen2.py) -/
theorem wd_1_1 : Cond.initialized "AccessLattice" ∈ am_tbl := am_in1 (k := 1) rfl rfl
theorem wd_1_2 : Cond.initialized "AccessLattice$View" ∈ am_tbl := am_in1 (k := 2) rfl rfl
theorem wd_1_3 : Cond.initialized "AccessLattice$State" ∈ am_tbl := am_in1 (k := 3) rfl rfl
theorem wd_1_4 : Cond.initialized "AccessLattice$Roles" ∈ am_tbl := am_in1 (k := 4) rfl rfl
theorem wd_1_5 : Cond.initialized "AccessLattice$Loans" ∈ am_tbl := am_in1 (k := 5) rfl rfl
theorem wd_1_6 : Cond.initialized "AccessLattice$Rules" ∈ am_tbl := am_in1 (k := 6) rfl rfl
theorem wd_1_7 : Cond.initialized "AccessLattice$Tape" ∈ am_tbl := am_in1 (k := 7) rfl rfl
theorem wd_1_8 : Cond.initialized "AccessLattice$Reader" ∈ am_tbl := am_in1 (k := 8) rfl rfl
theorem wd_1_9 : Cond.initialized "AccessLattice$Search" ∈ am_tbl := am_in1 (k := 9) rfl rfl
theorem wd_1_10 : Cond.initialized "AccessLattice$Grounds" ∈ am_tbl := am_in1 (k := 10) rfl rfl
theorem wd_1_11 : Cond.initialized "AccessLatticeModel" ∈ am_tbl := am_in1 (k := 11) rfl rfl
theorem wd_1_12 : Cond.initialized "java/lang/System" ∈ am_tbl := am_in1 (k := 12) rfl rfl
theorem wd_1_13 : Cond.initialized "java/lang/Integer" ∈ am_tbl := am_in1 (k := 13) rfl rfl
theorem wd_1_14 : Cond.initialized "java/lang/Long" ∈ am_tbl := am_in1 (k := 14) rfl rfl
theorem wd_1_15 : Cond.initialized "java/lang/Math" ∈ am_tbl := am_in1 (k := 15) rfl rfl
theorem wd_1_21 : Cond.methodLink "AccessLattice" 3 ⟨"java/lang/Object", "<init>", "()V"⟩ ∈ am_tbl := am_in1 (k := 21) rfl rfl
theorem wd_1_22 : Cond.instanceMethod ⟨"java/lang/Object", "<init>", "()V"⟩ ∈ am_tbl := am_in1 (k := 22) rfl rfl
theorem wd_1_24 : Cond.classLink "AccessLattice" 9 "AccessLattice$View" ∈ am_tbl := am_in1 (k := 24) rfl rfl
theorem wd_1_25 : Cond.instantiable "AccessLattice$View" 8 ∈ am_tbl := am_in1 (k := 25) rfl rfl
theorem wd_1_27 : Cond.instanceMethod ⟨"AccessLattice$View", "<init>", "()V"⟩ ∈ am_tbl := am_in1 (k := 27) rfl rfl
theorem wd_1_29 : Cond.methodLink "AccessLattice$View" 3 ⟨"java/lang/Object", "<init>", "()V"⟩ ∈ am_tbl := am_in1 (k := 29) rfl rfl
theorem wd_1_30 : Cond.classLink "AccessLattice$View" 9 "AccessLattice$State" ∈ am_tbl := am_in1 (k := 30) rfl rfl
theorem wd_1_31 : Cond.instantiable "AccessLattice$State" 13 ∈ am_tbl := am_in1 (k := 31) rfl rfl
theorem wd_1_32 : Cond.methodLink "AccessLattice$View" 11 ⟨"AccessLattice$State", "<init>", "()V"⟩ ∈ am_tbl := am_in1 (k := 32) rfl rfl
theorem wd_1_33 : Cond.instanceMethod ⟨"AccessLattice$State", "<init>", "()V"⟩ ∈ am_tbl := am_in1 (k := 33) rfl rfl
theorem wd_1_35 : Cond.methodLink "AccessLattice$State" 3 ⟨"java/lang/Object", "<init>", "()V"⟩ ∈ am_tbl := am_in1 (k := 35) rfl rfl
theorem wd_1_36 : Cond.classLink "AccessLattice$State" 9 "AccessLattice$Roles" ∈ am_tbl := am_in1 (k := 36) rfl rfl
theorem wd_1_37 : Cond.instantiable "AccessLattice$Roles" 8 ∈ am_tbl := am_in1 (k := 37) rfl rfl
theorem wd_1_38 : Cond.methodLink "AccessLattice$State" 11 ⟨"AccessLattice$Roles", "<init>", "()V"⟩ ∈ am_tbl := am_in1 (k := 38) rfl rfl
theorem wd_1_39 : Cond.instanceMethod ⟨"AccessLattice$Roles", "<init>", "()V"⟩ ∈ am_tbl := am_in1 (k := 39) rfl rfl
theorem wd_1_41 : Cond.methodLink "AccessLattice$Roles" 3 ⟨"java/lang/Object", "<init>", "()V"⟩ ∈ am_tbl := am_in1 (k := 41) rfl rfl
theorem wd_1_42 : Cond.methodLink "AccessLattice$Roles" 37 ⟨"AccessLattice$Roles", "close", "()V"⟩ ∈ am_tbl := am_in1 (k := 42) rfl rfl
theorem wd_1_44 : Cond.instanceMethod ⟨"AccessLattice$Roles", "close", "()V"⟩ ∈ am_tbl := am_in1 (k := 44) rfl rfl
theorem wd_1_47 : Cond.static ⟨"AccessLattice", "has", "(II)Z"⟩ ∈ am_tbl := am_in1 (k := 47) rfl rfl
theorem wd_1_49 : Cond.fieldLink "AccessLattice$Roles" 9 "AccessLattice$Roles" "down" "[I" ∈ am_tbl := am_in1 (k := 49) rfl rfl
theorem wd_1_50 : Cond.fieldLink "AccessLattice" 99 "AccessLattice$Roles" "down" "[I" ∈ am_tbl := am_in1 (k := 50) rfl rfl
theorem wd_1_51 : Cond.fieldLink "AccessLattice$Roles" 15 "AccessLattice$Roles" "up" "[I" ∈ am_tbl := am_in1 (k := 51) rfl rfl
theorem wd_1_52 : Cond.fieldLink "AccessLattice" 303 "AccessLattice$Roles" "up" "[I" ∈ am_tbl := am_in1 (k := 52) rfl rfl
theorem wd_1_53 : Cond.fieldLink "AccessLattice$Roles" 18 "AccessLattice$Roles" "reach" "[I" ∈ am_tbl := am_in1 (k := 53) rfl rfl
theorem wd_1_54 : Cond.fieldLink "AccessLattice" 116 "AccessLattice$Roles" "reach" "[I" ∈ am_tbl := am_in1 (k := 54) rfl rfl
theorem wd_1_55 : Cond.fieldLink "AccessLattice$View" 112 "AccessLattice$Roles" "reach" "[I" ∈ am_tbl := am_in1 (k := 55) rfl rfl
theorem wd_1_56 : Cond.fieldLink "AccessLattice$Roles" 21 "AccessLattice$Roles" "rise" "[I" ∈ am_tbl := am_in1 (k := 56) rfl rfl
theorem wd_1_57 : Cond.fieldLink "AccessLattice" 297 "AccessLattice$Roles" "rise" "[I" ∈ am_tbl := am_in1 (k := 57) rfl rfl
theorem wd_1_58 : Cond.fieldLink "AccessLattice$Roles" 24 "AccessLattice$Roles" "distance" "[I" ∈ am_tbl := am_in1 (k := 58) rfl rfl
theorem wd_1_59 : Cond.fieldLink "AccessLattice$Roles" 27 "AccessLattice$Roles" "walks" "[I" ∈ am_tbl := am_in1 (k := 59) rfl rfl
theorem wd_1_60 : Cond.fieldLink "AccessLattice$Roles" 30 "AccessLattice$Roles" "longer" "[I" ∈ am_tbl := am_in1 (k := 60) rfl rfl
theorem wd_1_61 : Cond.fieldLink "AccessLattice$Roles" 33 "AccessLattice$Roles" "pairs" "I" ∈ am_tbl := am_in1 (k := 61) rfl rfl
theorem wd_1_62 : Cond.fieldLink "AccessLattice" 112 "AccessLattice$Roles" "pairs" "I" ∈ am_tbl := am_in1 (k := 62) rfl rfl
theorem wd_1_80 : Cond.arrayClass .int ∈ am_tbl := am_in1 (k := 80) rfl rfl
theorem wd_1_81 : Cond.classLink "AccessLattice$State" 18 "AccessLattice$Loans" ∈ am_tbl := am_in1 (k := 81) rfl rfl
theorem wd_1_82 : Cond.instantiable "AccessLattice$Loans" 8 ∈ am_tbl := am_in1 (k := 82) rfl rfl
theorem wd_1_84 : Cond.instanceMethod ⟨"AccessLattice$Loans", "<init>", "()V"⟩ ∈ am_tbl := am_in1 (k := 84) rfl rfl
theorem wd_1_86 : Cond.methodLink "AccessLattice$Loans" 3 ⟨"java/lang/Object", "<init>", "()V"⟩ ∈ am_tbl := am_in1 (k := 86) rfl rfl
theorem wd_1_87 : Cond.fieldLink "AccessLattice$Loans" 9 "AccessLattice$Loans" "from" "[I" ∈ am_tbl := am_in1 (k := 87) rfl rfl
theorem wd_1_88 : Cond.fieldLink "AccessLattice$View" 92 "AccessLattice$Loans" "from" "[I" ∈ am_tbl := am_in1 (k := 88) rfl rfl
theorem wd_1_89 : Cond.fieldLink "AccessLattice" 174 "AccessLattice$Loans" "from" "[I" ∈ am_tbl := am_in1 (k := 89) rfl rfl
theorem wd_1_90 : Cond.fieldLink "AccessLattice$Loans" 15 "AccessLattice$Loans" "to" "[I" ∈ am_tbl := am_in1 (k := 90) rfl rfl
theorem wd_1_91 : Cond.fieldLink "AccessLattice$View" 109 "AccessLattice$Loans" "to" "[I" ∈ am_tbl := am_in1 (k := 91) rfl rfl
theorem wd_1_92 : Cond.fieldLink "AccessLattice" 177 "AccessLattice$Loans" "to" "[I" ∈ am_tbl := am_in1 (k := 92) rfl rfl
theorem wd_1_93 : Cond.fieldLink "AccessLattice$Loans" 18 "AccessLattice$Loans" "role" "[I" ∈ am_tbl := am_in1 (k := 93) rfl rfl
theorem wd_1_94 : Cond.fieldLink "AccessLattice$View" 95 "AccessLattice$Loans" "role" "[I" ∈ am_tbl := am_in1 (k := 94) rfl rfl
theorem wd_1_95 : Cond.fieldLink "AccessLattice" 180 "AccessLattice$Loans" "role" "[I" ∈ am_tbl := am_in1 (k := 95) rfl rfl
theorem wd_1_96 : Cond.fieldLink "AccessLattice$Loans" 21 "AccessLattice$Loans" "until" "[I" ∈ am_tbl := am_in1 (k := 96) rfl rfl
theorem wd_1_97 : Cond.fieldLink "AccessLattice$View" 106 "AccessLattice$Loans" "until" "[I" ∈ am_tbl := am_in1 (k := 97) rfl rfl
theorem wd_1_98 : Cond.fieldLink "AccessLattice" 183 "AccessLattice$Loans" "until" "[I" ∈ am_tbl := am_in1 (k := 98) rfl rfl
theorem wd_1_99 : Cond.fieldLink "AccessLattice$Loans" 24 "AccessLattice$Loans" "further" "[I" ∈ am_tbl := am_in1 (k := 99) rfl rfl
theorem wd_1_100 : Cond.fieldLink "AccessLattice$View" 128 "AccessLattice$Loans" "further" "[I" ∈ am_tbl := am_in1 (k := 100) rfl rfl
theorem wd_1_101 : Cond.fieldLink "AccessLattice" 186 "AccessLattice$Loans" "further" "[I" ∈ am_tbl := am_in1 (k := 101) rfl rfl
theorem wd_1_102 : Cond.fieldLink "AccessLattice$Loans" 27 "AccessLattice$Loans" "source" "[I" ∈ am_tbl := am_in1 (k := 102) rfl rfl
theorem wd_1_103 : Cond.fieldLink "AccessLattice$View" 89 "AccessLattice$Loans" "source" "[I" ∈ am_tbl := am_in1 (k := 103) rfl rfl
theorem wd_1_104 : Cond.fieldLink "AccessLattice" 189 "AccessLattice$Loans" "source" "[I" ∈ am_tbl := am_in1 (k := 104) rfl rfl
theorem wd_1_105 : Cond.fieldLink "AccessLattice$Loans" 30 "AccessLattice$Loans" "taken" "J" ∈ am_tbl := am_in1 (k := 105) rfl rfl
theorem wd_1_106 : Cond.fieldLink "AccessLattice$View" 81 "AccessLattice$Loans" "taken" "J" ∈ am_tbl := am_in1 (k := 106) rfl rfl
theorem wd_1_107 : Cond.fieldLink "AccessLattice" 207 "AccessLattice$Loans" "taken" "J" ∈ am_tbl := am_in1 (k := 107) rfl rfl
theorem wd_1_108 : Cond.fieldLink "AccessLattice$Loans" 34 "AccessLattice$Loans" "count" "I" ∈ am_tbl := am_in1 (k := 108) rfl rfl
theorem wd_1_109 : Cond.fieldLink "AccessLattice$View" 86 "AccessLattice$Loans" "count" "I" ∈ am_tbl := am_in1 (k := 109) rfl rfl
theorem wd_1_110 : Cond.fieldLink "AccessLattice" 152 "AccessLattice$Loans" "count" "I" ∈ am_tbl := am_in1 (k := 110) rfl rfl
theorem wd_1_128 : Cond.classLink "AccessLattice$State" 25 "AccessLattice$Rules" ∈ am_tbl := am_in1 (k := 128) rfl rfl
theorem wd_1_129 : Cond.instantiable "AccessLattice$Rules" 12 ∈ am_tbl := am_in1 (k := 129) rfl rfl
theorem wd_1_131 : Cond.instanceMethod ⟨"AccessLattice$Rules", "<init>", "()V"⟩ ∈ am_tbl := am_in1 (k := 131) rfl rfl
theorem wd_1_133 : Cond.methodLink "AccessLattice$Rules" 3 ⟨"java/lang/Object", "<init>", "()V"⟩ ∈ am_tbl := am_in1 (k := 133) rfl rfl
theorem wd_1_134 : Cond.fieldLink "AccessLattice$Rules" 9 "AccessLattice$Rules" "role" "[I" ∈ am_tbl := am_in1 (k := 134) rfl rfl
theorem wd_1_135 : Cond.fieldLink "AccessLattice" 230 "AccessLattice$Rules" "role" "[I" ∈ am_tbl := am_in1 (k := 135) rfl rfl
theorem wd_1_136 : Cond.fieldLink "AccessLattice$Rules" 15 "AccessLattice$Rules" "acts" "[I" ∈ am_tbl := am_in1 (k := 136) rfl rfl
theorem wd_1_137 : Cond.fieldLink "AccessLattice$View" 132 "AccessLattice$Rules" "acts" "[I" ∈ am_tbl := am_in1 (k := 137) rfl rfl
theorem wd_1_138 : Cond.fieldLink "AccessLattice" 231 "AccessLattice$Rules" "acts" "[I" ∈ am_tbl := am_in1 (k := 138) rfl rfl
theorem wd_1_139 : Cond.fieldLink "AccessLattice$Rules" 18 "AccessLattice$Rules" "thing" "[I" ∈ am_tbl := am_in1 (k := 139) rfl rfl
theorem wd_1_140 : Cond.fieldLink "AccessLattice$View" 135 "AccessLattice$Rules" "thing" "[I" ∈ am_tbl := am_in1 (k := 140) rfl rfl
theorem wd_1_141 : Cond.fieldLink "AccessLattice" 234 "AccessLattice$Rules" "thing" "[I" ∈ am_tbl := am_in1 (k := 141) rfl rfl
theorem wd_1_142 : Cond.fieldLink "AccessLattice$Rules" 21 "AccessLattice$Rules" "from" "[I" ∈ am_tbl := am_in1 (k := 142) rfl rfl
theorem wd_1_143 : Cond.fieldLink "AccessLattice" 237 "AccessLattice$Rules" "from" "[I" ∈ am_tbl := am_in1 (k := 143) rfl rfl
theorem wd_1_144 : Cond.fieldLink "AccessLattice$Rules" 24 "AccessLattice$Rules" "to" "[I" ∈ am_tbl := am_in1 (k := 144) rfl rfl
theorem wd_1_145 : Cond.fieldLink "AccessLattice" 238 "AccessLattice$Rules" "to" "[I" ∈ am_tbl := am_in1 (k := 145) rfl rfl
theorem wd_1_146 : Cond.fieldLink "AccessLattice$Rules" 27 "AccessLattice$Rules" "uses" "[I" ∈ am_tbl := am_in1 (k := 146) rfl rfl
theorem wd_1_147 : Cond.fieldLink "AccessLattice" 239 "AccessLattice$Rules" "uses" "[I" ∈ am_tbl := am_in1 (k := 147) rfl rfl
theorem wd_1_148 : Cond.fieldLink "AccessLattice$Rules" 30 "AccessLattice$Rules" "size" "[I" ∈ am_tbl := am_in1 (k := 148) rfl rfl
theorem wd_1_149 : Cond.fieldLink "AccessLattice" 265 "AccessLattice$Rules" "size" "[I" ∈ am_tbl := am_in1 (k := 149) rfl rfl
theorem wd_1_150 : Cond.fieldLink "AccessLattice$View" 168 "AccessLattice$Rules" "size" "[I" ∈ am_tbl := am_in1 (k := 150) rfl rfl
theorem wd_1_151 : Cond.fieldLink "AccessLattice$Rules" 33 "AccessLattice$Rules" "codes" "[I" ∈ am_tbl := am_in1 (k := 151) rfl rfl
theorem wd_1_152 : Cond.fieldLink "AccessLattice$View" 182 "AccessLattice$Rules" "codes" "[I" ∈ am_tbl := am_in1 (k := 152) rfl rfl
theorem wd_1_153 : Cond.fieldLink "AccessLattice$Rules" 36 "AccessLattice$Rules" "there" "I" ∈ am_tbl := am_in1 (k := 153) rfl rfl
theorem wd_1_154 : Cond.fieldLink "AccessLattice" 256 "AccessLattice$Rules" "there" "I" ∈ am_tbl := am_in1 (k := 154) rfl rfl
theorem wd_1_155 : Cond.fieldLink "AccessLattice$Rules" 40 "AccessLattice$Rules" "denies" "I" ∈ am_tbl := am_in1 (k := 155) rfl rfl
theorem wd_1_156 : Cond.fieldLink "AccessLattice$Search" 52 "AccessLattice$Rules" "denies" "I" ∈ am_tbl := am_in1 (k := 156) rfl rfl
theorem wd_1_157 : Cond.fieldLink "AccessLattice" 259 "AccessLattice$Rules" "denies" "I" ∈ am_tbl := am_in1 (k := 157) rfl rfl
theorem wd_1_158 : Cond.fieldLink "AccessLattice$Rules" 43 "AccessLattice$Rules" "deep" "I" ∈ am_tbl := am_in1 (k := 158) rfl rfl
theorem wd_1_159 : Cond.fieldLink "AccessLattice$View" 142 "AccessLattice$Rules" "deep" "I" ∈ am_tbl := am_in1 (k := 159) rfl rfl
theorem wd_1_160 : Cond.fieldLink "AccessLattice" 262 "AccessLattice$Rules" "deep" "I" ∈ am_tbl := am_in1 (k := 160) rfl rfl
theorem wd_1_161 : Cond.fieldLink "AccessLattice$Rules" 46 "AccessLattice$Rules" "count" "I" ∈ am_tbl := am_in1 (k := 161) rfl rfl
theorem wd_1_162 : Cond.fieldLink "AccessLattice$View" 131 "AccessLattice$Rules" "count" "I" ∈ am_tbl := am_in1 (k := 162) rfl rfl
theorem wd_1_163 : Cond.fieldLink "AccessLattice" 220 "AccessLattice$Rules" "count" "I" ∈ am_tbl := am_in1 (k := 163) rfl rfl
theorem wd_1_189 : Cond.fieldLink "AccessLattice$State" 12 "AccessLattice$State" "roles" "LAccessLattice$Roles;" ∈ am_tbl := am_in1 (k := 189) rfl rfl
theorem wd_1_190 : Cond.fieldLink "AccessLattice$View" 42 "AccessLattice$State" "roles" "LAccessLattice$Roles;" ∈ am_tbl := am_in1 (k := 190) rfl rfl
theorem wd_1_191 : Cond.fieldLink "AccessLattice" 95 "AccessLattice$State" "roles" "LAccessLattice$Roles;" ∈ am_tbl := am_in1 (k := 191) rfl rfl
theorem wd_1_192 : Cond.fieldLink "AccessLattice$State" 21 "AccessLattice$State" "loans" "LAccessLattice$Loans;" ∈ am_tbl := am_in1 (k := 192) rfl rfl
theorem wd_1_193 : Cond.fieldLink "AccessLattice$View" 77 "AccessLattice$State" "loans" "LAccessLattice$Loans;" ∈ am_tbl := am_in1 (k := 193) rfl rfl
theorem wd_1_194 : Cond.fieldLink "AccessLattice" 148 "AccessLattice$State" "loans" "LAccessLattice$Loans;" ∈ am_tbl := am_in1 (k := 194) rfl rfl
theorem wd_1_195 : Cond.fieldLink "AccessLattice$State" 28 "AccessLattice$State" "rules" "LAccessLattice$Rules;" ∈ am_tbl := am_in1 (k := 195) rfl rfl
theorem wd_1_196 : Cond.fieldLink "AccessLattice$Search" 38 "AccessLattice$State" "rules" "LAccessLattice$Rules;" ∈ am_tbl := am_in1 (k := 196) rfl rfl
theorem wd_1_197 : Cond.fieldLink "AccessLattice$View" 59 "AccessLattice$State" "rules" "LAccessLattice$Rules;" ∈ am_tbl := am_in1 (k := 197) rfl rfl
theorem wd_1_198 : Cond.fieldLink "AccessLattice" 216 "AccessLattice$State" "rules" "LAccessLattice$Rules;" ∈ am_tbl := am_in1 (k := 198) rfl rfl
theorem wd_1_199 : Cond.fieldLink "AccessLattice$State" 32 "AccessLattice$State" "userAttributes" "[I" ∈ am_tbl := am_in1 (k := 199) rfl rfl
theorem wd_1_200 : Cond.fieldLink "AccessLattice" 74 "AccessLattice$State" "userAttributes" "[I" ∈ am_tbl := am_in1 (k := 200) rfl rfl
theorem wd_1_201 : Cond.fieldLink "AccessLattice$View" 176 "AccessLattice$State" "userAttributes" "[I" ∈ am_tbl := am_in1 (k := 201) rfl rfl
theorem wd_1_202 : Cond.fieldLink "AccessLattice$State" 36 "AccessLattice$State" "thingAttributes" "[I" ∈ am_tbl := am_in1 (k := 202) rfl rfl
theorem wd_1_203 : Cond.fieldLink "AccessLattice" 79 "AccessLattice$State" "thingAttributes" "[I" ∈ am_tbl := am_in1 (k := 203) rfl rfl
theorem wd_1_204 : Cond.fieldLink "AccessLattice$View" 179 "AccessLattice$State" "thingAttributes" "[I" ∈ am_tbl := am_in1 (k := 204) rfl rfl
theorem wd_1_205 : Cond.fieldLink "AccessLattice$State" 39 "AccessLattice$State" "parent" "[I" ∈ am_tbl := am_in1 (k := 205) rfl rfl
theorem wd_1_206 : Cond.fieldLink "AccessLattice" 86 "AccessLattice$State" "parent" "[I" ∈ am_tbl := am_in1 (k := 206) rfl rfl
theorem wd_1_207 : Cond.fieldLink "AccessLattice$State" 42 "AccessLattice$State" "assigned" "[I" ∈ am_tbl := am_in1 (k := 207) rfl rfl
theorem wd_1_208 : Cond.fieldLink "AccessLattice$View" 46 "AccessLattice$State" "assigned" "[I" ∈ am_tbl := am_in1 (k := 208) rfl rfl
theorem wd_1_209 : Cond.fieldLink "AccessLattice$Search" 57 "AccessLattice$State" "assigned" "[I" ∈ am_tbl := am_in1 (k := 209) rfl rfl
theorem wd_1_210 : Cond.fieldLink "AccessLattice" 126 "AccessLattice$State" "assigned" "[I" ∈ am_tbl := am_in1 (k := 210) rfl rfl
theorem wd_1_211 : Cond.fieldLink "AccessLattice$State" 45 "AccessLattice$State" "barred" "[I" ∈ am_tbl := am_in1 (k := 211) rfl rfl
theorem wd_1_212 : Cond.fieldLink "AccessLattice" 135 "AccessLattice$State" "barred" "[I" ∈ am_tbl := am_in1 (k := 212) rfl rfl
theorem wd_1_213 : Cond.fieldLink "AccessLattice$State" 48 "AccessLattice$State" "rows" "[I" ∈ am_tbl := am_in1 (k := 213) rfl rfl
theorem wd_1_214 : Cond.fieldLink "AccessLattice" 351 "AccessLattice$State" "rows" "[I" ∈ am_tbl := am_in1 (k := 214) rfl rfl
theorem wd_1_215 : Cond.fieldLink "AccessLattice$State" 51 "AccessLattice$State" "tally" "[I" ∈ am_tbl := am_in1 (k := 215) rfl rfl
theorem wd_1_216 : Cond.fieldLink "AccessLattice" 390 "AccessLattice$State" "tally" "[I" ∈ am_tbl := am_in1 (k := 216) rfl rfl
theorem wd_1_217 : Cond.fieldLink "AccessLattice$State" 54 "AccessLattice$State" "barredPairs" "I" ∈ am_tbl := am_in1 (k := 217) rfl rfl
theorem wd_1_218 : Cond.fieldLink "AccessLattice" 138 "AccessLattice$State" "barredPairs" "I" ∈ am_tbl := am_in1 (k := 218) rfl rfl
theorem wd_1_219 : Cond.fieldLink "AccessLattice$State" 58 "AccessLattice$State" "booked" "I" ∈ am_tbl := am_in1 (k := 219) rfl rfl
theorem wd_1_220 : Cond.fieldLink "AccessLattice" 348 "AccessLattice$State" "booked" "I" ∈ am_tbl := am_in1 (k := 220) rfl rfl
theorem wd_1_221 : Cond.fieldLink "AccessLattice$State" 61 "AccessLattice$State" "now" "I" ∈ am_tbl := am_in1 (k := 221) rfl rfl
theorem wd_1_222 : Cond.fieldLink "AccessLattice$View" 115 "AccessLattice$State" "now" "I" ∈ am_tbl := am_in1 (k := 222) rfl rfl
theorem wd_1_223 : Cond.fieldLink "AccessLattice" 145 "AccessLattice$State" "now" "I" ∈ am_tbl := am_in1 (k := 223) rfl rfl
theorem wd_2_11 : Cond.fieldLink "AccessLattice$View" 12 "AccessLattice$View" "state" "LAccessLattice$State;" ∈ am_tbl := am_in2 (k := 11) rfl rfl
theorem wd_2_12 : Cond.fieldLink "AccessLattice" 19 "AccessLattice$View" "state" "LAccessLattice$State;" ∈ am_tbl := am_in2 (k := 12) rfl rfl
theorem wd_2_13 : Cond.fieldLink "AccessLattice$Search" 32 "AccessLattice$View" "state" "LAccessLattice$State;" ∈ am_tbl := am_in2 (k := 13) rfl rfl
theorem wd_2_14 : Cond.fieldLink "AccessLattice$View" 18 "AccessLattice$View" "owned" "[I" ∈ am_tbl := am_in2 (k := 14) rfl rfl
theorem wd_2_15 : Cond.fieldLink "AccessLattice" 161 "AccessLattice$View" "owned" "[I" ∈ am_tbl := am_in2 (k := 15) rfl rfl
theorem wd_2_16 : Cond.fieldLink "AccessLattice$View" 22 "AccessLattice$View" "held" "[I" ∈ am_tbl := am_in2 (k := 16) rfl rfl
theorem wd_2_17 : Cond.fieldLink "AccessLattice$Search" 68 "AccessLattice$View" "held" "[I" ∈ am_tbl := am_in2 (k := 17) rfl rfl
theorem wd_2_18 : Cond.fieldLink "AccessLattice" 168 "AccessLattice$View" "held" "[I" ∈ am_tbl := am_in2 (k := 18) rfl rfl
theorem wd_2_19 : Cond.fieldLink "AccessLattice$View" 25 "AccessLattice$View" "givens" "[I" ∈ am_tbl := am_in2 (k := 19) rfl rfl
theorem wd_2_20 : Cond.fieldLink "AccessLattice$View" 28 "AccessLattice$View" "stack" "[I" ∈ am_tbl := am_in2 (k := 20) rfl rfl
theorem wd_2_21 : Cond.fieldLink "AccessLattice$View" 31 "AccessLattice$View" "standing" "J" ∈ am_tbl := am_in2 (k := 21) rfl rfl
theorem wd_2_22 : Cond.fieldLink "AccessLattice" 198 "AccessLattice$View" "standing" "J" ∈ am_tbl := am_in2 (k := 22) rfl rfl
theorem wd_2_23 : Cond.fieldLink "AccessLattice$View" 35 "AccessLattice$View" "timely" "I" ∈ am_tbl := am_in2 (k := 23) rfl rfl
theorem wd_2_24 : Cond.fieldLink "AccessLattice$View" 39 "AccessLattice$View" "tick" "I" ∈ am_tbl := am_in2 (k := 24) rfl rfl
theorem wd_2_42 : Cond.classLink "AccessLattice" 24 "AccessLattice$Tape" ∈ am_tbl := am_in2 (k := 42) rfl rfl
theorem wd_2_43 : Cond.instantiable "AccessLattice$Tape" 2 ∈ am_tbl := am_in2 (k := 43) rfl rfl
theorem wd_2_45 : Cond.instanceMethod ⟨"AccessLattice$Tape", "<init>", "()V"⟩ ∈ am_tbl := am_in2 (k := 45) rfl rfl
theorem wd_2_47 : Cond.methodLink "AccessLattice$Tape" 3 ⟨"java/lang/Object", "<init>", "()V"⟩ ∈ am_tbl := am_in2 (k := 47) rfl rfl
theorem wd_2_48 : Cond.fieldLink "AccessLattice$Tape" 9 "AccessLattice$Tape" "bytes" "[I" ∈ am_tbl := am_in2 (k := 48) rfl rfl
theorem wd_2_49 : Cond.fieldLink "AccessLattice" 213 "AccessLattice$Tape" "bytes" "[I" ∈ am_tbl := am_in2 (k := 49) rfl rfl
theorem wd_2_50 : Cond.fieldLink "AccessLattice$Tape" 15 "AccessLattice$Tape" "length" "I" ∈ am_tbl := am_in2 (k := 50) rfl rfl
theorem wd_2_51 : Cond.fieldLink "AccessLattice$Reader" 41 "AccessLattice$Tape" "length" "I" ∈ am_tbl := am_in2 (k := 51) rfl rfl
theorem wd_2_52 : Cond.fieldLink "AccessLattice" 210 "AccessLattice$Tape" "length" "I" ∈ am_tbl := am_in2 (k := 52) rfl rfl
theorem wd_2_58 : Cond.classLink "AccessLattice" 31 "AccessLattice$Reader" ∈ am_tbl := am_in2 (k := 58) rfl rfl
theorem wd_2_59 : Cond.instantiable "AccessLattice$Reader" 8 ∈ am_tbl := am_in2 (k := 59) rfl rfl
theorem wd_2_61 : Cond.instanceMethod ⟨"AccessLattice$Reader", "<init>", "()V"⟩ ∈ am_tbl := am_in2 (k := 61) rfl rfl
theorem wd_2_63 : Cond.methodLink "AccessLattice$Reader" 3 ⟨"java/lang/Object", "<init>", "()V"⟩ ∈ am_tbl := am_in2 (k := 63) rfl rfl
theorem wd_2_64 : Cond.fieldLink "AccessLattice$Reader" 9 "AccessLattice$Reader" "code" "[I" ∈ am_tbl := am_in2 (k := 64) rfl rfl
theorem wd_2_65 : Cond.fieldLink "AccessLattice" 242 "AccessLattice$Reader" "code" "[I" ∈ am_tbl := am_in2 (k := 65) rfl rfl
theorem wd_2_66 : Cond.fieldLink "AccessLattice$Reader" 15 "AccessLattice$Reader" "waiting" "[I" ∈ am_tbl := am_in2 (k := 66) rfl rfl
theorem wd_2_67 : Cond.fieldLink "AccessLattice$Reader" 18 "AccessLattice$Reader" "size" "I" ∈ am_tbl := am_in2 (k := 67) rfl rfl
theorem wd_2_68 : Cond.fieldLink "AccessLattice" 227 "AccessLattice$Reader" "size" "I" ∈ am_tbl := am_in2 (k := 68) rfl rfl
theorem wd_2_69 : Cond.fieldLink "AccessLattice$Reader" 22 "AccessLattice$Reader" "top" "I" ∈ am_tbl := am_in2 (k := 69) rfl rfl
theorem wd_2_70 : Cond.fieldLink "AccessLattice$Reader" 25 "AccessLattice$Reader" "open" "I" ∈ am_tbl := am_in2 (k := 70) rfl rfl
theorem wd_2_71 : Cond.fieldLink "AccessLattice$Reader" 28 "AccessLattice$Reader" "place" "I" ∈ am_tbl := am_in2 (k := 71) rfl rfl
theorem wd_2_72 : Cond.fieldLink "AccessLattice$Reader" 31 "AccessLattice$Reader" "fault" "I" ∈ am_tbl := am_in2 (k := 72) rfl rfl
theorem wd_2_73 : Cond.fieldLink "AccessLattice$Reader" 34 "AccessLattice$Reader" "due" "Z" ∈ am_tbl := am_in2 (k := 73) rfl rfl
theorem wd_2_91 : Cond.classLink "AccessLattice" 38 "AccessLattice$Search" ∈ am_tbl := am_in2 (k := 91) rfl rfl
theorem wd_2_92 : Cond.instantiable "AccessLattice$Search" 6 ∈ am_tbl := am_in2 (k := 92) rfl rfl
theorem wd_2_94 : Cond.instanceMethod ⟨"AccessLattice$Search", "<init>", "()V"⟩ ∈ am_tbl := am_in2 (k := 94) rfl rfl
theorem wd_2_96 : Cond.methodLink "AccessLattice$Search" 3 ⟨"java/lang/Object", "<init>", "()V"⟩ ∈ am_tbl := am_in2 (k := 96) rfl rfl
theorem wd_2_97 : Cond.fieldLink "AccessLattice$Search" 9 "AccessLattice$Search" "options" "[I" ∈ am_tbl := am_in2 (k := 97) rfl rfl
theorem wd_2_98 : Cond.fieldLink "AccessLattice$Search" 15 "AccessLattice$Search" "picked" "[I" ∈ am_tbl := am_in2 (k := 98) rfl rfl
theorem wd_2_99 : Cond.fieldLink "AccessLattice$Search" 18 "AccessLattice$Search" "size" "I" ∈ am_tbl := am_in2 (k := 99) rfl rfl
theorem wd_2_100 : Cond.fieldLink "AccessLattice$Search" 22 "AccessLattice$Search" "turned" "I" ∈ am_tbl := am_in2 (k := 100) rfl rfl
theorem wd_2_101 : Cond.fieldLink "AccessLattice$Search" 25 "AccessLattice$Search" "lost" "J" ∈ am_tbl := am_in2 (k := 101) rfl rfl
theorem wd_2_102 : Cond.fieldLink "AccessLattice$Search" 29 "AccessLattice$Search" "gone" "I" ∈ am_tbl := am_in2 (k := 102) rfl rfl
theorem wd_2_116 : Cond.classLink "AccessLattice" 45 "AccessLattice$Grounds" ∈ am_tbl := am_in2 (k := 116) rfl rfl
theorem wd_2_117 : Cond.instantiable "AccessLattice$Grounds" 3 ∈ am_tbl := am_in2 (k := 117) rfl rfl
theorem wd_2_119 : Cond.instanceMethod ⟨"AccessLattice$Grounds", "<init>", "()V"⟩ ∈ am_tbl := am_in2 (k := 119) rfl rfl
theorem wd_2_121 : Cond.methodLink "AccessLattice$Grounds" 3 ⟨"java/lang/Object", "<init>", "()V"⟩ ∈ am_tbl := am_in2 (k := 121) rfl rfl
theorem wd_2_122 : Cond.fieldLink "AccessLattice$Grounds" 9 "AccessLattice$Grounds" "kind" "[I" ∈ am_tbl := am_in2 (k := 122) rfl rfl
theorem wd_2_123 : Cond.fieldLink "AccessLattice" 316 "AccessLattice$Grounds" "kind" "[I" ∈ am_tbl := am_in2 (k := 123) rfl rfl
theorem wd_2_124 : Cond.fieldLink "AccessLattice$Grounds" 15 "AccessLattice$Grounds" "number" "[I" ∈ am_tbl := am_in2 (k := 124) rfl rfl
theorem wd_2_125 : Cond.fieldLink "AccessLattice" 319 "AccessLattice$Grounds" "number" "[I" ∈ am_tbl := am_in2 (k := 125) rfl rfl
theorem wd_2_126 : Cond.fieldLink "AccessLattice$Grounds" 18 "AccessLattice$Grounds" "size" "I" ∈ am_tbl := am_in2 (k := 126) rfl rfl
theorem wd_2_127 : Cond.fieldLink "AccessLattice" 293 "AccessLattice$Grounds" "size" "I" ∈ am_tbl := am_in2 (k := 127) rfl rfl
theorem wd_2_135 : Cond.fieldLink "AccessLattice" 12 "AccessLattice" "live" "LAccessLattice$View;" ∈ am_tbl := am_in2 (k := 135) rfl rfl
theorem wd_2_136 : Cond.fieldLink "AccessLattice" 16 "AccessLattice" "kept" "LAccessLattice$View;" ∈ am_tbl := am_in2 (k := 136) rfl rfl
theorem wd_2_137 : Cond.fieldLink "AccessLattice" 23 "AccessLattice" "state" "LAccessLattice$State;" ∈ am_tbl := am_in2 (k := 137) rfl rfl
theorem wd_2_138 : Cond.fieldLink "AccessLattice" 27 "AccessLattice" "tape" "LAccessLattice$Tape;" ∈ am_tbl := am_in2 (k := 138) rfl rfl
theorem wd_2_139 : Cond.fieldLink "AccessLattice" 34 "AccessLattice" "reader" "LAccessLattice$Reader;" ∈ am_tbl := am_in2 (k := 139) rfl rfl
theorem wd_2_140 : Cond.fieldLink "AccessLattice" 41 "AccessLattice" "search" "LAccessLattice$Search;" ∈ am_tbl := am_in2 (k := 140) rfl rfl
theorem wd_2_141 : Cond.fieldLink "AccessLattice" 48 "AccessLattice" "grounds" "LAccessLattice$Grounds;" ∈ am_tbl := am_in2 (k := 141) rfl rfl
theorem wd_2_142 : Cond.fieldLink "AccessLattice" 52 "AccessLattice" "route" "[I" ∈ am_tbl := am_in2 (k := 142) rfl rfl
theorem wd_2_143 : Cond.fieldLink "AccessLattice" 56 "AccessLattice" "starts" "[I" ∈ am_tbl := am_in2 (k := 143) rfl rfl
theorem wd_2_144 : Cond.fieldLink "AccessLattice" 59 "AccessLattice" "imaged" "Z" ∈ am_tbl := am_in2 (k := 144) rfl rfl
theorem wd_2_170 : Cond.methodLink "AccessLattice" 63 ⟨"AccessLattice", "within01", "(I)Z"⟩ ∈ am_tbl := am_in2 (k := 170) rfl rfl
theorem wd_2_171 : Cond.static ⟨"AccessLattice", "within01", "(I)Z"⟩ ∈ am_tbl := am_in2 (k := 171) rfl rfl
theorem wd_2_173 : Cond.methodLink "AccessLattice" 67 ⟨"AccessLattice", "isThing", "(I)Z"⟩ ∈ am_tbl := am_in2 (k := 173) rfl rfl
theorem wd_2_174 : Cond.static ⟨"AccessLattice", "isThing", "(I)Z"⟩ ∈ am_tbl := am_in2 (k := 174) rfl rfl
theorem wd_2_176 : Cond.methodLink "AccessLattice" 70 ⟨"AccessLattice", "between", "(III)Z"⟩ ∈ am_tbl := am_in2 (k := 176) rfl rfl
theorem wd_2_177 : Cond.static ⟨"AccessLattice", "between", "(III)Z"⟩ ∈ am_tbl := am_in2 (k := 177) rfl rfl
theorem wd_2_183 : Cond.methodLink "AccessLattice" 82 ⟨"AccessLattice$State", "stepsUp", "(II)I"⟩ ∈ am_tbl := am_in2 (k := 183) rfl rfl
theorem wd_2_184 : Cond.instanceMethod ⟨"AccessLattice$State", "stepsUp", "(II)I"⟩ ∈ am_tbl := am_in2 (k := 184) rfl rfl
theorem wd_2_185 : Cond.selects "AccessLattice$State" ⟨"AccessLattice$State", "stepsUp", "(II)I"⟩ ⟨"AccessLattice$State", "stepsUp", "(II)I"⟩ ∈ am_tbl := am_in2 (k := 185) rfl rfl
theorem wd_2_191 : Cond.methodLink "AccessLattice" 89 ⟨"AccessLattice", "isRole", "(I)Z"⟩ ∈ am_tbl := am_in2 (k := 191) rfl rfl
theorem wd_2_192 : Cond.static ⟨"AccessLattice", "isRole", "(I)Z"⟩ ∈ am_tbl := am_in2 (k := 192) rfl rfl
theorem wd_2_194 : Cond.methodLink "AccessLattice" 92 ⟨"AccessLattice", "addSenior", "(II)I"⟩ ∈ am_tbl := am_in2 (k := 194) rfl rfl
theorem wd_2_196 : Cond.instanceMethod ⟨"AccessLattice", "addSenior", "(II)I"⟩ ∈ am_tbl := am_in2 (k := 196) rfl rfl
theorem wd_2_198 : Cond.methodLink "AccessLattice" 104 ⟨"AccessLattice", "has", "(II)Z"⟩ ∈ am_tbl := am_in2 (k := 198) rfl rfl
theorem wd_2_199 : Cond.methodLink "AccessLattice" 108 ⟨"AccessLattice$Roles", "put", "(IIZ)V"⟩ ∈ am_tbl := am_in2 (k := 199) rfl rfl
theorem wd_2_200 : Cond.instanceMethod ⟨"AccessLattice$Roles", "put", "(IIZ)V"⟩ ∈ am_tbl := am_in2 (k := 200) rfl rfl
theorem wd_2_201 : Cond.selects "AccessLattice$Roles" ⟨"AccessLattice$Roles", "put", "(IIZ)V"⟩ ⟨"AccessLattice$Roles", "put", "(IIZ)V"⟩ ∈ am_tbl := am_in2 (k := 201) rfl rfl
theorem wd_2_203 : Cond.methodLink "AccessLattice" 119 ⟨"AccessLattice$View", "someBarred", "()Z"⟩ ∈ am_tbl := am_in2 (k := 203) rfl rfl
theorem wd_2_204 : Cond.instanceMethod ⟨"AccessLattice$View", "someBarred", "()Z"⟩ ∈ am_tbl := am_in2 (k := 204) rfl rfl
theorem wd_2_205 : Cond.selects "AccessLattice$View" ⟨"AccessLattice$View", "someBarred", "()Z"⟩ ⟨"AccessLattice$View", "someBarred", "()Z"⟩ ∈ am_tbl := am_in2 (k := 205) rfl rfl
theorem wd_2_207 : Cond.methodLink "AccessLattice$View" 118 ⟨"AccessLattice$View", "settle", "(I)V"⟩ ∈ am_tbl := am_in2 (k := 207) rfl rfl
theorem wd_2_208 : Cond.instanceMethod ⟨"AccessLattice$View", "settle", "(I)V"⟩ ∈ am_tbl := am_in2 (k := 208) rfl rfl
theorem wd_2_209 : Cond.selects "AccessLattice$View" ⟨"AccessLattice$View", "settle", "(I)V"⟩ ⟨"AccessLattice$View", "settle", "(I)V"⟩ ∈ am_tbl := am_in2 (k := 209) rfl rfl
theorem wd_2_211 : Cond.methodLink "AccessLattice$View" 49 ⟨"AccessLattice$Roles", "spread", "(I)I"⟩ ∈ am_tbl := am_in2 (k := 211) rfl rfl
theorem wd_2_212 : Cond.instanceMethod ⟨"AccessLattice$Roles", "spread", "(I)I"⟩ ∈ am_tbl := am_in2 (k := 212) rfl rfl
theorem wd_2_213 : Cond.selects "AccessLattice$Roles" ⟨"AccessLattice$Roles", "spread", "(I)I"⟩ ⟨"AccessLattice$Roles", "spread", "(I)I"⟩ ∈ am_tbl := am_in2 (k := 213) rfl rfl
theorem wd_2_215 : Cond.methodLink "AccessLattice$View" 55 ⟨"AccessLattice$View", "turnTo", "(I)V"⟩ ∈ am_tbl := am_in2 (k := 215) rfl rfl
theorem wd_2_216 : Cond.instanceMethod ⟨"AccessLattice$View", "turnTo", "(I)V"⟩ ∈ am_tbl := am_in2 (k := 216) rfl rfl
theorem wd_2_217 : Cond.selects "AccessLattice$View" ⟨"AccessLattice$View", "turnTo", "(I)V"⟩ ⟨"AccessLattice$View", "turnTo", "(I)V"⟩ ∈ am_tbl := am_in2 (k := 217) rfl rfl
theorem wd_2_219 : Cond.methodLink "AccessLattice$View" 63 ⟨"AccessLattice$Rules", "timely", "(I)I"⟩ ∈ am_tbl := am_in2 (k := 219) rfl rfl
theorem wd_2_220 : Cond.instanceMethod ⟨"AccessLattice$Rules", "timely", "(I)I"⟩ ∈ am_tbl := am_in2 (k := 220) rfl rfl
theorem wd_2_221 : Cond.selects "AccessLattice$Rules" ⟨"AccessLattice$Rules", "timely", "(I)I"⟩ ⟨"AccessLattice$Rules", "timely", "(I)I"⟩ ∈ am_tbl := am_in2 (k := 221) rfl rfl
theorem wd_2_224 : Cond.methodLink "AccessLattice$Rules" 67 ⟨"AccessLattice$Rules", "end", "(I)J"⟩ ∈ am_tbl := am_in2 (k := 224) rfl rfl
theorem wd_2_225 : Cond.instanceMethod ⟨"AccessLattice$Rules", "end", "(I)J"⟩ ∈ am_tbl := am_in2 (k := 225) rfl rfl
theorem wd_2_226 : Cond.selects "AccessLattice$Rules" ⟨"AccessLattice$Rules", "end", "(I)J"⟩ ⟨"AccessLattice$Rules", "end", "(I)J"⟩ ∈ am_tbl := am_in2 (k := 226) rfl rfl
theorem wd_2_228 : Cond.constantLong "AccessLattice$Rules" 61 (1099511627776 : Int64) ∈ am_tbl := am_in2 (k := 228) rfl rfl
theorem wd_2_229 : Cond.methodLink "AccessLattice$View" 67 ⟨"AccessLattice$View", "settleLoans", "(J)V"⟩ ∈ am_tbl := am_in2 (k := 229) rfl rfl
theorem wd_2_231 : Cond.instanceMethod ⟨"AccessLattice$View", "settleLoans", "(J)V"⟩ ∈ am_tbl := am_in2 (k := 231) rfl rfl
theorem wd_2_233 : Cond.methodLink "AccessLattice$View" 71 ⟨"java/lang/System", "arraycopy", "(Ljava/lang/Object;ILjava/lang/Object;II)V"⟩ ∈ am_tbl := am_in2 (k := 233) rfl rfl
theorem wd_2_234 : Cond.static ⟨"java/lang/System", "arraycopy", "(Ljava/lang/Object;ILjava/lang/Object;II)V"⟩ ∈ am_tbl := am_in2 (k := 234) rfl rfl
theorem wd_2_235 : Cond.native ⟨"java/lang/System", "arraycopy", "(Ljava/lang/Object;ILjava/lang/Object;II)V"⟩ ∈ am_tbl := am_in2 (k := 235) rfl rfl
theorem wd_2_238 : Cond.static ⟨"AccessLattice", "hasLong", "(JI)Z"⟩ ∈ am_tbl := am_in2 (k := 238) rfl rfl
theorem wd_3_0 : Cond.methodLink "AccessLattice$View" 121 ⟨"AccessLattice$State", "isBarred", "(I)Z"⟩ ∈ am_tbl := am_in3 (k := 0) rfl rfl
theorem wd_3_1 : Cond.instanceMethod ⟨"AccessLattice$State", "isBarred", "(I)Z"⟩ ∈ am_tbl := am_in3 (k := 1) rfl rfl
theorem wd_3_2 : Cond.selects "AccessLattice$State" ⟨"AccessLattice$State", "isBarred", "(I)Z"⟩ ⟨"AccessLattice$State", "isBarred", "(I)Z"⟩ ∈ am_tbl := am_in3 (k := 2) rfl rfl
theorem wd_3_9 : Cond.methodLink "AccessLattice" 123 ⟨"AccessLattice", "isUser", "(I)Z"⟩ ∈ am_tbl := am_in3 (k := 9) rfl rfl
theorem wd_3_10 : Cond.static ⟨"AccessLattice", "isUser", "(I)Z"⟩ ∈ am_tbl := am_in3 (k := 10) rfl rfl
theorem wd_3_12 : Cond.methodLink "AccessLattice" 129 ⟨"java/lang/Integer", "bitCount", "(I)I"⟩ ∈ am_tbl := am_in3 (k := 12) rfl rfl
theorem wd_3_13 : Cond.static ⟨"java/lang/Integer", "bitCount", "(I)I"⟩ ∈ am_tbl := am_in3 (k := 13) rfl rfl
theorem wd_3_15 : Cond.constant "java/lang/Integer" 265 (1431655765 : Int32) ∈ am_tbl := am_in3 (k := 15) rfl rfl
theorem wd_3_16 : Cond.constant "java/lang/Integer" 266 (858993459 : Int32) ∈ am_tbl := am_in3 (k := 16) rfl rfl
theorem wd_3_17 : Cond.constant "java/lang/Integer" 267 (252645135 : Int32) ∈ am_tbl := am_in3 (k := 17) rfl rfl
theorem wd_3_22 : Cond.methodLink "AccessLattice" 141 ⟨"AccessLattice$State", "toggleBarred", "(II)V"⟩ ∈ am_tbl := am_in3 (k := 22) rfl rfl
theorem wd_3_23 : Cond.instanceMethod ⟨"AccessLattice$State", "toggleBarred", "(II)V"⟩ ∈ am_tbl := am_in3 (k := 23) rfl rfl
theorem wd_3_24 : Cond.selects "AccessLattice$State" ⟨"AccessLattice$State", "toggleBarred", "(II)V"⟩ ⟨"AccessLattice$State", "toggleBarred", "(II)V"⟩ ∈ am_tbl := am_in3 (k := 24) rfl rfl
theorem wd_3_34 : Cond.methodLink "AccessLattice" 157 ⟨"AccessLattice$View", "settle", "(I)V"⟩ ∈ am_tbl := am_in3 (k := 34) rfl rfl
theorem wd_3_35 : Cond.methodLink "AccessLattice" 164 ⟨"AccessLattice$View", "sourceFor", "(III)I"⟩ ∈ am_tbl := am_in3 (k := 35) rfl rfl
theorem wd_3_36 : Cond.instanceMethod ⟨"AccessLattice$View", "sourceFor", "(III)I"⟩ ∈ am_tbl := am_in3 (k := 36) rfl rfl
theorem wd_3_37 : Cond.selects "AccessLattice$View" ⟨"AccessLattice$View", "sourceFor", "(III)I"⟩ ⟨"AccessLattice$View", "sourceFor", "(III)I"⟩ ∈ am_tbl := am_in3 (k := 37) rfl rfl
theorem wd_3_39 : Cond.methodLink "AccessLattice$View" 125 ⟨"AccessLattice$View", "isStanding", "(I)Z"⟩ ∈ am_tbl := am_in3 (k := 39) rfl rfl
theorem wd_3_40 : Cond.instanceMethod ⟨"AccessLattice$View", "isStanding", "(I)Z"⟩ ∈ am_tbl := am_in3 (k := 40) rfl rfl
theorem wd_3_41 : Cond.selects "AccessLattice$View" ⟨"AccessLattice$View", "isStanding", "(I)Z"⟩ ⟨"AccessLattice$View", "isStanding", "(I)Z"⟩ ∈ am_tbl := am_in3 (k := 41) rfl rfl
theorem wd_3_43 : Cond.methodLink "AccessLattice" 171 ⟨"AccessLattice$State", "isBarred", "(I)Z"⟩ ∈ am_tbl := am_in3 (k := 43) rfl rfl
theorem wd_3_48 : Cond.methodLink "AccessLattice" 192 ⟨"AccessLattice", "isLoan", "(I)Z"⟩ ∈ am_tbl := am_in3 (k := 48) rfl rfl
theorem wd_3_50 : Cond.instanceMethod ⟨"AccessLattice", "isLoan", "(I)Z"⟩ ∈ am_tbl := am_in3 (k := 50) rfl rfl
theorem wd_3_52 : Cond.methodLink "AccessLattice" 195 ⟨"AccessLattice$View", "isStanding", "(I)Z"⟩ ∈ am_tbl := am_in3 (k := 52) rfl rfl
theorem wd_3_53 : Cond.methodLink "AccessLattice" 202 ⟨"java/lang/Long", "bitCount", "(J)I"⟩ ∈ am_tbl := am_in3 (k := 53) rfl rfl
theorem wd_3_54 : Cond.static ⟨"java/lang/Long", "bitCount", "(J)I"⟩ ∈ am_tbl := am_in3 (k := 54) rfl rfl
theorem wd_3_56 : Cond.constantLong "java/lang/Long" 314 (6148914691236517205 : Int64) ∈ am_tbl := am_in3 (k := 56) rfl rfl
theorem wd_3_57 : Cond.constantLong "java/lang/Long" 316 (3689348814741910323 : Int64) ∈ am_tbl := am_in3 (k := 57) rfl rfl
theorem wd_3_58 : Cond.constantLong "java/lang/Long" 318 (1085102592571150095 : Int64) ∈ am_tbl := am_in3 (k := 58) rfl rfl
theorem wd_3_75 : Cond.methodLink "AccessLattice" 223 ⟨"AccessLattice$Reader", "readCondition", "(LAccessLattice$Tape;)I"⟩ ∈ am_tbl := am_in3 (k := 75) rfl rfl
theorem wd_3_76 : Cond.instanceMethod ⟨"AccessLattice$Reader", "readCondition", "(LAccessLattice$Tape;)I"⟩ ∈ am_tbl := am_in3 (k := 76) rfl rfl
theorem wd_3_77 : Cond.selects "AccessLattice$Reader" ⟨"AccessLattice$Reader", "readCondition", "(LAccessLattice$Tape;)I"⟩ ⟨"AccessLattice$Reader", "readCondition", "(LAccessLattice$Tape;)I"⟩ ∈ am_tbl := am_in3 (k := 77) rfl rfl
theorem wd_3_79 : Cond.methodLink "AccessLattice$Reader" 38 ⟨"AccessLattice$Reader", "start", "()V"⟩ ∈ am_tbl := am_in3 (k := 79) rfl rfl
theorem wd_3_81 : Cond.instanceMethod ⟨"AccessLattice$Reader", "start", "()V"⟩ ∈ am_tbl := am_in3 (k := 81) rfl rfl
theorem wd_3_83 : Cond.methodLink "AccessLattice$Reader" 46 ⟨"AccessLattice$Reader", "readOperand", "(LAccessLattice$Tape;)V"⟩ ∈ am_tbl := am_in3 (k := 83) rfl rfl
theorem wd_3_85 : Cond.instanceMethod ⟨"AccessLattice$Reader", "readOperand", "(LAccessLattice$Tape;)V"⟩ ∈ am_tbl := am_in3 (k := 85) rfl rfl
theorem wd_3_87 : Cond.methodLink "AccessLattice$Reader" 50 ⟨"AccessLattice$Tape", "at", "(I)I"⟩ ∈ am_tbl := am_in3 (k := 87) rfl rfl
theorem wd_3_88 : Cond.instanceMethod ⟨"AccessLattice$Tape", "at", "(I)I"⟩ ∈ am_tbl := am_in3 (k := 88) rfl rfl
theorem wd_3_89 : Cond.selects "AccessLattice$Tape" ⟨"AccessLattice$Tape", "at", "(I)I"⟩ ⟨"AccessLattice$Tape", "at", "(I)I"⟩ ∈ am_tbl := am_in3 (k := 89) rfl rfl
theorem wd_3_91 : Cond.methodLink "AccessLattice$Reader" 61 ⟨"AccessLattice$Reader", "openWith", "(I)V"⟩ ∈ am_tbl := am_in3 (k := 91) rfl rfl
theorem wd_3_93 : Cond.instanceMethod ⟨"AccessLattice$Reader", "openWith", "(I)V"⟩ ∈ am_tbl := am_in3 (k := 93) rfl rfl
theorem wd_3_95 : Cond.methodLink "AccessLattice$Reader" 74 ⟨"AccessLattice$Reader", "push", "(I)V"⟩ ∈ am_tbl := am_in3 (k := 95) rfl rfl
theorem wd_3_97 : Cond.instanceMethod ⟨"AccessLattice$Reader", "push", "(I)V"⟩ ∈ am_tbl := am_in3 (k := 97) rfl rfl
theorem wd_3_99 : Cond.methodLink "AccessLattice$Reader" 64 ⟨"AccessLattice$Reader", "readAttribute", "(II)V"⟩ ∈ am_tbl := am_in3 (k := 99) rfl rfl
theorem wd_3_101 : Cond.instanceMethod ⟨"AccessLattice$Reader", "readAttribute", "(II)V"⟩ ∈ am_tbl := am_in3 (k := 101) rfl rfl
theorem wd_3_104 : Cond.methodLink "AccessLattice$Reader" 68 ⟨"AccessLattice$Reader", "takeOperand", "(II)V"⟩ ∈ am_tbl := am_in3 (k := 104) rfl rfl
theorem wd_3_106 : Cond.instanceMethod ⟨"AccessLattice$Reader", "takeOperand", "(II)V"⟩ ∈ am_tbl := am_in3 (k := 106) rfl rfl
theorem wd_3_108 : Cond.methodLink "AccessLattice$Reader" 85 ⟨"AccessLattice$Reader", "emit", "(I)V"⟩ ∈ am_tbl := am_in3 (k := 108) rfl rfl
theorem wd_3_110 : Cond.instanceMethod ⟨"AccessLattice$Reader", "emit", "(I)V"⟩ ∈ am_tbl := am_in3 (k := 110) rfl rfl
theorem wd_3_112 : Cond.methodLink "AccessLattice$Reader" 88 ⟨"AccessLattice$Reader", "endOperand", "()V"⟩ ∈ am_tbl := am_in3 (k := 112) rfl rfl
theorem wd_3_114 : Cond.instanceMethod ⟨"AccessLattice$Reader", "endOperand", "()V"⟩ ∈ am_tbl := am_in3 (k := 114) rfl rfl
theorem wd_3_116 : Cond.methodLink "AccessLattice$Reader" 91 ⟨"AccessLattice$Reader", "topMark", "()I"⟩ ∈ am_tbl := am_in3 (k := 116) rfl rfl
theorem wd_3_118 : Cond.instanceMethod ⟨"AccessLattice$Reader", "topMark", "()I"⟩ ∈ am_tbl := am_in3 (k := 118) rfl rfl
theorem wd_3_120 : Cond.methodLink "AccessLattice$Reader" 71 ⟨"AccessLattice$Reader", "readNumber", "(LAccessLattice$Tape;)V"⟩ ∈ am_tbl := am_in3 (k := 120) rfl rfl
theorem wd_3_122 : Cond.instanceMethod ⟨"AccessLattice$Reader", "readNumber", "(LAccessLattice$Tape;)V"⟩ ∈ am_tbl := am_in3 (k := 122) rfl rfl
theorem wd_3_124 : Cond.methodLink "AccessLattice$Reader" 81 ⟨"AccessLattice$Tape", "isFigure", "(I)Z"⟩ ∈ am_tbl := am_in3 (k := 124) rfl rfl
theorem wd_3_125 : Cond.instanceMethod ⟨"AccessLattice$Tape", "isFigure", "(I)Z"⟩ ∈ am_tbl := am_in3 (k := 125) rfl rfl
theorem wd_3_126 : Cond.selects "AccessLattice$Tape" ⟨"AccessLattice$Tape", "isFigure", "(I)Z"⟩ ⟨"AccessLattice$Tape", "isFigure", "(I)Z"⟩ ∈ am_tbl := am_in3 (k := 126) rfl rfl
theorem wd_3_128 : Cond.methodLink "AccessLattice$Tape" 19 ⟨"AccessLattice$Tape", "at", "(I)I"⟩ ∈ am_tbl := am_in3 (k := 128) rfl rfl
theorem wd_3_130 : Cond.methodLink "AccessLattice$Reader" 54 ⟨"AccessLattice$Reader", "readOperator", "(I)V"⟩ ∈ am_tbl := am_in3 (k := 130) rfl rfl
theorem wd_3_132 : Cond.instanceMethod ⟨"AccessLattice$Reader", "readOperator", "(I)V"⟩ ∈ am_tbl := am_in3 (k := 132) rfl rfl
theorem wd_3_134 : Cond.methodLink "AccessLattice$Reader" 95 ⟨"AccessLattice$Reader", "rankOf", "(I)I"⟩ ∈ am_tbl := am_in3 (k := 134) rfl rfl
theorem wd_3_135 : Cond.static ⟨"AccessLattice$Reader", "rankOf", "(I)I"⟩ ∈ am_tbl := am_in3 (k := 135) rfl rfl
theorem wd_3_137 : Cond.methodLink "AccessLattice$Reader" 58 ⟨"AccessLattice$Reader", "popDownTo", "(I)V"⟩ ∈ am_tbl := am_in3 (k := 137) rfl rfl
theorem wd_3_139 : Cond.instanceMethod ⟨"AccessLattice$Reader", "popDownTo", "(I)V"⟩ ∈ am_tbl := am_in3 (k := 139) rfl rfl
theorem wd_3_141 : Cond.methodLink "AccessLattice$Reader" 98 ⟨"java/lang/Math", "max", "(II)I"⟩ ∈ am_tbl := am_in3 (k := 141) rfl rfl
theorem wd_3_142 : Cond.static ⟨"java/lang/Math", "max", "(II)I"⟩ ∈ am_tbl := am_in3 (k := 142) rfl rfl
theorem wd_3_144 : Cond.methodLink "AccessLattice" 245 ⟨"AccessLattice$Rules", "keepCode", "(I[II)V"⟩ ∈ am_tbl := am_in3 (k := 144) rfl rfl
theorem wd_3_145 : Cond.instanceMethod ⟨"AccessLattice$Rules", "keepCode", "(I[II)V"⟩ ∈ am_tbl := am_in3 (k := 145) rfl rfl
theorem wd_3_146 : Cond.selects "AccessLattice$Rules" ⟨"AccessLattice$Rules", "keepCode", "(I[II)V"⟩ ⟨"AccessLattice$Rules", "keepCode", "(I[II)V"⟩ ∈ am_tbl := am_in3 (k := 146) rfl rfl
theorem wd_3_148 : Cond.methodLink "AccessLattice$Rules" 49 ⟨"java/lang/Math", "min", "(II)I"⟩ ∈ am_tbl := am_in3 (k := 148) rfl rfl
theorem wd_3_149 : Cond.static ⟨"java/lang/Math", "min", "(II)I"⟩ ∈ am_tbl := am_in3 (k := 149) rfl rfl
theorem wd_3_151 : Cond.methodLink "AccessLattice$Rules" 55 ⟨"java/lang/System", "arraycopy", "(Ljava/lang/Object;ILjava/lang/Object;II)V"⟩ ∈ am_tbl := am_in3 (k := 151) rfl rfl
theorem wd_3_152 : Cond.methodLink "AccessLattice" 249 ⟨"AccessLattice$Rules", "open", "(IZZ)V"⟩ ∈ am_tbl := am_in3 (k := 152) rfl rfl
theorem wd_3_153 : Cond.instanceMethod ⟨"AccessLattice$Rules", "open", "(IZZ)V"⟩ ∈ am_tbl := am_in3 (k := 153) rfl rfl
theorem wd_3_154 : Cond.selects "AccessLattice$Rules" ⟨"AccessLattice$Rules", "open", "(IZZ)V"⟩ ⟨"AccessLattice$Rules", "open", "(IZZ)V"⟩ ∈ am_tbl := am_in3 (k := 154) rfl rfl
theorem wd_3_160 : Cond.methodLink "AccessLattice" 253 ⟨"AccessLattice", "isRule", "(I)Z"⟩ ∈ am_tbl := am_in3 (k := 160) rfl rfl
theorem wd_3_162 : Cond.instanceMethod ⟨"AccessLattice", "isRule", "(I)Z"⟩ ∈ am_tbl := am_in3 (k := 162) rfl rfl
theorem wd_3_180 : Cond.methodLink "AccessLattice" 267 ⟨"AccessLattice$Reader", "readPairs", "(LAccessLattice$Tape;)I"⟩ ∈ am_tbl := am_in3 (k := 180) rfl rfl
theorem wd_3_181 : Cond.instanceMethod ⟨"AccessLattice$Reader", "readPairs", "(LAccessLattice$Tape;)I"⟩ ∈ am_tbl := am_in3 (k := 181) rfl rfl
theorem wd_3_182 : Cond.selects "AccessLattice$Reader" ⟨"AccessLattice$Reader", "readPairs", "(LAccessLattice$Tape;)I"⟩ ⟨"AccessLattice$Reader", "readPairs", "(LAccessLattice$Tape;)I"⟩ ∈ am_tbl := am_in3 (k := 182) rfl rfl
theorem wd_3_184 : Cond.methodLink "AccessLattice$Reader" 104 ⟨"AccessLattice$Reader", "readMark", "(LAccessLattice$Tape;I)V"⟩ ∈ am_tbl := am_in3 (k := 184) rfl rfl
theorem wd_3_186 : Cond.instanceMethod ⟨"AccessLattice$Reader", "readMark", "(LAccessLattice$Tape;I)V"⟩ ∈ am_tbl := am_in3 (k := 186) rfl rfl
theorem wd_3_188 : Cond.methodLink "AccessLattice$Reader" 108 ⟨"AccessLattice$Reader", "readRole", "(LAccessLattice$Tape;)V"⟩ ∈ am_tbl := am_in3 (k := 188) rfl rfl
theorem wd_3_190 : Cond.instanceMethod ⟨"AccessLattice$Reader", "readRole", "(LAccessLattice$Tape;)V"⟩ ∈ am_tbl := am_in3 (k := 190) rfl rfl
theorem wd_3_197 : Cond.methodLink "AccessLattice" 270 ⟨"AccessLattice", "isAsked", "(III)Z"⟩ ∈ am_tbl := am_in3 (k := 197) rfl rfl
theorem wd_3_198 : Cond.static ⟨"AccessLattice", "isAsked", "(III)Z"⟩ ∈ am_tbl := am_in3 (k := 198) rfl rfl
theorem wd_3_200 : Cond.methodLink "AccessLattice" 322 ⟨"AccessLattice", "isAct", "(I)Z"⟩ ∈ am_tbl := am_in3 (k := 200) rfl rfl
theorem wd_3_201 : Cond.static ⟨"AccessLattice", "isAct", "(I)Z"⟩ ∈ am_tbl := am_in3 (k := 201) rfl rfl
theorem wd_3_203 : Cond.methodLink "AccessLattice" 273 ⟨"AccessLattice$View", "rulesOn", "(II)I"⟩ ∈ am_tbl := am_in3 (k := 203) rfl rfl
theorem wd_3_204 : Cond.instanceMethod ⟨"AccessLattice$View", "rulesOn", "(II)I"⟩ ∈ am_tbl := am_in3 (k := 204) rfl rfl
theorem wd_3_205 : Cond.selects "AccessLattice$View" ⟨"AccessLattice$View", "rulesOn", "(II)I"⟩ ⟨"AccessLattice$View", "rulesOn", "(II)I"⟩ ∈ am_tbl := am_in3 (k := 205) rfl rfl
theorem wd_3_207 : Cond.methodLink "AccessLattice$View" 138 ⟨"AccessLattice$State", "stepsUp", "(II)I"⟩ ∈ am_tbl := am_in3 (k := 207) rfl rfl
theorem wd_3_208 : Cond.methodLink "AccessLattice" 276 ⟨"AccessLattice$View", "decider", "(IIII)I"⟩ ∈ am_tbl := am_in3 (k := 208) rfl rfl
theorem wd_3_209 : Cond.instanceMethod ⟨"AccessLattice$View", "decider", "(IIII)I"⟩ ∈ am_tbl := am_in3 (k := 209) rfl rfl
theorem wd_3_210 : Cond.selects "AccessLattice$View" ⟨"AccessLattice$View", "decider", "(IIII)I"⟩ ⟨"AccessLattice$View", "decider", "(IIII)I"⟩ ∈ am_tbl := am_in3 (k := 210) rfl rfl
theorem wd_3_212 : Cond.methodLink "AccessLattice$View" 149 ⟨"AccessLattice$Rules", "ofRoles", "(II)I"⟩ ∈ am_tbl := am_in3 (k := 212) rfl rfl
theorem wd_3_213 : Cond.instanceMethod ⟨"AccessLattice$Rules", "ofRoles", "(II)I"⟩ ∈ am_tbl := am_in3 (k := 213) rfl rfl
theorem wd_3_214 : Cond.selects "AccessLattice$Rules" ⟨"AccessLattice$Rules", "ofRoles", "(II)I"⟩ ⟨"AccessLattice$Rules", "ofRoles", "(II)I"⟩ ∈ am_tbl := am_in3 (k := 214) rfl rfl
theorem wd_3_216 : Cond.methodLink "AccessLattice$View" 152 ⟨"AccessLattice$View", "met", "(IIII)I"⟩ ∈ am_tbl := am_in3 (k := 216) rfl rfl
theorem wd_3_217 : Cond.instanceMethod ⟨"AccessLattice$View", "met", "(IIII)I"⟩ ∈ am_tbl := am_in3 (k := 217) rfl rfl
theorem wd_3_218 : Cond.selects "AccessLattice$View" ⟨"AccessLattice$View", "met", "(IIII)I"⟩ ⟨"AccessLattice$View", "met", "(IIII)I"⟩ ∈ am_tbl := am_in3 (k := 218) rfl rfl
theorem wd_3_220 : Cond.methodLink "AccessLattice$View" 145 ⟨"AccessLattice$View", "meets", "(IIII)Z"⟩ ∈ am_tbl := am_in3 (k := 220) rfl rfl
theorem wd_3_222 : Cond.instanceMethod ⟨"AccessLattice$View", "meets", "(IIII)Z"⟩ ∈ am_tbl := am_in3 (k := 222) rfl rfl
theorem wd_3_224 : Cond.methodLink "AccessLattice$View" 171 ⟨"java/lang/Math", "min", "(II)I"⟩ ∈ am_tbl := am_in3 (k := 224) rfl rfl
theorem wd_3_225 : Cond.methodLink "AccessLattice$View" 185 ⟨"AccessLattice$View", "work", "(II)I"⟩ ∈ am_tbl := am_in3 (k := 225) rfl rfl
theorem wd_3_227 : Cond.instanceMethod ⟨"AccessLattice$View", "work", "(II)I"⟩ ∈ am_tbl := am_in3 (k := 227) rfl rfl
theorem wd_3_230 : Cond.methodLink "AccessLattice$View" 192 ⟨"AccessLattice$View", "combined", "(III)I"⟩ ∈ am_tbl := am_in3 (k := 230) rfl rfl
theorem wd_3_231 : Cond.static ⟨"AccessLattice$View", "combined", "(III)I"⟩ ∈ am_tbl := am_in3 (k := 231) rfl rfl
theorem wd_3_233 : Cond.methodLink "AccessLattice$View" 156 ⟨"AccessLattice$Rules", "first", "(I)I"⟩ ∈ am_tbl := am_in3 (k := 233) rfl rfl
theorem wd_3_234 : Cond.instanceMethod ⟨"AccessLattice$Rules", "first", "(I)I"⟩ ∈ am_tbl := am_in3 (k := 234) rfl rfl
theorem wd_3_235 : Cond.selects "AccessLattice$Rules" ⟨"AccessLattice$Rules", "first", "(I)I"⟩ ⟨"AccessLattice$Rules", "first", "(I)I"⟩ ∈ am_tbl := am_in3 (k := 235) rfl rfl
theorem wd_3_237 : Cond.methodLink "AccessLattice" 280 ⟨"AccessLattice$Rules", "answerBy", "(I)I"⟩ ∈ am_tbl := am_in3 (k := 237) rfl rfl
theorem wd_3_238 : Cond.instanceMethod ⟨"AccessLattice$Rules", "answerBy", "(I)I"⟩ ∈ am_tbl := am_in3 (k := 238) rfl rfl
theorem wd_3_239 : Cond.selects "AccessLattice$Rules" ⟨"AccessLattice$Rules", "answerBy", "(I)I"⟩ ⟨"AccessLattice$Rules", "answerBy", "(I)I"⟩ ∈ am_tbl := am_in3 (k := 239) rfl rfl
theorem wd_4_1 : Cond.methodLink "AccessLattice" 283 ⟨"AccessLattice", "tellGrounds", "(II)V"⟩ ∈ am_tbl := am_in4 (k := 1) rfl rfl
theorem wd_4_3 : Cond.instanceMethod ⟨"AccessLattice", "tellGrounds", "(II)V"⟩ ∈ am_tbl := am_in4 (k := 3) rfl rfl
theorem wd_4_5 : Cond.methodLink "AccessLattice" 294 ⟨"AccessLattice$Grounds", "add", "(II)V"⟩ ∈ am_tbl := am_in4 (k := 5) rfl rfl
theorem wd_4_6 : Cond.instanceMethod ⟨"AccessLattice$Grounds", "add", "(II)V"⟩ ∈ am_tbl := am_in4 (k := 6) rfl rfl
theorem wd_4_7 : Cond.selects "AccessLattice$Grounds" ⟨"AccessLattice$Grounds", "add", "(II)V"⟩ ⟨"AccessLattice$Grounds", "add", "(II)V"⟩ ∈ am_tbl := am_in4 (k := 7) rfl rfl
theorem wd_4_9 : Cond.methodLink "AccessLattice" 300 ⟨"AccessLattice$View", "lentTo", "(I)I"⟩ ∈ am_tbl := am_in4 (k := 9) rfl rfl
theorem wd_4_10 : Cond.instanceMethod ⟨"AccessLattice$View", "lentTo", "(I)I"⟩ ∈ am_tbl := am_in4 (k := 10) rfl rfl
theorem wd_4_11 : Cond.selects "AccessLattice$View" ⟨"AccessLattice$View", "lentTo", "(I)I"⟩ ⟨"AccessLattice$View", "lentTo", "(I)I"⟩ ∈ am_tbl := am_in4 (k := 11) rfl rfl
theorem wd_4_13 : Cond.methodLink "AccessLattice" 306 ⟨"AccessLattice$Roles", "fewest", "([III[I)I"⟩ ∈ am_tbl := am_in4 (k := 13) rfl rfl
theorem wd_4_14 : Cond.instanceMethod ⟨"AccessLattice$Roles", "fewest", "([III[I)I"⟩ ∈ am_tbl := am_in4 (k := 14) rfl rfl
theorem wd_4_15 : Cond.selects "AccessLattice$Roles" ⟨"AccessLattice$Roles", "fewest", "([III[I)I"⟩ ⟨"AccessLattice$Roles", "fewest", "([III[I)I"⟩ ∈ am_tbl := am_in4 (k := 15) rfl rfl
theorem wd_4_17 : Cond.methodLink "AccessLattice$Roles" 44 ⟨"AccessLattice$Roles", "walk", "([III[I)I"⟩ ∈ am_tbl := am_in4 (k := 17) rfl rfl
theorem wd_4_19 : Cond.instanceMethod ⟨"AccessLattice$Roles", "walk", "([III[I)I"⟩ ∈ am_tbl := am_in4 (k := 19) rfl rfl
theorem wd_4_21 : Cond.methodLink "AccessLattice$Roles" 48 ⟨"AccessLattice$Roles", "nearest", "(II)I"⟩ ∈ am_tbl := am_in4 (k := 21) rfl rfl
theorem wd_4_23 : Cond.instanceMethod ⟨"AccessLattice$Roles", "nearest", "(II)I"⟩ ∈ am_tbl := am_in4 (k := 23) rfl rfl
theorem wd_4_25 : Cond.methodLink "AccessLattice" 310 ⟨"AccessLattice$View", "leastLoan", "(II)I"⟩ ∈ am_tbl := am_in4 (k := 25) rfl rfl
theorem wd_4_26 : Cond.instanceMethod ⟨"AccessLattice$View", "leastLoan", "(II)I"⟩ ∈ am_tbl := am_in4 (k := 26) rfl rfl
theorem wd_4_27 : Cond.selects "AccessLattice$View" ⟨"AccessLattice$View", "leastLoan", "(II)I"⟩ ⟨"AccessLattice$View", "leastLoan", "(II)I"⟩ ∈ am_tbl := am_in4 (k := 27) rfl rfl
theorem wd_4_29 : Cond.methodLink "AccessLattice" 313 ⟨"AccessLattice", "tellLoans", "(I)V"⟩ ∈ am_tbl := am_in4 (k := 29) rfl rfl
theorem wd_4_31 : Cond.instanceMethod ⟨"AccessLattice", "tellLoans", "(I)V"⟩ ∈ am_tbl := am_in4 (k := 31) rfl rfl
theorem wd_4_33 : Cond.methodLink "AccessLattice" 286 ⟨"AccessLattice$Rules", "useUp", "(I)V"⟩ ∈ am_tbl := am_in4 (k := 33) rfl rfl
theorem wd_4_34 : Cond.instanceMethod ⟨"AccessLattice$Rules", "useUp", "(I)V"⟩ ∈ am_tbl := am_in4 (k := 34) rfl rfl
theorem wd_4_35 : Cond.selects "AccessLattice$Rules" ⟨"AccessLattice$Rules", "useUp", "(I)V"⟩ ⟨"AccessLattice$Rules", "useUp", "(I)V"⟩ ∈ am_tbl := am_in4 (k := 35) rfl rfl
theorem wd_4_38 : Cond.methodLink "AccessLattice" 289 ⟨"AccessLattice$State", "note", "(IIIII)V"⟩ ∈ am_tbl := am_in4 (k := 38) rfl rfl
theorem wd_4_39 : Cond.instanceMethod ⟨"AccessLattice$State", "note", "(IIIII)V"⟩ ∈ am_tbl := am_in4 (k := 39) rfl rfl
theorem wd_4_40 : Cond.selects "AccessLattice$State" ⟨"AccessLattice$State", "note", "(IIIII)V"⟩ ⟨"AccessLattice$State", "note", "(IIIII)V"⟩ ∈ am_tbl := am_in4 (k := 40) rfl rfl
theorem wd_4_42 : Cond.methodLink "AccessLattice$State" 68 ⟨"java/lang/System", "arraycopy", "(Ljava/lang/Object;ILjava/lang/Object;II)V"⟩ ∈ am_tbl := am_in4 (k := 42) rfl rfl
theorem wd_4_51 : Cond.methodLink "AccessLattice" 325 ⟨"AccessLattice$View", "usersWith", "(III)I"⟩ ∈ am_tbl := am_in4 (k := 51) rfl rfl
theorem wd_4_52 : Cond.instanceMethod ⟨"AccessLattice$View", "usersWith", "(III)I"⟩ ∈ am_tbl := am_in4 (k := 52) rfl rfl
theorem wd_4_53 : Cond.selects "AccessLattice$View" ⟨"AccessLattice$View", "usersWith", "(III)I"⟩ ⟨"AccessLattice$View", "usersWith", "(III)I"⟩ ∈ am_tbl := am_in4 (k := 53) rfl rfl
theorem wd_4_55 : Cond.methodLink "AccessLattice$View" 159 ⟨"AccessLattice$View", "rulesOn", "(II)I"⟩ ∈ am_tbl := am_in4 (k := 55) rfl rfl
theorem wd_4_56 : Cond.methodLink "AccessLattice$View" 162 ⟨"AccessLattice$View", "decider", "(IIII)I"⟩ ∈ am_tbl := am_in4 (k := 56) rfl rfl
theorem wd_4_57 : Cond.methodLink "AccessLattice$View" 165 ⟨"AccessLattice$Rules", "answerBy", "(I)I"⟩ ∈ am_tbl := am_in4 (k := 57) rfl rfl
theorem wd_4_62 : Cond.methodLink "AccessLattice" 328 ⟨"AccessLattice$View", "answer", "(III)I"⟩ ∈ am_tbl := am_in4 (k := 62) rfl rfl
theorem wd_4_63 : Cond.instanceMethod ⟨"AccessLattice$View", "answer", "(III)I"⟩ ∈ am_tbl := am_in4 (k := 63) rfl rfl
theorem wd_4_64 : Cond.selects "AccessLattice$View" ⟨"AccessLattice$View", "answer", "(III)I"⟩ ⟨"AccessLattice$View", "answer", "(III)I"⟩ ∈ am_tbl := am_in4 (k := 64) rfl rfl
theorem wd_4_70 : Cond.methodLink "AccessLattice" 331 ⟨"AccessLattice$View", "turnTo", "(I)V"⟩ ∈ am_tbl := am_in4 (k := 70) rfl rfl
theorem wd_4_75 : Cond.methodLink "AccessLattice" 334 ⟨"AccessLattice$Search", "leastChange", "(LAccessLattice$View;III)I"⟩ ∈ am_tbl := am_in4 (k := 75) rfl rfl
theorem wd_4_76 : Cond.instanceMethod ⟨"AccessLattice$Search", "leastChange", "(LAccessLattice$View;III)I"⟩ ∈ am_tbl := am_in4 (k := 76) rfl rfl
theorem wd_4_77 : Cond.selects "AccessLattice$Search" ⟨"AccessLattice$Search", "leastChange", "(LAccessLattice$View;III)I"⟩ ⟨"AccessLattice$Search", "leastChange", "(LAccessLattice$View;III)I"⟩ ∈ am_tbl := am_in4 (k := 77) rfl rfl
theorem wd_4_79 : Cond.methodLink "AccessLattice$Search" 44 ⟨"AccessLattice$View", "rulesOn", "(II)I"⟩ ∈ am_tbl := am_in4 (k := 79) rfl rfl
theorem wd_4_80 : Cond.methodLink "AccessLattice$Search" 48 ⟨"AccessLattice$View", "met", "(IIII)I"⟩ ∈ am_tbl := am_in4 (k := 80) rfl rfl
theorem wd_4_81 : Cond.methodLink "AccessLattice$Search" 60 ⟨"AccessLattice$Search", "addOptions", "(IIJ)V"⟩ ∈ am_tbl := am_in4 (k := 81) rfl rfl
theorem wd_4_83 : Cond.instanceMethod ⟨"AccessLattice$Search", "addOptions", "(IIJ)V"⟩ ∈ am_tbl := am_in4 (k := 83) rfl rfl
theorem wd_4_86 : Cond.methodLink "AccessLattice$Search" 64 ⟨"AccessLattice$Search", "fewest", "(LAccessLattice$View;IIZ)I"⟩ ∈ am_tbl := am_in4 (k := 86) rfl rfl
theorem wd_4_88 : Cond.instanceMethod ⟨"AccessLattice$Search", "fewest", "(LAccessLattice$View;IIZ)I"⟩ ∈ am_tbl := am_in4 (k := 88) rfl rfl
theorem wd_4_90 : Cond.constant "AccessLattice$Search" 86 (1000000 : Int32) ∈ am_tbl := am_in4 (k := 90) rfl rfl
theorem wd_4_91 : Cond.methodLink "AccessLattice$Search" 87 ⟨"AccessLattice$Search", "suits", "(LAccessLattice$View;IIIZ)Z"⟩ ∈ am_tbl := am_in4 (k := 91) rfl rfl
theorem wd_4_93 : Cond.instanceMethod ⟨"AccessLattice$Search", "suits", "(LAccessLattice$View;IIIZ)Z"⟩ ∈ am_tbl := am_in4 (k := 93) rfl rfl
theorem wd_4_95 : Cond.methodLink "AccessLattice$Search" 95 ⟨"AccessLattice$Search", "sumUp", "(I)V"⟩ ∈ am_tbl := am_in4 (k := 95) rfl rfl
theorem wd_4_97 : Cond.instanceMethod ⟨"AccessLattice$Search", "sumUp", "(I)V"⟩ ∈ am_tbl := am_in4 (k := 97) rfl rfl
theorem wd_4_99 : Cond.methodLink "AccessLattice$Search" 112 ⟨"AccessLattice$Search", "chosen", "(I)I"⟩ ∈ am_tbl := am_in4 (k := 99) rfl rfl
theorem wd_4_100 : Cond.instanceMethod ⟨"AccessLattice$Search", "chosen", "(I)I"⟩ ∈ am_tbl := am_in4 (k := 100) rfl rfl
theorem wd_4_101 : Cond.selects "AccessLattice$Search" ⟨"AccessLattice$Search", "chosen", "(I)I"⟩ ⟨"AccessLattice$Search", "chosen", "(I)I"⟩ ∈ am_tbl := am_in4 (k := 101) rfl rfl
theorem wd_4_104 : Cond.methodLink "AccessLattice$Search" 99 ⟨"AccessLattice$View", "suppose", "(IIJ)V"⟩ ∈ am_tbl := am_in4 (k := 104) rfl rfl
theorem wd_4_105 : Cond.instanceMethod ⟨"AccessLattice$View", "suppose", "(IIJ)V"⟩ ∈ am_tbl := am_in4 (k := 105) rfl rfl
theorem wd_4_106 : Cond.selects "AccessLattice$View" ⟨"AccessLattice$View", "suppose", "(IIJ)V"⟩ ⟨"AccessLattice$View", "suppose", "(IIJ)V"⟩ ∈ am_tbl := am_in4 (k := 106) rfl rfl
theorem wd_4_108 : Cond.methodLink "AccessLattice$Search" 71 ⟨"AccessLattice$Rules", "ofRoles", "(II)I"⟩ ∈ am_tbl := am_in4 (k := 108) rfl rfl
theorem wd_4_109 : Cond.methodLink "AccessLattice$Search" 102 ⟨"AccessLattice$Rules", "first", "(I)I"⟩ ∈ am_tbl := am_in4 (k := 109) rfl rfl
theorem wd_4_110 : Cond.methodLink "AccessLattice$Search" 106 ⟨"AccessLattice$Rules", "answerBy", "(I)I"⟩ ∈ am_tbl := am_in4 (k := 110) rfl rfl
theorem wd_4_111 : Cond.methodLink "AccessLattice$Search" 109 ⟨"AccessLattice$State", "isBarred", "(I)Z"⟩ ∈ am_tbl := am_in4 (k := 111) rfl rfl
theorem wd_4_112 : Cond.methodLink "AccessLattice$Search" 91 ⟨"AccessLattice$Search", "pickNext", "(I)Z"⟩ ∈ am_tbl := am_in4 (k := 112) rfl rfl
theorem wd_4_114 : Cond.instanceMethod ⟨"AccessLattice$Search", "pickNext", "(I)Z"⟩ ∈ am_tbl := am_in4 (k := 114) rfl rfl
theorem wd_4_116 : Cond.methodLink "AccessLattice" 338 ⟨"AccessLattice$Search", "chosen", "(I)I"⟩ ∈ am_tbl := am_in4 (k := 116) rfl rfl
theorem wd_4_125 : Cond.methodLink "AccessLattice" 341 ⟨"AccessLattice$Search", "leastLoss", "(LAccessLattice$View;III)I"⟩ ∈ am_tbl := am_in4 (k := 125) rfl rfl
theorem wd_4_126 : Cond.instanceMethod ⟨"AccessLattice$Search", "leastLoss", "(LAccessLattice$View;III)I"⟩ ∈ am_tbl := am_in4 (k := 126) rfl rfl
theorem wd_4_127 : Cond.selects "AccessLattice$Search" ⟨"AccessLattice$Search", "leastLoss", "(LAccessLattice$View;III)I"⟩ ⟨"AccessLattice$Search", "leastLoss", "(LAccessLattice$View;III)I"⟩ ∈ am_tbl := am_in4 (k := 127) rfl rfl
theorem wd_4_129 : Cond.methodLink "AccessLattice$Search" 74 ⟨"AccessLattice$View", "loansBehind", "(I)J"⟩ ∈ am_tbl := am_in4 (k := 129) rfl rfl
theorem wd_4_130 : Cond.instanceMethod ⟨"AccessLattice$View", "loansBehind", "(I)J"⟩ ∈ am_tbl := am_in4 (k := 130) rfl rfl
theorem wd_4_131 : Cond.selects "AccessLattice$View" ⟨"AccessLattice$View", "loansBehind", "(I)J"⟩ ⟨"AccessLattice$View", "loansBehind", "(I)J"⟩ ∈ am_tbl := am_in4 (k := 131) rfl rfl
theorem wd_4_141 : Cond.methodLink "AccessLattice" 344 ⟨"AccessLattice$Roles", "countWays", "([II)I"⟩ ∈ am_tbl := am_in4 (k := 141) rfl rfl
theorem wd_4_142 : Cond.instanceMethod ⟨"AccessLattice$Roles", "countWays", "([II)I"⟩ ∈ am_tbl := am_in4 (k := 142) rfl rfl
theorem wd_4_143 : Cond.selects "AccessLattice$Roles" ⟨"AccessLattice$Roles", "countWays", "([II)I"⟩ ⟨"AccessLattice$Roles", "countWays", "([II)I"⟩ ∈ am_tbl := am_in4 (k := 143) rfl rfl
theorem wd_4_145 : Cond.methodLink "AccessLattice$Roles" 52 ⟨"java/lang/System", "arraycopy", "(Ljava/lang/Object;ILjava/lang/Object;II)V"⟩ ∈ am_tbl := am_in4 (k := 145) rfl rfl
theorem wd_4_162 : Cond.methodLink "AccessLattice" 354 ⟨"AccessLattice", "covers", "(II)Z"⟩ ∈ am_tbl := am_in4 (k := 162) rfl rfl
theorem wd_4_164 : Cond.instanceMethod ⟨"AccessLattice", "covers", "(II)Z"⟩ ∈ am_tbl := am_in4 (k := 164) rfl rfl
theorem wd_4_166 : Cond.methodLink "AccessLattice" 357 ⟨"AccessLattice$Rules", "end", "(I)J"⟩ ∈ am_tbl := am_in4 (k := 166) rfl rfl
theorem wd_4_171 : Cond.methodLink "AccessLattice" 361 ⟨"AccessLattice", "clashWith", "(II)Z"⟩ ∈ am_tbl := am_in4 (k := 171) rfl rfl
theorem wd_4_173 : Cond.instanceMethod ⟨"AccessLattice", "clashWith", "(II)Z"⟩ ∈ am_tbl := am_in4 (k := 173) rfl rfl
theorem wd_4_175 : Cond.methodLink "AccessLattice" 364 ⟨"java/lang/Math", "max", "(II)I"⟩ ∈ am_tbl := am_in4 (k := 175) rfl rfl
theorem wd_4_176 : Cond.methodLink "AccessLattice" 369 ⟨"java/lang/Math", "min", "(JJ)J"⟩ ∈ am_tbl := am_in4 (k := 176) rfl rfl
theorem wd_4_177 : Cond.static ⟨"java/lang/Math", "min", "(JJ)J"⟩ ∈ am_tbl := am_in4 (k := 177) rfl rfl
theorem wd_4_179 : Cond.methodLink "AccessLattice" 373 ⟨"AccessLattice", "reaches", "(II)Z"⟩ ∈ am_tbl := am_in4 (k := 179) rfl rfl
theorem wd_4_181 : Cond.instanceMethod ⟨"AccessLattice", "reaches", "(II)Z"⟩ ∈ am_tbl := am_in4 (k := 181) rfl rfl
theorem wd_4_195 : Cond.methodLink "AccessLattice" 376 ⟨"AccessLattice$Roles", "longestDown", "(I)I"⟩ ∈ am_tbl := am_in4 (k := 195) rfl rfl
theorem wd_4_196 : Cond.instanceMethod ⟨"AccessLattice$Roles", "longestDown", "(I)I"⟩ ∈ am_tbl := am_in4 (k := 196) rfl rfl
theorem wd_4_197 : Cond.selects "AccessLattice$Roles" ⟨"AccessLattice$Roles", "longestDown", "(I)I"⟩ ⟨"AccessLattice$Roles", "longestDown", "(I)I"⟩ ∈ am_tbl := am_in4 (k := 197) rfl rfl
theorem wd_4_211 : Cond.methodLink "AccessLattice" 379 ⟨"AccessLattice", "wouldTurn", "(IIIII)Z"⟩ ∈ am_tbl := am_in4 (k := 211) rfl rfl
theorem wd_4_213 : Cond.instanceMethod ⟨"AccessLattice", "wouldTurn", "(IIIII)Z"⟩ ∈ am_tbl := am_in4 (k := 213) rfl rfl
theorem wd_4_219 : Cond.methodLink "AccessLattice" 383 ⟨"AccessLattice", "differing", "(IIII)I"⟩ ∈ am_tbl := am_in4 (k := 219) rfl rfl
theorem wd_4_221 : Cond.instanceMethod ⟨"AccessLattice", "differing", "(IIII)I"⟩ ∈ am_tbl := am_in4 (k := 221) rfl rfl
theorem wd_4_227 : Cond.methodLink "AccessLattice" 386 ⟨"AccessLattice$State", "copyFrom", "(LAccessLattice$State;)V"⟩ ∈ am_tbl := am_in4 (k := 227) rfl rfl
theorem wd_4_228 : Cond.instanceMethod ⟨"AccessLattice$State", "copyFrom", "(LAccessLattice$State;)V"⟩ ∈ am_tbl := am_in4 (k := 228) rfl rfl
theorem wd_4_229 : Cond.selects "AccessLattice$State" ⟨"AccessLattice$State", "copyFrom", "(LAccessLattice$State;)V"⟩ ⟨"AccessLattice$State", "copyFrom", "(LAccessLattice$State;)V"⟩ ∈ am_tbl := am_in4 (k := 229) rfl rfl
theorem wd_4_231 : Cond.methodLink "AccessLattice$State" 74 ⟨"AccessLattice$Roles", "copyFrom", "(LAccessLattice$Roles;)V"⟩ ∈ am_tbl := am_in4 (k := 231) rfl rfl
theorem wd_4_232 : Cond.instanceMethod ⟨"AccessLattice$Roles", "copyFrom", "(LAccessLattice$Roles;)V"⟩ ∈ am_tbl := am_in4 (k := 232) rfl rfl
theorem wd_4_233 : Cond.selects "AccessLattice$Roles" ⟨"AccessLattice$Roles", "copyFrom", "(LAccessLattice$Roles;)V"⟩ ⟨"AccessLattice$Roles", "copyFrom", "(LAccessLattice$Roles;)V"⟩ ∈ am_tbl := am_in4 (k := 233) rfl rfl
theorem wd_4_235 : Cond.methodLink "AccessLattice$State" 78 ⟨"AccessLattice$Loans", "copyFrom", "(LAccessLattice$Loans;)V"⟩ ∈ am_tbl := am_in4 (k := 235) rfl rfl
theorem wd_4_236 : Cond.instanceMethod ⟨"AccessLattice$Loans", "copyFrom", "(LAccessLattice$Loans;)V"⟩ ∈ am_tbl := am_in4 (k := 236) rfl rfl
theorem wd_4_237 : Cond.selects "AccessLattice$Loans" ⟨"AccessLattice$Loans", "copyFrom", "(LAccessLattice$Loans;)V"⟩ ⟨"AccessLattice$Loans", "copyFrom", "(LAccessLattice$Loans;)V"⟩ ∈ am_tbl := am_in4 (k := 237) rfl rfl
theorem wd_4_239 : Cond.methodLink "AccessLattice$Loans" 38 ⟨"java/lang/System", "arraycopy", "(Ljava/lang/Object;ILjava/lang/Object;II)V"⟩ ∈ am_tbl := am_in4 (k := 239) rfl rfl
theorem wd_5_0 : Cond.methodLink "AccessLattice$State" 81 ⟨"AccessLattice$Rules", "copyFrom", "(LAccessLattice$Rules;)V"⟩ ∈ am_tbl := am_in5 (k := 0) rfl rfl
theorem wd_5_1 : Cond.instanceMethod ⟨"AccessLattice$Rules", "copyFrom", "(LAccessLattice$Rules;)V"⟩ ∈ am_tbl := am_in5 (k := 1) rfl rfl
theorem wd_5_2 : Cond.selects "AccessLattice$Rules" ⟨"AccessLattice$Rules", "copyFrom", "(LAccessLattice$Rules;)V"⟩ ⟨"AccessLattice$Rules", "copyFrom", "(LAccessLattice$Rules;)V"⟩ ∈ am_tbl := am_in5 (k := 2) rfl rfl
theorem wd_5_17 : Cond.methodLink "AccessLatticeModel" 1 ⟨"java/lang/Object", "<init>", "()V"⟩ ∈ am_tbl := am_in5 (k := 17) rfl rfl
theorem wd_5_18 : Cond.methodLink "AccessLatticeModel" 59 ⟨"AccessLatticeModel", "lattice", "()V"⟩ ∈ am_tbl := am_in5 (k := 18) rfl rfl
theorem wd_5_20 : Cond.instanceMethod ⟨"AccessLatticeModel", "lattice", "()V"⟩ ∈ am_tbl := am_in5 (k := 20) rfl rfl
theorem wd_5_22 : Cond.methodLink "AccessLatticeModel" 70 ⟨"AccessLatticeModel", "has", "(II)Z"⟩ ∈ am_tbl := am_in5 (k := 22) rfl rfl
theorem wd_5_23 : Cond.static ⟨"AccessLatticeModel", "has", "(II)Z"⟩ ∈ am_tbl := am_in5 (k := 23) rfl rfl
theorem wd_5_25 : Cond.fieldLink "AccessLatticeModel" 9 "AccessLatticeModel" "s" "[I" ∈ am_tbl := am_in5 (k := 25) rfl rfl
theorem wd_5_26 : Cond.fieldLink "AccessLatticeModel" 13 "AccessLatticeModel" "image" "[I" ∈ am_tbl := am_in5 (k := 26) rfl rfl
theorem wd_5_27 : Cond.fieldLink "AccessLatticeModel" 16 "AccessLatticeModel" "mind" "[I" ∈ am_tbl := am_in5 (k := 27) rfl rfl
theorem wd_5_28 : Cond.fieldLink "AccessLatticeModel" 312 "AccessLatticeModel" "isKept" "Z" ∈ am_tbl := am_in5 (k := 28) rfl rfl
theorem wd_5_29 : Cond.fieldLink "AccessLatticeModel" 19 "AccessLatticeModel" "down" "[I" ∈ am_tbl := am_in5 (k := 29) rfl rfl
theorem wd_5_30 : Cond.fieldLink "AccessLatticeModel" 22 "AccessLatticeModel" "under" "[I" ∈ am_tbl := am_in5 (k := 30) rfl rfl
theorem wd_5_31 : Cond.fieldLink "AccessLatticeModel" 25 "AccessLatticeModel" "held" "[I" ∈ am_tbl := am_in5 (k := 31) rfl rfl
theorem wd_5_32 : Cond.fieldLink "AccessLatticeModel" 28 "AccessLatticeModel" "far" "[I" ∈ am_tbl := am_in5 (k := 32) rfl rfl
theorem wd_5_33 : Cond.fieldLink "AccessLatticeModel" 31 "AccessLatticeModel" "stands" "[Z" ∈ am_tbl := am_in5 (k := 33) rfl rfl
theorem wd_5_34 : Cond.fieldLink "AccessLatticeModel" 35 "AccessLatticeModel" "tape" "[I" ∈ am_tbl := am_in5 (k := 34) rfl rfl
theorem wd_5_35 : Cond.fieldLink "AccessLatticeModel" 38 "AccessLatticeModel" "mark" "[I" ∈ am_tbl := am_in5 (k := 35) rfl rfl
theorem wd_5_36 : Cond.fieldLink "AccessLatticeModel" 121 "AccessLatticeModel" "letters" "I" ∈ am_tbl := am_in5 (k := 36) rfl rfl
theorem wd_5_37 : Cond.fieldLink "AccessLatticeModel" 128 "AccessLatticeModel" "at" "I" ∈ am_tbl := am_in5 (k := 37) rfl rfl
theorem wd_5_38 : Cond.fieldLink "AccessLatticeModel" 125 "AccessLatticeModel" "fault" "I" ∈ am_tbl := am_in5 (k := 38) rfl rfl
theorem wd_5_39 : Cond.fieldLink "AccessLatticeModel" 168 "AccessLatticeModel" "open" "I" ∈ am_tbl := am_in5 (k := 39) rfl rfl
theorem wd_5_40 : Cond.fieldLink "AccessLatticeModel" 141 "AccessLatticeModel" "end" "I" ∈ am_tbl := am_in5 (k := 40) rfl rfl
theorem wd_5_41 : Cond.fieldLink "AccessLatticeModel" 180 "AccessLatticeModel" "reader" "I" ∈ am_tbl := am_in5 (k := 41) rfl rfl
theorem wd_5_42 : Cond.fieldLink "AccessLatticeModel" 183 "AccessLatticeModel" "asker" "I" ∈ am_tbl := am_in5 (k := 42) rfl rfl
theorem wd_5_43 : Cond.fieldLink "AccessLatticeModel" 189 "AccessLatticeModel" "act" "I" ∈ am_tbl := am_in5 (k := 43) rfl rfl
theorem wd_5_44 : Cond.fieldLink "AccessLatticeModel" 186 "AccessLatticeModel" "asked" "I" ∈ am_tbl := am_in5 (k := 44) rfl rfl
theorem wd_5_45 : Cond.fieldLink "AccessLatticeModel" 192 "AccessLatticeModel" "deep" "I" ∈ am_tbl := am_in5 (k := 45) rfl rfl
theorem wd_5_46 : Cond.fieldLink "AccessLatticeModel" 41 "AccessLatticeModel" "sort" "[I" ∈ am_tbl := am_in5 (k := 46) rfl rfl
theorem wd_5_47 : Cond.fieldLink "AccessLatticeModel" 44 "AccessLatticeModel" "ground" "[I" ∈ am_tbl := am_in5 (k := 47) rfl rfl
theorem wd_5_48 : Cond.fieldLink "AccessLatticeModel" 229 "AccessLatticeModel" "grounds" "I" ∈ am_tbl := am_in5 (k := 48) rfl rfl
theorem wd_5_49 : Cond.fieldLink "AccessLatticeModel" 223 "AccessLatticeModel" "decider" "I" ∈ am_tbl := am_in5 (k := 49) rfl rfl
theorem wd_5_50 : Cond.fieldLink "AccessLatticeModel" 47 "AccessLatticeModel" "candidate" "[I" ∈ am_tbl := am_in5 (k := 50) rfl rfl
theorem wd_5_51 : Cond.fieldLink "AccessLatticeModel" 50 "AccessLatticeModel" "chosen" "[I" ∈ am_tbl := am_in5 (k := 51) rfl rfl
theorem wd_5_52 : Cond.fieldLink "AccessLatticeModel" 261 "AccessLatticeModel" "candidates" "I" ∈ am_tbl := am_in5 (k := 52) rfl rfl
theorem wd_5_53 : Cond.fieldLink "AccessLatticeModel" 213 "AccessLatticeModel" "fitting" "I" ∈ am_tbl := am_in5 (k := 53) rfl rfl
theorem wd_5_54 : Cond.fieldLink "AccessLatticeModel" 216 "AccessLatticeModel" "gone" "I" ∈ am_tbl := am_in5 (k := 54) rfl rfl
theorem wd_5_55 : Cond.fieldLink "AccessLatticeModel" 53 "AccessLatticeModel" "was" "[I" ∈ am_tbl := am_in5 (k := 55) rfl rfl
theorem wd_5_56 : Cond.fieldLink "AccessLatticeModel" 56 "AccessLatticeModel" "shown" "[I" ∈ am_tbl := am_in5 (k := 56) rfl rfl
theorem wd_5_122 : Cond.arrayClass .boolean ∈ am_tbl := am_in5 (k := 122) rfl rfl
theorem wd_5_127 : Cond.methodLink "AccessLatticeModel" 62 ⟨"AccessLatticeModel", "isIn", "(III)Z"⟩ ∈ am_tbl := am_in5 (k := 127) rfl rfl
theorem wd_5_128 : Cond.static ⟨"AccessLatticeModel", "isIn", "(III)Z"⟩ ∈ am_tbl := am_in5 (k := 128) rfl rfl
theorem wd_5_130 : Cond.methodLink "AccessLatticeModel" 74 ⟨"AccessLatticeModel", "isOne", "(I)Z"⟩ ∈ am_tbl := am_in5 (k := 130) rfl rfl
theorem wd_5_131 : Cond.static ⟨"AccessLatticeModel", "isOne", "(I)Z"⟩ ∈ am_tbl := am_in5 (k := 131) rfl rfl
theorem wd_5_137 : Cond.methodLink "AccessLatticeModel" 78 ⟨"AccessLatticeModel", "depth", "(II)I"⟩ ∈ am_tbl := am_in5 (k := 137) rfl rfl
theorem wd_5_139 : Cond.instanceMethod ⟨"AccessLatticeModel", "depth", "(II)I"⟩ ∈ am_tbl := am_in5 (k := 139) rfl rfl
theorem wd_5_142 : Cond.instanceMethod ⟨"AccessLatticeModel", "senior", "(III)I"⟩ ∈ am_tbl := am_in5 (k := 142) rfl rfl
theorem wd_5_143 : Cond.selects "AccessLatticeModel" ⟨"AccessLatticeModel", "senior", "(III)I"⟩ ⟨"AccessLatticeModel", "senior", "(III)I"⟩ ∈ am_tbl := am_in5 (k := 143) rfl rfl
theorem wd_5_145 : Cond.methodLink "AccessLatticeModel" 103 ⟨"AccessLatticeModel", "isRole", "(I)Z"⟩ ∈ am_tbl := am_in5 (k := 145) rfl rfl
theorem wd_5_146 : Cond.static ⟨"AccessLatticeModel", "isRole", "(I)Z"⟩ ∈ am_tbl := am_in5 (k := 146) rfl rfl
theorem wd_5_148 : Cond.methodLink "AccessLatticeModel" 106 ⟨"AccessLatticeModel", "isAnyUnlike", "()Z"⟩ ∈ am_tbl := am_in5 (k := 148) rfl rfl
theorem wd_5_150 : Cond.instanceMethod ⟨"AccessLatticeModel", "isAnyUnlike", "()Z"⟩ ∈ am_tbl := am_in5 (k := 150) rfl rfl
theorem wd_5_152 : Cond.methodLink "AccessLatticeModel" 97 ⟨"AccessLatticeModel", "holders", "()V"⟩ ∈ am_tbl := am_in5 (k := 152) rfl rfl
theorem wd_5_154 : Cond.instanceMethod ⟨"AccessLatticeModel", "holders", "()V"⟩ ∈ am_tbl := am_in5 (k := 154) rfl rfl
theorem wd_5_156 : Cond.methodLink "AccessLatticeModel" 91 ⟨"AccessLatticeModel", "stand", "()V"⟩ ∈ am_tbl := am_in5 (k := 156) rfl rfl
theorem wd_5_158 : Cond.instanceMethod ⟨"AccessLatticeModel", "stand", "()V"⟩ ∈ am_tbl := am_in5 (k := 158) rfl rfl
theorem wd_5_160 : Cond.methodLink "AccessLatticeModel" 81 ⟨"AccessLatticeModel", "allUnder", "(I)I"⟩ ∈ am_tbl := am_in5 (k := 160) rfl rfl
theorem wd_5_162 : Cond.instanceMethod ⟨"AccessLatticeModel", "allUnder", "(I)I"⟩ ∈ am_tbl := am_in5 (k := 162) rfl rfl
theorem wd_5_164 : Cond.methodLink "AccessLatticeModel" 85 ⟨"AccessLatticeModel", "standAgain", "()V"⟩ ∈ am_tbl := am_in5 (k := 164) rfl rfl
theorem wd_5_166 : Cond.instanceMethod ⟨"AccessLatticeModel", "standAgain", "()V"⟩ ∈ am_tbl := am_in5 (k := 166) rfl rfl
theorem wd_5_168 : Cond.methodLink "AccessLatticeModel" 88 ⟨"AccessLatticeModel", "loanAt", "(II)I"⟩ ∈ am_tbl := am_in5 (k := 168) rfl rfl
theorem wd_5_170 : Cond.instanceMethod ⟨"AccessLatticeModel", "loanAt", "(II)I"⟩ ∈ am_tbl := am_in5 (k := 170) rfl rfl
theorem wd_5_172 : Cond.methodLink "AccessLatticeModel" 94 ⟨"AccessLatticeModel", "heldBy", "(I)I"⟩ ∈ am_tbl := am_in5 (k := 172) rfl rfl
theorem wd_5_174 : Cond.instanceMethod ⟨"AccessLatticeModel", "heldBy", "(I)I"⟩ ∈ am_tbl := am_in5 (k := 174) rfl rfl
theorem wd_5_176 : Cond.methodLink "AccessLatticeModel" 100 ⟨"AccessLatticeModel", "isUnlike", "(I)Z"⟩ ∈ am_tbl := am_in5 (k := 176) rfl rfl
theorem wd_5_178 : Cond.instanceMethod ⟨"AccessLatticeModel", "isUnlike", "(I)Z"⟩ ∈ am_tbl := am_in5 (k := 178) rfl rfl
theorem wd_5_184 : Cond.methodLink "AccessLatticeModel" 110 ⟨"AccessLatticeModel", "ones", "(I)I"⟩ ∈ am_tbl := am_in5 (k := 184) rfl rfl
theorem wd_5_185 : Cond.static ⟨"AccessLatticeModel", "ones", "(I)I"⟩ ∈ am_tbl := am_in5 (k := 185) rfl rfl
theorem wd_5_199 : Cond.methodLink "AccessLatticeModel" 113 ⟨"AccessLatticeModel", "sourceFor", "(III)I"⟩ ∈ am_tbl := am_in5 (k := 199) rfl rfl
theorem wd_5_201 : Cond.instanceMethod ⟨"AccessLatticeModel", "sourceFor", "(III)I"⟩ ∈ am_tbl := am_in5 (k := 201) rfl rfl
theorem wd_5_207 : Cond.methodLink "AccessLatticeModel" 117 ⟨"AccessLatticeModel", "standing", "()I"⟩ ∈ am_tbl := am_in5 (k := 207) rfl rfl
theorem wd_5_209 : Cond.instanceMethod ⟨"AccessLatticeModel", "standing", "()I"⟩ ∈ am_tbl := am_in5 (k := 209) rfl rfl
theorem wd_5_227 : Cond.methodLink "AccessLatticeModel" 201 ⟨"AccessLatticeModel", "reads", "()I"⟩ ∈ am_tbl := am_in5 (k := 227) rfl rfl
theorem wd_5_229 : Cond.instanceMethod ⟨"AccessLatticeModel", "reads", "()I"⟩ ∈ am_tbl := am_in5 (k := 229) rfl rfl
theorem wd_5_231 : Cond.methodLink "AccessLatticeModel" 177 ⟨"AccessLatticeModel", "begins", "()V"⟩ ∈ am_tbl := am_in5 (k := 231) rfl rfl
theorem wd_5_233 : Cond.instanceMethod ⟨"AccessLatticeModel", "begins", "()V"⟩ ∈ am_tbl := am_in5 (k := 233) rfl rfl
theorem wd_5_235 : Cond.methodLink "AccessLatticeModel" 171 ⟨"AccessLatticeModel", "either", "()V"⟩ ∈ am_tbl := am_in5 (k := 235) rfl rfl
theorem wd_5_237 : Cond.instanceMethod ⟨"AccessLatticeModel", "either", "()V"⟩ ∈ am_tbl := am_in5 (k := 237) rfl rfl
theorem wd_5_239 : Cond.methodLink "AccessLatticeModel" 144 ⟨"AccessLatticeModel", "both", "()V"⟩ ∈ am_tbl := am_in5 (k := 239) rfl rfl
theorem wd_6_1 : Cond.instanceMethod ⟨"AccessLatticeModel", "both", "()V"⟩ ∈ am_tbl := am_in6 (k := 1) rfl rfl
theorem wd_6_3 : Cond.methodLink "AccessLatticeModel" 150 ⟨"AccessLatticeModel", "compares", "()V"⟩ ∈ am_tbl := am_in6 (k := 3) rfl rfl
theorem wd_6_5 : Cond.instanceMethod ⟨"AccessLatticeModel", "compares", "()V"⟩ ∈ am_tbl := am_in6 (k := 5) rfl rfl
theorem wd_6_7 : Cond.methodLink "AccessLatticeModel" 153 ⟨"AccessLatticeModel", "adds", "()V"⟩ ∈ am_tbl := am_in6 (k := 7) rfl rfl
theorem wd_6_9 : Cond.instanceMethod ⟨"AccessLatticeModel", "adds", "()V"⟩ ∈ am_tbl := am_in6 (k := 9) rfl rfl
theorem wd_6_11 : Cond.methodLink "AccessLatticeModel" 156 ⟨"AccessLatticeModel", "times", "()V"⟩ ∈ am_tbl := am_in6 (k := 11) rfl rfl
theorem wd_6_13 : Cond.instanceMethod ⟨"AccessLatticeModel", "times", "()V"⟩ ∈ am_tbl := am_in6 (k := 13) rfl rfl
theorem wd_6_15 : Cond.methodLink "AccessLatticeModel" 159 ⟨"AccessLatticeModel", "unit", "()V"⟩ ∈ am_tbl := am_in6 (k := 15) rfl rfl
theorem wd_6_17 : Cond.instanceMethod ⟨"AccessLatticeModel", "unit", "()V"⟩ ∈ am_tbl := am_in6 (k := 17) rfl rfl
theorem wd_6_19 : Cond.methodLink "AccessLatticeModel" 138 ⟨"AccessLatticeModel", "seesDigit", "()Z"⟩ ∈ am_tbl := am_in6 (k := 19) rfl rfl
theorem wd_6_21 : Cond.instanceMethod ⟨"AccessLatticeModel", "seesDigit", "()Z"⟩ ∈ am_tbl := am_in6 (k := 21) rfl rfl
theorem wd_6_23 : Cond.methodLink "AccessLatticeModel" 162 ⟨"AccessLatticeModel", "figures", "(I)I"⟩ ∈ am_tbl := am_in6 (k := 23) rfl rfl
theorem wd_6_25 : Cond.instanceMethod ⟨"AccessLatticeModel", "figures", "(I)I"⟩ ∈ am_tbl := am_in6 (k := 25) rfl rfl
theorem wd_6_27 : Cond.methodLink "AccessLatticeModel" 134 ⟨"AccessLatticeModel", "fails", "(I)V"⟩ ∈ am_tbl := am_in6 (k := 27) rfl rfl
theorem wd_6_29 : Cond.instanceMethod ⟨"AccessLatticeModel", "fails", "(I)V"⟩ ∈ am_tbl := am_in6 (k := 29) rfl rfl
theorem wd_6_31 : Cond.methodLink "AccessLatticeModel" 165 ⟨"AccessLatticeModel", "puts", "(I)V"⟩ ∈ am_tbl := am_in6 (k := 31) rfl rfl
theorem wd_6_33 : Cond.instanceMethod ⟨"AccessLatticeModel", "puts", "(I)V"⟩ ∈ am_tbl := am_in6 (k := 33) rfl rfl
theorem wd_6_35 : Cond.methodLink "AccessLatticeModel" 174 ⟨"AccessLatticeModel", "takes", "(I)V"⟩ ∈ am_tbl := am_in6 (k := 35) rfl rfl
theorem wd_6_37 : Cond.instanceMethod ⟨"AccessLatticeModel", "takes", "(I)V"⟩ ∈ am_tbl := am_in6 (k := 37) rfl rfl
theorem wd_6_39 : Cond.methodLink "AccessLatticeModel" 131 ⟨"AccessLatticeModel", "sees", "(I)Z"⟩ ∈ am_tbl := am_in6 (k := 39) rfl rfl
theorem wd_6_41 : Cond.instanceMethod ⟨"AccessLatticeModel", "sees", "(I)Z"⟩ ∈ am_tbl := am_in6 (k := 41) rfl rfl
theorem wd_6_43 : Cond.methodLink "AccessLatticeModel" 147 ⟨"AccessLatticeModel", "joins", "(I)V"⟩ ∈ am_tbl := am_in6 (k := 43) rfl rfl
theorem wd_6_45 : Cond.instanceMethod ⟨"AccessLatticeModel", "joins", "(I)V"⟩ ∈ am_tbl := am_in6 (k := 45) rfl rfl
theorem wd_6_51 : Cond.methodLink "AccessLatticeModel" 204 ⟨"AccessLatticeModel", "isRule", "(I)Z"⟩ ∈ am_tbl := am_in6 (k := 51) rfl rfl
theorem wd_6_53 : Cond.instanceMethod ⟨"AccessLatticeModel", "isRule", "(I)Z"⟩ ∈ am_tbl := am_in6 (k := 53) rfl rfl
theorem wd_6_55 : Cond.methodLink "AccessLatticeModel" 66 ⟨"AccessLatticeModel", "ruleAt", "(II)I"⟩ ∈ am_tbl := am_in6 (k := 55) rfl rfl
theorem wd_6_57 : Cond.instanceMethod ⟨"AccessLatticeModel", "ruleAt", "(II)I"⟩ ∈ am_tbl := am_in6 (k := 57) rfl rfl
theorem wd_6_59 : Cond.methodLink "AccessLatticeModel" 207 ⟨"AccessLatticeModel", "rulesThere", "()I"⟩ ∈ am_tbl := am_in6 (k := 59) rfl rfl
theorem wd_6_61 : Cond.instanceMethod ⟨"AccessLatticeModel", "rulesThere", "()I"⟩ ∈ am_tbl := am_in6 (k := 61) rfl rfl
theorem wd_6_79 : Cond.methodLink "AccessLatticeModel" 210 ⟨"AccessLatticeModel", "senior", "(III)I"⟩ ∈ am_tbl := am_in6 (k := 79) rfl rfl
theorem wd_6_84 : Cond.methodLink "AccessLatticeModel" 246 ⟨"AccessLatticeModel", "isAsk", "(III)Z"⟩ ∈ am_tbl := am_in6 (k := 84) rfl rfl
theorem wd_6_85 : Cond.static ⟨"AccessLatticeModel", "isAsk", "(III)Z"⟩ ∈ am_tbl := am_in6 (k := 85) rfl rfl
theorem wd_6_87 : Cond.methodLink "AccessLatticeModel" 226 ⟨"AccessLatticeModel", "isAct", "(I)Z"⟩ ∈ am_tbl := am_in6 (k := 87) rfl rfl
theorem wd_6_88 : Cond.static ⟨"AccessLatticeModel", "isAct", "(I)Z"⟩ ∈ am_tbl := am_in6 (k := 88) rfl rfl
theorem wd_6_90 : Cond.methodLink "AccessLatticeModel" 249 ⟨"AccessLatticeModel", "answer", "(III)I"⟩ ∈ am_tbl := am_in6 (k := 90) rfl rfl
theorem wd_6_92 : Cond.instanceMethod ⟨"AccessLatticeModel", "answer", "(III)I"⟩ ∈ am_tbl := am_in6 (k := 92) rfl rfl
theorem wd_6_94 : Cond.methodLink "AccessLatticeModel" 219 ⟨"AccessLatticeModel", "fits", "(IIII)Z"⟩ ∈ am_tbl := am_in6 (k := 94) rfl rfl
theorem wd_6_96 : Cond.instanceMethod ⟨"AccessLatticeModel", "fits", "(IIII)Z"⟩ ∈ am_tbl := am_in6 (k := 96) rfl rfl
theorem wd_6_98 : Cond.methodLink "AccessLatticeModel" 195 ⟨"AccessLatticeModel", "part", "()I"⟩ ∈ am_tbl := am_in6 (k := 98) rfl rfl
theorem wd_6_100 : Cond.instanceMethod ⟨"AccessLatticeModel", "part", "()I"⟩ ∈ am_tbl := am_in6 (k := 100) rfl rfl
theorem wd_6_102 : Cond.methodLink "AccessLatticeModel" 198 ⟨"AccessLatticeModel", "joined", "(III)I"⟩ ∈ am_tbl := am_in6 (k := 102) rfl rfl
theorem wd_6_103 : Cond.static ⟨"AccessLatticeModel", "joined", "(III)I"⟩ ∈ am_tbl := am_in6 (k := 103) rfl rfl
theorem wd_6_105 : Cond.methodLink "AccessLatticeModel" 252 ⟨"AccessLatticeModel", "books", "(IIII)V"⟩ ∈ am_tbl := am_in6 (k := 105) rfl rfl
theorem wd_6_107 : Cond.instanceMethod ⟨"AccessLatticeModel", "books", "(IIII)V"⟩ ∈ am_tbl := am_in6 (k := 107) rfl rfl
theorem wd_6_109 : Cond.methodLink "AccessLatticeModel" 256 ⟨"AccessLatticeModel", "grounds", "(I)V"⟩ ∈ am_tbl := am_in6 (k := 109) rfl rfl
theorem wd_6_111 : Cond.instanceMethod ⟨"AccessLatticeModel", "grounds", "(I)V"⟩ ∈ am_tbl := am_in6 (k := 111) rfl rfl
theorem wd_6_113 : Cond.methodLink "AccessLatticeModel" 232 ⟨"AccessLatticeModel", "grounds", "(II)V"⟩ ∈ am_tbl := am_in6 (k := 113) rfl rfl
theorem wd_6_115 : Cond.instanceMethod ⟨"AccessLatticeModel", "grounds", "(II)V"⟩ ∈ am_tbl := am_in6 (k := 115) rfl rfl
theorem wd_6_117 : Cond.methodLink "AccessLatticeModel" 235 ⟨"AccessLatticeModel", "allAbove", "(I)I"⟩ ∈ am_tbl := am_in6 (k := 117) rfl rfl
theorem wd_6_119 : Cond.instanceMethod ⟨"AccessLatticeModel", "allAbove", "(I)I"⟩ ∈ am_tbl := am_in6 (k := 119) rfl rfl
theorem wd_6_121 : Cond.methodLink "AccessLatticeModel" 238 ⟨"AccessLatticeModel", "distances", "(IZ)V"⟩ ∈ am_tbl := am_in6 (k := 121) rfl rfl
theorem wd_6_123 : Cond.instanceMethod ⟨"AccessLatticeModel", "distances", "(IZ)V"⟩ ∈ am_tbl := am_in6 (k := 123) rfl rfl
theorem wd_6_125 : Cond.methodLink "AccessLatticeModel" 242 ⟨"AccessLatticeModel", "nearer", "(IZ)I"⟩ ∈ am_tbl := am_in6 (k := 125) rfl rfl
theorem wd_6_127 : Cond.instanceMethod ⟨"AccessLatticeModel", "nearer", "(IZ)I"⟩ ∈ am_tbl := am_in6 (k := 127) rfl rfl
theorem wd_6_137 : Cond.methodLink "AccessLatticeModel" 258 ⟨"AccessLatticeModel", "whoBy", "(III)I"⟩ ∈ am_tbl := am_in6 (k := 137) rfl rfl
theorem wd_6_139 : Cond.instanceMethod ⟨"AccessLatticeModel", "whoBy", "(III)I"⟩ ∈ am_tbl := am_in6 (k := 139) rfl rfl
theorem wd_6_153 : Cond.methodLink "AccessLatticeModel" 285 ⟨"AccessLatticeModel", "tried", "(IIIIZ)I"⟩ ∈ am_tbl := am_in6 (k := 153) rfl rfl
theorem wd_6_155 : Cond.instanceMethod ⟨"AccessLatticeModel", "tried", "(IIIIZ)I"⟩ ∈ am_tbl := am_in6 (k := 155) rfl rfl
theorem wd_6_157 : Cond.methodLink "AccessLatticeModel" 279 ⟨"AccessLatticeModel", "fitting", "(III)V"⟩ ∈ am_tbl := am_in6 (k := 157) rfl rfl
theorem wd_6_159 : Cond.instanceMethod ⟨"AccessLatticeModel", "fitting", "(III)V"⟩ ∈ am_tbl := am_in6 (k := 159) rfl rfl
theorem wd_6_161 : Cond.methodLink "AccessLatticeModel" 264 ⟨"AccessLatticeModel", "answerBy", "(I)I"⟩ ∈ am_tbl := am_in6 (k := 161) rfl rfl
theorem wd_6_163 : Cond.instanceMethod ⟨"AccessLatticeModel", "answerBy", "(I)I"⟩ ∈ am_tbl := am_in6 (k := 163) rfl rfl
theorem wd_6_165 : Cond.methodLink "AccessLatticeModel" 282 ⟨"AccessLatticeModel", "offers", "(I)V"⟩ ∈ am_tbl := am_in6 (k := 165) rfl rfl
theorem wd_6_167 : Cond.instanceMethod ⟨"AccessLatticeModel", "offers", "(I)V"⟩ ∈ am_tbl := am_in6 (k := 167) rfl rfl
theorem wd_6_169 : Cond.methodLink "AccessLatticeModel" 275 ⟨"AccessLatticeModel", "tries", "(IIIIZ)Z"⟩ ∈ am_tbl := am_in6 (k := 169) rfl rfl
theorem wd_6_171 : Cond.instanceMethod ⟨"AccessLatticeModel", "tries", "(IIIIZ)Z"⟩ ∈ am_tbl := am_in6 (k := 171) rfl rfl
theorem wd_6_173 : Cond.methodLink "AccessLatticeModel" 267 ⟨"AccessLatticeModel", "does", "(IZ)Z"⟩ ∈ am_tbl := am_in6 (k := 173) rfl rfl
theorem wd_6_175 : Cond.instanceMethod ⟨"AccessLatticeModel", "does", "(IZ)Z"⟩ ∈ am_tbl := am_in6 (k := 175) rfl rfl
theorem wd_6_177 : Cond.methodLink "AccessLatticeModel" 271 ⟨"AccessLatticeModel", "turns", "(IIZ)V"⟩ ∈ am_tbl := am_in6 (k := 177) rfl rfl
theorem wd_6_179 : Cond.instanceMethod ⟨"AccessLatticeModel", "turns", "(IIZ)V"⟩ ∈ am_tbl := am_in6 (k := 179) rfl rfl
theorem wd_6_189 : Cond.methodLink "AccessLatticeModel" 289 ⟨"AccessLatticeModel", "shows", "(III)V"⟩ ∈ am_tbl := am_in6 (k := 189) rfl rfl
theorem wd_6_191 : Cond.instanceMethod ⟨"AccessLatticeModel", "shows", "(III)V"⟩ ∈ am_tbl := am_in6 (k := 191) rfl rfl
theorem wd_6_201 : Cond.methodLink "AccessLatticeModel" 292 ⟨"AccessLatticeModel", "waysFrom", "(II)I"⟩ ∈ am_tbl := am_in6 (k := 201) rfl rfl
theorem wd_6_203 : Cond.instanceMethod ⟨"AccessLatticeModel", "waysFrom", "(II)I"⟩ ∈ am_tbl := am_in6 (k := 203) rfl rfl
theorem wd_6_221 : Cond.methodLink "AccessLatticeModel" 298 ⟨"AccessLatticeModel", "shadows", "(II)Z"⟩ ∈ am_tbl := am_in6 (k := 221) rfl rfl
theorem wd_6_223 : Cond.instanceMethod ⟨"AccessLatticeModel", "shadows", "(II)Z"⟩ ∈ am_tbl := am_in6 (k := 223) rfl rfl
theorem wd_6_225 : Cond.methodLink "AccessLatticeModel" 295 ⟨"AccessLatticeModel", "isWithin", "(II)Z"⟩ ∈ am_tbl := am_in6 (k := 225) rfl rfl
theorem wd_6_227 : Cond.instanceMethod ⟨"AccessLatticeModel", "isWithin", "(II)Z"⟩ ∈ am_tbl := am_in6 (k := 227) rfl rfl
theorem wd_6_233 : Cond.methodLink "AccessLatticeModel" 301 ⟨"AccessLatticeModel", "clashes", "(II)Z"⟩ ∈ am_tbl := am_in6 (k := 233) rfl rfl
theorem wd_6_235 : Cond.instanceMethod ⟨"AccessLatticeModel", "clashes", "(II)Z"⟩ ∈ am_tbl := am_in6 (k := 235) rfl rfl
theorem wd_7_9 : Cond.methodLink "AccessLatticeModel" 309 ⟨"AccessLatticeModel", "levels", "()V"⟩ ∈ am_tbl := am_in7 (k := 9) rfl rfl
theorem wd_7_11 : Cond.instanceMethod ⟨"AccessLatticeModel", "levels", "()V"⟩ ∈ am_tbl := am_in7 (k := 11) rfl rfl
theorem wd_7_13 : Cond.methodLink "AccessLatticeModel" 304 ⟨"java/lang/Math", "max", "(II)I"⟩ ∈ am_tbl := am_in7 (k := 13) rfl rfl
theorem wd_7_30 : Cond.methodLink "AccessLatticeModel" 316 ⟨"AccessLatticeModel", "copies", "([I[I)V"⟩ ∈ am_tbl := am_in7 (k := 30) rfl rfl
theorem wd_7_31 : Cond.static ⟨"AccessLatticeModel", "copies", "([I[I)V"⟩ ∈ am_tbl := am_in7 (k := 31) rfl rfl
theorem wd_obj : Cond.code objectInit ⟨#[0xb1]⟩ 1 none ∈ am_tbl := am_in1 (k := 23) rfl rfl
theorem wd_m_am_mx : Cond.code Lib.Math.max.name Lib.Math.max.code 2 (some .int) ∈ am_tbl := am_in3 (k := 143) rfl rfl
theorem wd_m_am_mn : Cond.code Lib.Math.min.name Lib.Math.min.code 2 (some .int) ∈ am_tbl := am_in3 (k := 150) rfl rfl
theorem wd_m_am_mnl : Cond.code Lib.MathLoose.min_long.x Lib.MathLoose.min_long.code 4 (some .long) ∈ am_tbl := am_in4 (k := 178) rfl rfl
theorem wp_0 : Cond.selects "AccessLattice$Roles" ⟨"AccessLattice$Roles", "close", "()V"⟩ ⟨"AccessLattice$Roles", "close", "()V"⟩ ∈ am_tbl := am_inS (k := 0) (q := (⟨"AccessLattice$Roles", "close", "()V"⟩, 8)) rfl
theorem wp_1 : Cond.selects "AccessLattice" ⟨"AccessLattice", "addSenior", "(II)I"⟩ ⟨"AccessLattice", "addSenior", "(II)I"⟩ ∈ am_tbl := am_inS (k := 1) (q := (⟨"AccessLattice", "addSenior", "(II)I"⟩, 10)) rfl
theorem wp_2 : Cond.selects "AccessLattice$View" ⟨"AccessLattice$View", "settleLoans", "(J)V"⟩ ⟨"AccessLattice$View", "settleLoans", "(J)V"⟩ ∈ am_tbl := am_inS (k := 2) (q := (⟨"AccessLattice$View", "settleLoans", "(J)V"⟩, 8)) rfl
theorem wp_3 : Cond.selects "AccessLattice" ⟨"AccessLattice", "isLoan", "(I)Z"⟩ ⟨"AccessLattice", "isLoan", "(I)Z"⟩ ∈ am_tbl := am_inS (k := 3) (q := (⟨"AccessLattice", "isLoan", "(I)Z"⟩, 10)) rfl
theorem wp_4 : Cond.selects "AccessLattice$Reader" ⟨"AccessLattice$Reader", "start", "()V"⟩ ⟨"AccessLattice$Reader", "start", "()V"⟩ ∈ am_tbl := am_inS (k := 4) (q := (⟨"AccessLattice$Reader", "start", "()V"⟩, 8)) rfl
theorem wp_5 : Cond.selects "AccessLattice$Reader" ⟨"AccessLattice$Reader", "readOperand", "(LAccessLattice$Tape;)V"⟩ ⟨"AccessLattice$Reader", "readOperand", "(LAccessLattice$Tape;)V"⟩ ∈ am_tbl := am_inS (k := 5) (q := (⟨"AccessLattice$Reader", "readOperand", "(LAccessLattice$Tape;)V"⟩, 8)) rfl
theorem wp_6 : Cond.selects "AccessLattice$Reader" ⟨"AccessLattice$Reader", "openWith", "(I)V"⟩ ⟨"AccessLattice$Reader", "openWith", "(I)V"⟩ ∈ am_tbl := am_inS (k := 6) (q := (⟨"AccessLattice$Reader", "openWith", "(I)V"⟩, 8)) rfl
theorem wp_7 : Cond.selects "AccessLattice$Reader" ⟨"AccessLattice$Reader", "push", "(I)V"⟩ ⟨"AccessLattice$Reader", "push", "(I)V"⟩ ∈ am_tbl := am_inS (k := 7) (q := (⟨"AccessLattice$Reader", "push", "(I)V"⟩, 8)) rfl
theorem wp_8 : Cond.selects "AccessLattice$Reader" ⟨"AccessLattice$Reader", "readAttribute", "(II)V"⟩ ⟨"AccessLattice$Reader", "readAttribute", "(II)V"⟩ ∈ am_tbl := am_inS (k := 8) (q := (⟨"AccessLattice$Reader", "readAttribute", "(II)V"⟩, 8)) rfl
theorem wp_9 : Cond.selects "AccessLattice$Reader" ⟨"AccessLattice$Reader", "takeOperand", "(II)V"⟩ ⟨"AccessLattice$Reader", "takeOperand", "(II)V"⟩ ∈ am_tbl := am_inS (k := 9) (q := (⟨"AccessLattice$Reader", "takeOperand", "(II)V"⟩, 8)) rfl
theorem wp_10 : Cond.selects "AccessLattice$Reader" ⟨"AccessLattice$Reader", "emit", "(I)V"⟩ ⟨"AccessLattice$Reader", "emit", "(I)V"⟩ ∈ am_tbl := am_inS (k := 10) (q := (⟨"AccessLattice$Reader", "emit", "(I)V"⟩, 8)) rfl
theorem wp_11 : Cond.selects "AccessLattice$Reader" ⟨"AccessLattice$Reader", "endOperand", "()V"⟩ ⟨"AccessLattice$Reader", "endOperand", "()V"⟩ ∈ am_tbl := am_inS (k := 11) (q := (⟨"AccessLattice$Reader", "endOperand", "()V"⟩, 8)) rfl
theorem wp_12 : Cond.selects "AccessLattice$Reader" ⟨"AccessLattice$Reader", "topMark", "()I"⟩ ⟨"AccessLattice$Reader", "topMark", "()I"⟩ ∈ am_tbl := am_inS (k := 12) (q := (⟨"AccessLattice$Reader", "topMark", "()I"⟩, 8)) rfl
theorem wp_13 : Cond.selects "AccessLattice$Reader" ⟨"AccessLattice$Reader", "readNumber", "(LAccessLattice$Tape;)V"⟩ ⟨"AccessLattice$Reader", "readNumber", "(LAccessLattice$Tape;)V"⟩ ∈ am_tbl := am_inS (k := 13) (q := (⟨"AccessLattice$Reader", "readNumber", "(LAccessLattice$Tape;)V"⟩, 8)) rfl
theorem wp_14 : Cond.selects "AccessLattice$Reader" ⟨"AccessLattice$Reader", "readOperator", "(I)V"⟩ ⟨"AccessLattice$Reader", "readOperator", "(I)V"⟩ ∈ am_tbl := am_inS (k := 14) (q := (⟨"AccessLattice$Reader", "readOperator", "(I)V"⟩, 8)) rfl
theorem wp_15 : Cond.selects "AccessLattice$Reader" ⟨"AccessLattice$Reader", "popDownTo", "(I)V"⟩ ⟨"AccessLattice$Reader", "popDownTo", "(I)V"⟩ ∈ am_tbl := am_inS (k := 15) (q := (⟨"AccessLattice$Reader", "popDownTo", "(I)V"⟩, 8)) rfl
theorem wp_16 : Cond.selects "AccessLattice" ⟨"AccessLattice", "isRule", "(I)Z"⟩ ⟨"AccessLattice", "isRule", "(I)Z"⟩ ∈ am_tbl := am_inS (k := 16) (q := (⟨"AccessLattice", "isRule", "(I)Z"⟩, 10)) rfl
theorem wp_17 : Cond.selects "AccessLattice$Reader" ⟨"AccessLattice$Reader", "readMark", "(LAccessLattice$Tape;I)V"⟩ ⟨"AccessLattice$Reader", "readMark", "(LAccessLattice$Tape;I)V"⟩ ∈ am_tbl := am_inS (k := 17) (q := (⟨"AccessLattice$Reader", "readMark", "(LAccessLattice$Tape;I)V"⟩, 8)) rfl
theorem wp_18 : Cond.selects "AccessLattice$Reader" ⟨"AccessLattice$Reader", "readRole", "(LAccessLattice$Tape;)V"⟩ ⟨"AccessLattice$Reader", "readRole", "(LAccessLattice$Tape;)V"⟩ ∈ am_tbl := am_inS (k := 18) (q := (⟨"AccessLattice$Reader", "readRole", "(LAccessLattice$Tape;)V"⟩, 8)) rfl
theorem wp_19 : Cond.selects "AccessLattice$View" ⟨"AccessLattice$View", "meets", "(IIII)Z"⟩ ⟨"AccessLattice$View", "meets", "(IIII)Z"⟩ ∈ am_tbl := am_inS (k := 19) (q := (⟨"AccessLattice$View", "meets", "(IIII)Z"⟩, 8)) rfl
theorem wp_20 : Cond.selects "AccessLattice$View" ⟨"AccessLattice$View", "work", "(II)I"⟩ ⟨"AccessLattice$View", "work", "(II)I"⟩ ∈ am_tbl := am_inS (k := 20) (q := (⟨"AccessLattice$View", "work", "(II)I"⟩, 8)) rfl
theorem wp_21 : Cond.selects "AccessLattice" ⟨"AccessLattice", "tellGrounds", "(II)V"⟩ ⟨"AccessLattice", "tellGrounds", "(II)V"⟩ ∈ am_tbl := am_inS (k := 21) (q := (⟨"AccessLattice", "tellGrounds", "(II)V"⟩, 10)) rfl
theorem wp_22 : Cond.selects "AccessLattice$Roles" ⟨"AccessLattice$Roles", "walk", "([III[I)I"⟩ ⟨"AccessLattice$Roles", "walk", "([III[I)I"⟩ ∈ am_tbl := am_inS (k := 22) (q := (⟨"AccessLattice$Roles", "walk", "([III[I)I"⟩, 8)) rfl
theorem wp_23 : Cond.selects "AccessLattice$Roles" ⟨"AccessLattice$Roles", "nearest", "(II)I"⟩ ⟨"AccessLattice$Roles", "nearest", "(II)I"⟩ ∈ am_tbl := am_inS (k := 23) (q := (⟨"AccessLattice$Roles", "nearest", "(II)I"⟩, 8)) rfl
theorem wp_24 : Cond.selects "AccessLattice" ⟨"AccessLattice", "tellLoans", "(I)V"⟩ ⟨"AccessLattice", "tellLoans", "(I)V"⟩ ∈ am_tbl := am_inS (k := 24) (q := (⟨"AccessLattice", "tellLoans", "(I)V"⟩, 10)) rfl
theorem wp_25 : Cond.selects "AccessLattice$Search" ⟨"AccessLattice$Search", "addOptions", "(IIJ)V"⟩ ⟨"AccessLattice$Search", "addOptions", "(IIJ)V"⟩ ∈ am_tbl := am_inS (k := 25) (q := (⟨"AccessLattice$Search", "addOptions", "(IIJ)V"⟩, 6)) rfl
theorem wp_26 : Cond.selects "AccessLattice$Search" ⟨"AccessLattice$Search", "fewest", "(LAccessLattice$View;IIZ)I"⟩ ⟨"AccessLattice$Search", "fewest", "(LAccessLattice$View;IIZ)I"⟩ ∈ am_tbl := am_inS (k := 26) (q := (⟨"AccessLattice$Search", "fewest", "(LAccessLattice$View;IIZ)I"⟩, 6)) rfl
theorem wp_27 : Cond.selects "AccessLattice$Search" ⟨"AccessLattice$Search", "suits", "(LAccessLattice$View;IIIZ)Z"⟩ ⟨"AccessLattice$Search", "suits", "(LAccessLattice$View;IIIZ)Z"⟩ ∈ am_tbl := am_inS (k := 27) (q := (⟨"AccessLattice$Search", "suits", "(LAccessLattice$View;IIIZ)Z"⟩, 6)) rfl
theorem wp_28 : Cond.selects "AccessLattice$Search" ⟨"AccessLattice$Search", "sumUp", "(I)V"⟩ ⟨"AccessLattice$Search", "sumUp", "(I)V"⟩ ∈ am_tbl := am_inS (k := 28) (q := (⟨"AccessLattice$Search", "sumUp", "(I)V"⟩, 6)) rfl
theorem wp_29 : Cond.selects "AccessLattice$Search" ⟨"AccessLattice$Search", "pickNext", "(I)Z"⟩ ⟨"AccessLattice$Search", "pickNext", "(I)Z"⟩ ∈ am_tbl := am_inS (k := 29) (q := (⟨"AccessLattice$Search", "pickNext", "(I)Z"⟩, 6)) rfl
theorem wp_30 : Cond.selects "AccessLattice" ⟨"AccessLattice", "covers", "(II)Z"⟩ ⟨"AccessLattice", "covers", "(II)Z"⟩ ∈ am_tbl := am_inS (k := 30) (q := (⟨"AccessLattice", "covers", "(II)Z"⟩, 10)) rfl
theorem wp_31 : Cond.selects "AccessLattice" ⟨"AccessLattice", "clashWith", "(II)Z"⟩ ⟨"AccessLattice", "clashWith", "(II)Z"⟩ ∈ am_tbl := am_inS (k := 31) (q := (⟨"AccessLattice", "clashWith", "(II)Z"⟩, 10)) rfl
theorem wp_32 : Cond.selects "AccessLattice" ⟨"AccessLattice", "reaches", "(II)Z"⟩ ⟨"AccessLattice", "reaches", "(II)Z"⟩ ∈ am_tbl := am_inS (k := 32) (q := (⟨"AccessLattice", "reaches", "(II)Z"⟩, 10)) rfl
theorem wp_33 : Cond.selects "AccessLattice" ⟨"AccessLattice", "wouldTurn", "(IIIII)Z"⟩ ⟨"AccessLattice", "wouldTurn", "(IIIII)Z"⟩ ∈ am_tbl := am_inS (k := 33) (q := (⟨"AccessLattice", "wouldTurn", "(IIIII)Z"⟩, 10)) rfl
theorem wp_34 : Cond.selects "AccessLattice" ⟨"AccessLattice", "differing", "(IIII)I"⟩ ⟨"AccessLattice", "differing", "(IIII)I"⟩ ∈ am_tbl := am_inS (k := 34) (q := (⟨"AccessLattice", "differing", "(IIII)I"⟩, 10)) rfl
theorem wp_35 : Cond.selects "AccessLatticeModel" ⟨"AccessLatticeModel", "lattice", "()V"⟩ ⟨"AccessLatticeModel", "lattice", "()V"⟩ ∈ am_tbl := am_inS (k := 35) (q := (⟨"AccessLatticeModel", "lattice", "()V"⟩, 32)) rfl
theorem wp_36 : Cond.selects "AccessLatticeModel" ⟨"AccessLatticeModel", "depth", "(II)I"⟩ ⟨"AccessLatticeModel", "depth", "(II)I"⟩ ∈ am_tbl := am_inS (k := 36) (q := (⟨"AccessLatticeModel", "depth", "(II)I"⟩, 32)) rfl
theorem wp_37 : Cond.selects "AccessLatticeModel" ⟨"AccessLatticeModel", "isAnyUnlike", "()Z"⟩ ⟨"AccessLatticeModel", "isAnyUnlike", "()Z"⟩ ∈ am_tbl := am_inS (k := 37) (q := (⟨"AccessLatticeModel", "isAnyUnlike", "()Z"⟩, 32)) rfl
theorem wp_38 : Cond.selects "AccessLatticeModel" ⟨"AccessLatticeModel", "holders", "()V"⟩ ⟨"AccessLatticeModel", "holders", "()V"⟩ ∈ am_tbl := am_inS (k := 38) (q := (⟨"AccessLatticeModel", "holders", "()V"⟩, 32)) rfl
theorem wp_39 : Cond.selects "AccessLatticeModel" ⟨"AccessLatticeModel", "stand", "()V"⟩ ⟨"AccessLatticeModel", "stand", "()V"⟩ ∈ am_tbl := am_inS (k := 39) (q := (⟨"AccessLatticeModel", "stand", "()V"⟩, 32)) rfl
theorem wp_40 : Cond.selects "AccessLatticeModel" ⟨"AccessLatticeModel", "allUnder", "(I)I"⟩ ⟨"AccessLatticeModel", "allUnder", "(I)I"⟩ ∈ am_tbl := am_inS (k := 40) (q := (⟨"AccessLatticeModel", "allUnder", "(I)I"⟩, 32)) rfl
theorem wp_41 : Cond.selects "AccessLatticeModel" ⟨"AccessLatticeModel", "standAgain", "()V"⟩ ⟨"AccessLatticeModel", "standAgain", "()V"⟩ ∈ am_tbl := am_inS (k := 41) (q := (⟨"AccessLatticeModel", "standAgain", "()V"⟩, 32)) rfl
theorem wp_42 : Cond.selects "AccessLatticeModel" ⟨"AccessLatticeModel", "loanAt", "(II)I"⟩ ⟨"AccessLatticeModel", "loanAt", "(II)I"⟩ ∈ am_tbl := am_inS (k := 42) (q := (⟨"AccessLatticeModel", "loanAt", "(II)I"⟩, 32)) rfl
theorem wp_43 : Cond.selects "AccessLatticeModel" ⟨"AccessLatticeModel", "heldBy", "(I)I"⟩ ⟨"AccessLatticeModel", "heldBy", "(I)I"⟩ ∈ am_tbl := am_inS (k := 43) (q := (⟨"AccessLatticeModel", "heldBy", "(I)I"⟩, 32)) rfl
theorem wp_44 : Cond.selects "AccessLatticeModel" ⟨"AccessLatticeModel", "isUnlike", "(I)Z"⟩ ⟨"AccessLatticeModel", "isUnlike", "(I)Z"⟩ ∈ am_tbl := am_inS (k := 44) (q := (⟨"AccessLatticeModel", "isUnlike", "(I)Z"⟩, 32)) rfl
theorem wp_45 : Cond.selects "AccessLatticeModel" ⟨"AccessLatticeModel", "sourceFor", "(III)I"⟩ ⟨"AccessLatticeModel", "sourceFor", "(III)I"⟩ ∈ am_tbl := am_inS (k := 45) (q := (⟨"AccessLatticeModel", "sourceFor", "(III)I"⟩, 32)) rfl
theorem wp_46 : Cond.selects "AccessLatticeModel" ⟨"AccessLatticeModel", "standing", "()I"⟩ ⟨"AccessLatticeModel", "standing", "()I"⟩ ∈ am_tbl := am_inS (k := 46) (q := (⟨"AccessLatticeModel", "standing", "()I"⟩, 32)) rfl
theorem wp_47 : Cond.selects "AccessLatticeModel" ⟨"AccessLatticeModel", "reads", "()I"⟩ ⟨"AccessLatticeModel", "reads", "()I"⟩ ∈ am_tbl := am_inS (k := 47) (q := (⟨"AccessLatticeModel", "reads", "()I"⟩, 32)) rfl
theorem wp_48 : Cond.selects "AccessLatticeModel" ⟨"AccessLatticeModel", "begins", "()V"⟩ ⟨"AccessLatticeModel", "begins", "()V"⟩ ∈ am_tbl := am_inS (k := 48) (q := (⟨"AccessLatticeModel", "begins", "()V"⟩, 32)) rfl
theorem wp_49 : Cond.selects "AccessLatticeModel" ⟨"AccessLatticeModel", "either", "()V"⟩ ⟨"AccessLatticeModel", "either", "()V"⟩ ∈ am_tbl := am_inS (k := 49) (q := (⟨"AccessLatticeModel", "either", "()V"⟩, 32)) rfl
theorem wp_50 : Cond.selects "AccessLatticeModel" ⟨"AccessLatticeModel", "both", "()V"⟩ ⟨"AccessLatticeModel", "both", "()V"⟩ ∈ am_tbl := am_inS (k := 50) (q := (⟨"AccessLatticeModel", "both", "()V"⟩, 32)) rfl
theorem wp_51 : Cond.selects "AccessLatticeModel" ⟨"AccessLatticeModel", "compares", "()V"⟩ ⟨"AccessLatticeModel", "compares", "()V"⟩ ∈ am_tbl := am_inS (k := 51) (q := (⟨"AccessLatticeModel", "compares", "()V"⟩, 32)) rfl
theorem wp_52 : Cond.selects "AccessLatticeModel" ⟨"AccessLatticeModel", "adds", "()V"⟩ ⟨"AccessLatticeModel", "adds", "()V"⟩ ∈ am_tbl := am_inS (k := 52) (q := (⟨"AccessLatticeModel", "adds", "()V"⟩, 32)) rfl
theorem wp_53 : Cond.selects "AccessLatticeModel" ⟨"AccessLatticeModel", "times", "()V"⟩ ⟨"AccessLatticeModel", "times", "()V"⟩ ∈ am_tbl := am_inS (k := 53) (q := (⟨"AccessLatticeModel", "times", "()V"⟩, 32)) rfl
theorem wp_54 : Cond.selects "AccessLatticeModel" ⟨"AccessLatticeModel", "unit", "()V"⟩ ⟨"AccessLatticeModel", "unit", "()V"⟩ ∈ am_tbl := am_inS (k := 54) (q := (⟨"AccessLatticeModel", "unit", "()V"⟩, 32)) rfl
theorem wp_55 : Cond.selects "AccessLatticeModel" ⟨"AccessLatticeModel", "seesDigit", "()Z"⟩ ⟨"AccessLatticeModel", "seesDigit", "()Z"⟩ ∈ am_tbl := am_inS (k := 55) (q := (⟨"AccessLatticeModel", "seesDigit", "()Z"⟩, 32)) rfl
theorem wp_56 : Cond.selects "AccessLatticeModel" ⟨"AccessLatticeModel", "figures", "(I)I"⟩ ⟨"AccessLatticeModel", "figures", "(I)I"⟩ ∈ am_tbl := am_inS (k := 56) (q := (⟨"AccessLatticeModel", "figures", "(I)I"⟩, 32)) rfl
theorem wp_57 : Cond.selects "AccessLatticeModel" ⟨"AccessLatticeModel", "fails", "(I)V"⟩ ⟨"AccessLatticeModel", "fails", "(I)V"⟩ ∈ am_tbl := am_inS (k := 57) (q := (⟨"AccessLatticeModel", "fails", "(I)V"⟩, 32)) rfl
theorem wp_58 : Cond.selects "AccessLatticeModel" ⟨"AccessLatticeModel", "puts", "(I)V"⟩ ⟨"AccessLatticeModel", "puts", "(I)V"⟩ ∈ am_tbl := am_inS (k := 58) (q := (⟨"AccessLatticeModel", "puts", "(I)V"⟩, 32)) rfl
theorem wp_59 : Cond.selects "AccessLatticeModel" ⟨"AccessLatticeModel", "takes", "(I)V"⟩ ⟨"AccessLatticeModel", "takes", "(I)V"⟩ ∈ am_tbl := am_inS (k := 59) (q := (⟨"AccessLatticeModel", "takes", "(I)V"⟩, 32)) rfl
theorem wp_60 : Cond.selects "AccessLatticeModel" ⟨"AccessLatticeModel", "sees", "(I)Z"⟩ ⟨"AccessLatticeModel", "sees", "(I)Z"⟩ ∈ am_tbl := am_inS (k := 60) (q := (⟨"AccessLatticeModel", "sees", "(I)Z"⟩, 32)) rfl
theorem wp_61 : Cond.selects "AccessLatticeModel" ⟨"AccessLatticeModel", "joins", "(I)V"⟩ ⟨"AccessLatticeModel", "joins", "(I)V"⟩ ∈ am_tbl := am_inS (k := 61) (q := (⟨"AccessLatticeModel", "joins", "(I)V"⟩, 32)) rfl
theorem wp_62 : Cond.selects "AccessLatticeModel" ⟨"AccessLatticeModel", "isRule", "(I)Z"⟩ ⟨"AccessLatticeModel", "isRule", "(I)Z"⟩ ∈ am_tbl := am_inS (k := 62) (q := (⟨"AccessLatticeModel", "isRule", "(I)Z"⟩, 32)) rfl
theorem wp_63 : Cond.selects "AccessLatticeModel" ⟨"AccessLatticeModel", "ruleAt", "(II)I"⟩ ⟨"AccessLatticeModel", "ruleAt", "(II)I"⟩ ∈ am_tbl := am_inS (k := 63) (q := (⟨"AccessLatticeModel", "ruleAt", "(II)I"⟩, 32)) rfl
theorem wp_64 : Cond.selects "AccessLatticeModel" ⟨"AccessLatticeModel", "rulesThere", "()I"⟩ ⟨"AccessLatticeModel", "rulesThere", "()I"⟩ ∈ am_tbl := am_inS (k := 64) (q := (⟨"AccessLatticeModel", "rulesThere", "()I"⟩, 32)) rfl
theorem wp_65 : Cond.selects "AccessLatticeModel" ⟨"AccessLatticeModel", "answer", "(III)I"⟩ ⟨"AccessLatticeModel", "answer", "(III)I"⟩ ∈ am_tbl := am_inS (k := 65) (q := (⟨"AccessLatticeModel", "answer", "(III)I"⟩, 32)) rfl
theorem wp_66 : Cond.selects "AccessLatticeModel" ⟨"AccessLatticeModel", "fits", "(IIII)Z"⟩ ⟨"AccessLatticeModel", "fits", "(IIII)Z"⟩ ∈ am_tbl := am_inS (k := 66) (q := (⟨"AccessLatticeModel", "fits", "(IIII)Z"⟩, 32)) rfl
theorem wp_67 : Cond.selects "AccessLatticeModel" ⟨"AccessLatticeModel", "part", "()I"⟩ ⟨"AccessLatticeModel", "part", "()I"⟩ ∈ am_tbl := am_inS (k := 67) (q := (⟨"AccessLatticeModel", "part", "()I"⟩, 32)) rfl
theorem wp_68 : Cond.selects "AccessLatticeModel" ⟨"AccessLatticeModel", "books", "(IIII)V"⟩ ⟨"AccessLatticeModel", "books", "(IIII)V"⟩ ∈ am_tbl := am_inS (k := 68) (q := (⟨"AccessLatticeModel", "books", "(IIII)V"⟩, 32)) rfl
theorem wp_69 : Cond.selects "AccessLatticeModel" ⟨"AccessLatticeModel", "grounds", "(I)V"⟩ ⟨"AccessLatticeModel", "grounds", "(I)V"⟩ ∈ am_tbl := am_inS (k := 69) (q := (⟨"AccessLatticeModel", "grounds", "(I)V"⟩, 32)) rfl
theorem wp_70 : Cond.selects "AccessLatticeModel" ⟨"AccessLatticeModel", "grounds", "(II)V"⟩ ⟨"AccessLatticeModel", "grounds", "(II)V"⟩ ∈ am_tbl := am_inS (k := 70) (q := (⟨"AccessLatticeModel", "grounds", "(II)V"⟩, 32)) rfl
theorem wp_71 : Cond.selects "AccessLatticeModel" ⟨"AccessLatticeModel", "allAbove", "(I)I"⟩ ⟨"AccessLatticeModel", "allAbove", "(I)I"⟩ ∈ am_tbl := am_inS (k := 71) (q := (⟨"AccessLatticeModel", "allAbove", "(I)I"⟩, 32)) rfl
theorem wp_72 : Cond.selects "AccessLatticeModel" ⟨"AccessLatticeModel", "distances", "(IZ)V"⟩ ⟨"AccessLatticeModel", "distances", "(IZ)V"⟩ ∈ am_tbl := am_inS (k := 72) (q := (⟨"AccessLatticeModel", "distances", "(IZ)V"⟩, 32)) rfl
theorem wp_73 : Cond.selects "AccessLatticeModel" ⟨"AccessLatticeModel", "nearer", "(IZ)I"⟩ ⟨"AccessLatticeModel", "nearer", "(IZ)I"⟩ ∈ am_tbl := am_inS (k := 73) (q := (⟨"AccessLatticeModel", "nearer", "(IZ)I"⟩, 32)) rfl
theorem wp_74 : Cond.selects "AccessLatticeModel" ⟨"AccessLatticeModel", "whoBy", "(III)I"⟩ ⟨"AccessLatticeModel", "whoBy", "(III)I"⟩ ∈ am_tbl := am_inS (k := 74) (q := (⟨"AccessLatticeModel", "whoBy", "(III)I"⟩, 32)) rfl
theorem wp_75 : Cond.selects "AccessLatticeModel" ⟨"AccessLatticeModel", "tried", "(IIIIZ)I"⟩ ⟨"AccessLatticeModel", "tried", "(IIIIZ)I"⟩ ∈ am_tbl := am_inS (k := 75) (q := (⟨"AccessLatticeModel", "tried", "(IIIIZ)I"⟩, 32)) rfl
theorem wp_76 : Cond.selects "AccessLatticeModel" ⟨"AccessLatticeModel", "fitting", "(III)V"⟩ ⟨"AccessLatticeModel", "fitting", "(III)V"⟩ ∈ am_tbl := am_inS (k := 76) (q := (⟨"AccessLatticeModel", "fitting", "(III)V"⟩, 32)) rfl
theorem wp_77 : Cond.selects "AccessLatticeModel" ⟨"AccessLatticeModel", "answerBy", "(I)I"⟩ ⟨"AccessLatticeModel", "answerBy", "(I)I"⟩ ∈ am_tbl := am_inS (k := 77) (q := (⟨"AccessLatticeModel", "answerBy", "(I)I"⟩, 32)) rfl
theorem wp_78 : Cond.selects "AccessLatticeModel" ⟨"AccessLatticeModel", "offers", "(I)V"⟩ ⟨"AccessLatticeModel", "offers", "(I)V"⟩ ∈ am_tbl := am_inS (k := 78) (q := (⟨"AccessLatticeModel", "offers", "(I)V"⟩, 32)) rfl
theorem wp_79 : Cond.selects "AccessLatticeModel" ⟨"AccessLatticeModel", "tries", "(IIIIZ)Z"⟩ ⟨"AccessLatticeModel", "tries", "(IIIIZ)Z"⟩ ∈ am_tbl := am_inS (k := 79) (q := (⟨"AccessLatticeModel", "tries", "(IIIIZ)Z"⟩, 32)) rfl
theorem wp_80 : Cond.selects "AccessLatticeModel" ⟨"AccessLatticeModel", "does", "(IZ)Z"⟩ ⟨"AccessLatticeModel", "does", "(IZ)Z"⟩ ∈ am_tbl := am_inS (k := 80) (q := (⟨"AccessLatticeModel", "does", "(IZ)Z"⟩, 32)) rfl
theorem wp_81 : Cond.selects "AccessLatticeModel" ⟨"AccessLatticeModel", "turns", "(IIZ)V"⟩ ⟨"AccessLatticeModel", "turns", "(IIZ)V"⟩ ∈ am_tbl := am_inS (k := 81) (q := (⟨"AccessLatticeModel", "turns", "(IIZ)V"⟩, 32)) rfl
theorem wp_82 : Cond.selects "AccessLatticeModel" ⟨"AccessLatticeModel", "shows", "(III)V"⟩ ⟨"AccessLatticeModel", "shows", "(III)V"⟩ ∈ am_tbl := am_inS (k := 82) (q := (⟨"AccessLatticeModel", "shows", "(III)V"⟩, 32)) rfl
theorem wp_83 : Cond.selects "AccessLatticeModel" ⟨"AccessLatticeModel", "waysFrom", "(II)I"⟩ ⟨"AccessLatticeModel", "waysFrom", "(II)I"⟩ ∈ am_tbl := am_inS (k := 83) (q := (⟨"AccessLatticeModel", "waysFrom", "(II)I"⟩, 32)) rfl
theorem wp_84 : Cond.selects "AccessLatticeModel" ⟨"AccessLatticeModel", "shadows", "(II)Z"⟩ ⟨"AccessLatticeModel", "shadows", "(II)Z"⟩ ∈ am_tbl := am_inS (k := 84) (q := (⟨"AccessLatticeModel", "shadows", "(II)Z"⟩, 32)) rfl
theorem wp_85 : Cond.selects "AccessLatticeModel" ⟨"AccessLatticeModel", "isWithin", "(II)Z"⟩ ⟨"AccessLatticeModel", "isWithin", "(II)Z"⟩ ∈ am_tbl := am_inS (k := 85) (q := (⟨"AccessLatticeModel", "isWithin", "(II)Z"⟩, 32)) rfl
theorem wp_86 : Cond.selects "AccessLatticeModel" ⟨"AccessLatticeModel", "clashes", "(II)Z"⟩ ⟨"AccessLatticeModel", "clashes", "(II)Z"⟩ ∈ am_tbl := am_inS (k := 86) (q := (⟨"AccessLatticeModel", "clashes", "(II)Z"⟩, 32)) rfl
theorem wp_87 : Cond.selects "AccessLatticeModel" ⟨"AccessLatticeModel", "levels", "()V"⟩ ⟨"AccessLatticeModel", "levels", "()V"⟩ ∈ am_tbl := am_inS (k := 87) (q := (⟨"AccessLatticeModel", "levels", "()V"⟩, 32)) rfl
theorem wn_0 : Cond.methodLinkNest "AccessLattice" 11 ⟨"AccessLattice$View", "<init>", "()V"⟩ "AccessLattice" ∈ am_nst := List.mem_of_getElem? (i := 0) rfl
theorem wn_1 : Cond.methodLinkNest "AccessLattice$Roles" 40 ⟨"AccessLattice", "has", "(II)Z"⟩ "AccessLattice" ∈ am_nst := List.mem_of_getElem? (i := 1) rfl
theorem wn_2 : Cond.methodLinkNest "AccessLattice$State" 20 ⟨"AccessLattice$Loans", "<init>", "()V"⟩ "AccessLattice" ∈ am_nst := List.mem_of_getElem? (i := 2) rfl
theorem wn_3 : Cond.methodLinkNest "AccessLattice$State" 27 ⟨"AccessLattice$Rules", "<init>", "()V"⟩ "AccessLattice" ∈ am_nst := List.mem_of_getElem? (i := 3) rfl
theorem wn_4 : Cond.methodLinkNest "AccessLattice" 26 ⟨"AccessLattice$Tape", "<init>", "()V"⟩ "AccessLattice" ∈ am_nst := List.mem_of_getElem? (i := 4) rfl
theorem wn_5 : Cond.methodLinkNest "AccessLattice" 33 ⟨"AccessLattice$Reader", "<init>", "()V"⟩ "AccessLattice" ∈ am_nst := List.mem_of_getElem? (i := 5) rfl
theorem wn_6 : Cond.methodLinkNest "AccessLattice" 40 ⟨"AccessLattice$Search", "<init>", "()V"⟩ "AccessLattice" ∈ am_nst := List.mem_of_getElem? (i := 6) rfl
theorem wn_7 : Cond.methodLinkNest "AccessLattice" 47 ⟨"AccessLattice$Grounds", "<init>", "()V"⟩ "AccessLattice" ∈ am_nst := List.mem_of_getElem? (i := 7) rfl
theorem wn_8 : Cond.methodLinkNest "AccessLattice$Rules" 63 ⟨"AccessLattice", "has", "(II)Z"⟩ "AccessLattice" ∈ am_nst := List.mem_of_getElem? (i := 8) rfl
theorem wn_9 : Cond.methodLinkNest "AccessLattice$View" 98 ⟨"AccessLattice", "has", "(II)Z"⟩ "AccessLattice" ∈ am_nst := List.mem_of_getElem? (i := 9) rfl
theorem wn_10 : Cond.methodLinkNest "AccessLattice$View" 102 ⟨"AccessLattice", "hasLong", "(JI)Z"⟩ "AccessLattice" ∈ am_nst := List.mem_of_getElem? (i := 10) rfl
theorem wn_11 : Cond.methodLinkNest "AccessLattice$State" 64 ⟨"AccessLattice", "has", "(II)Z"⟩ "AccessLattice" ∈ am_nst := List.mem_of_getElem? (i := 11) rfl
theorem wn_12 : Cond.methodLinkNest "AccessLattice$Reader" 77 ⟨"AccessLattice", "between", "(III)Z"⟩ "AccessLattice" ∈ am_nst := List.mem_of_getElem? (i := 12) rfl
theorem wn_13 : Cond.methodLinkNest "AccessLattice$Tape" 23 ⟨"AccessLattice", "between", "(III)Z"⟩ "AccessLattice" ∈ am_nst := List.mem_of_getElem? (i := 13) rfl
theorem wn_14 : Cond.methodLinkNest "AccessLattice$Reader" 111 ⟨"AccessLattice", "isRole", "(I)Z"⟩ "AccessLattice" ∈ am_nst := List.mem_of_getElem? (i := 14) rfl
theorem wn_15 : Cond.methodLinkNest "AccessLattice$View" 188 ⟨"AccessLattice", "between", "(III)Z"⟩ "AccessLattice" ∈ am_nst := List.mem_of_getElem? (i := 15) rfl
theorem wn_16 : Cond.methodLinkNest "AccessLattice$Rules" 71 ⟨"AccessLattice", "between", "(III)Z"⟩ "AccessLattice" ∈ am_nst := List.mem_of_getElem? (i := 16) rfl
theorem wn_17 : Cond.methodLinkNest "AccessLattice$Search" 78 ⟨"AccessLattice", "hasLong", "(JI)Z"⟩ "AccessLattice" ∈ am_nst := List.mem_of_getElem? (i := 17) rfl
theorem wn_18 : Cond.methodLinkNest "AccessLattice$Search" 82 ⟨"AccessLattice", "between", "(III)Z"⟩ "AccessLattice" ∈ am_nst := List.mem_of_getElem? (i := 18) rfl
theorem at_0 : am_infos[0]? = some (⟨"AccessLattice", "<init>", "()V"⟩, prog_1_method_1_code, 1, none) := rfl
theorem par_0 : (parseMethodDescriptor "()V").map (fun d => d.parameters.length) = some 0 := by decide +kernel
theorem at_1 : am_infos[1]? = some (⟨"AccessLattice$View", "<init>", "()V"⟩, prog_10_method_1_code, 1, none) := rfl
theorem par_1 : (parseMethodDescriptor "()V").map (fun d => d.parameters.length) = some 0 := by decide +kernel
theorem at_2 : am_infos[2]? = some (⟨"AccessLattice$State", "<init>", "()V"⟩, prog_8_method_1_code, 2, none) := rfl
theorem par_2 : (parseMethodDescriptor "()V").map (fun d => d.parameters.length) = some 0 := by decide +kernel
theorem at_3 : am_infos[3]? = some (⟨"AccessLattice$Roles", "<init>", "()V"⟩, prog_5_method_1_code, 1, none) := rfl
theorem par_3 : (parseMethodDescriptor "()V").map (fun d => d.parameters.length) = some 0 := by decide +kernel
theorem at_4 : am_infos[4]? = some (⟨"AccessLattice$Roles", "close", "()V"⟩, prog_5_method_3_code, 3, none) := rfl
theorem par_4 : (parseMethodDescriptor "()V").map (fun d => d.parameters.length) = some 0 := by decide +kernel
theorem at_5 : am_infos[5]? = some (⟨"AccessLattice", "has", "(II)Z"⟩, prog_1_method_61_code, 2, (some .boolean)) := rfl
theorem par_5 : (parseMethodDescriptor "(II)Z").map (fun d => d.parameters.length) = some 2 := by decide +kernel
theorem at_6 : am_infos[6]? = some (⟨"AccessLattice$Loans", "<init>", "()V"⟩, prog_3_method_1_code, 1, none) := rfl
theorem par_6 : (parseMethodDescriptor "()V").map (fun d => d.parameters.length) = some 0 := by decide +kernel
theorem at_7 : am_infos[7]? = some (⟨"AccessLattice$Rules", "<init>", "()V"⟩, prog_6_method_1_code, 1, none) := rfl
theorem par_7 : (parseMethodDescriptor "()V").map (fun d => d.parameters.length) = some 0 := by decide +kernel
theorem at_8 : am_infos[8]? = some (⟨"AccessLattice$Tape", "<init>", "()V"⟩, prog_9_method_1_code, 1, none) := rfl
theorem par_8 : (parseMethodDescriptor "()V").map (fun d => d.parameters.length) = some 0 := by decide +kernel
theorem at_9 : am_infos[9]? = some (⟨"AccessLattice$Reader", "<init>", "()V"⟩, prog_4_method_1_code, 1, none) := rfl
theorem par_9 : (parseMethodDescriptor "()V").map (fun d => d.parameters.length) = some 0 := by decide +kernel
theorem at_10 : am_infos[10]? = some (⟨"AccessLattice$Search", "<init>", "()V"⟩, prog_7_method_1_code, 1, none) := rfl
theorem par_10 : (parseMethodDescriptor "()V").map (fun d => d.parameters.length) = some 0 := by decide +kernel
theorem at_11 : am_infos[11]? = some (⟨"AccessLattice$Grounds", "<init>", "()V"⟩, prog_2_method_1_code, 1, none) := rfl
theorem par_11 : (parseMethodDescriptor "()V").map (fun d => d.parameters.length) = some 0 := by decide +kernel
theorem at_12 : am_infos[12]? = some (⟨"AccessLattice", "attribute", "(IIII)I"⟩, prog_1_method_2_code, 8, (some .int)) := rfl
theorem par_12 : (parseMethodDescriptor "(IIII)I").map (fun d => d.parameters.length) = some 4 := by decide +kernel
theorem at_13 : am_infos[13]? = some (⟨"AccessLattice", "within01", "(I)Z"⟩, prog_1_method_53_code, 1, (some .boolean)) := rfl
theorem par_13 : (parseMethodDescriptor "(I)Z").map (fun d => d.parameters.length) = some 1 := by decide +kernel
theorem at_14 : am_infos[14]? = some (⟨"AccessLattice", "isThing", "(I)Z"⟩, prog_1_method_55_code, 1, (some .boolean)) := rfl
theorem par_14 : (parseMethodDescriptor "(I)Z").map (fun d => d.parameters.length) = some 1 := by decide +kernel
theorem at_15 : am_infos[15]? = some (⟨"AccessLattice", "between", "(III)Z"⟩, prog_1_method_52_code, 3, (some .boolean)) := rfl
theorem par_15 : (parseMethodDescriptor "(III)Z").map (fun d => d.parameters.length) = some 3 := by decide +kernel
theorem at_16 : am_infos[16]? = some (⟨"AccessLattice", "within", "(II)I"⟩, prog_1_method_3_code, 4, (some .int)) := rfl
theorem par_16 : (parseMethodDescriptor "(II)I").map (fun d => d.parameters.length) = some 2 := by decide +kernel
theorem at_17 : am_infos[17]? = some (⟨"AccessLattice$State", "stepsUp", "(II)I"⟩, prog_8_method_2_code, 5, (some .int)) := rfl
theorem par_17 : (parseMethodDescriptor "(II)I").map (fun d => d.parameters.length) = some 2 := by decide +kernel
theorem at_18 : am_infos[18]? = some (⟨"AccessLattice", "senior", "(III)I"⟩, prog_1_method_4_code, 4, (some .int)) := rfl
theorem par_18 : (parseMethodDescriptor "(III)I").map (fun d => d.parameters.length) = some 3 := by decide +kernel
theorem at_19 : am_infos[19]? = some (⟨"AccessLattice", "isRole", "(I)Z"⟩, prog_1_method_56_code, 1, (some .boolean)) := rfl
theorem par_19 : (parseMethodDescriptor "(I)Z").map (fun d => d.parameters.length) = some 1 := by decide +kernel
theorem at_20 : am_infos[20]? = some (⟨"AccessLattice", "addSenior", "(II)I"⟩, prog_1_method_5_code, 4, (some .int)) := rfl
theorem par_20 : (parseMethodDescriptor "(II)I").map (fun d => d.parameters.length) = some 2 := by decide +kernel
theorem at_21 : am_infos[21]? = some (⟨"AccessLattice$Roles", "put", "(IIZ)V"⟩, prog_5_method_2_code, 4, none) := rfl
theorem par_21 : (parseMethodDescriptor "(IIZ)V").map (fun d => d.parameters.length) = some 3 := by decide +kernel
theorem at_22 : am_infos[22]? = some (⟨"AccessLattice$View", "someBarred", "()Z"⟩, prog_10_method_7_code, 2, (some .boolean)) := rfl
theorem par_22 : (parseMethodDescriptor "()Z").map (fun d => d.parameters.length) = some 0 := by decide +kernel
theorem at_23 : am_infos[23]? = some (⟨"AccessLattice$View", "settle", "(I)V"⟩, prog_10_method_2_code, 3, none) := rfl
theorem par_23 : (parseMethodDescriptor "(I)V").map (fun d => d.parameters.length) = some 1 := by decide +kernel
theorem at_24 : am_infos[24]? = some (⟨"AccessLattice$Roles", "spread", "(I)I"⟩, prog_5_method_4_code, 4, (some .int)) := rfl
theorem par_24 : (parseMethodDescriptor "(I)I").map (fun d => d.parameters.length) = some 1 := by decide +kernel
theorem at_25 : am_infos[25]? = some (⟨"AccessLattice$View", "turnTo", "(I)V"⟩, prog_10_method_3_code, 2, none) := rfl
theorem par_25 : (parseMethodDescriptor "(I)V").map (fun d => d.parameters.length) = some 1 := by decide +kernel
theorem at_26 : am_infos[26]? = some (⟨"AccessLattice$Rules", "timely", "(I)I"⟩, prog_6_method_5_code, 4, (some .int)) := rfl
theorem par_26 : (parseMethodDescriptor "(I)I").map (fun d => d.parameters.length) = some 1 := by decide +kernel
theorem at_27 : am_infos[27]? = some (⟨"AccessLattice$Rules", "end", "(I)J"⟩, prog_6_method_4_code, 2, (some .long)) := rfl
theorem par_27 : (parseMethodDescriptor "(I)J").map (fun d => d.parameters.length) = some 1 := by decide +kernel
theorem at_28 : am_infos[28]? = some (⟨"AccessLattice$View", "settleLoans", "(J)V"⟩, prog_10_method_5_code, 9, none) := rfl
theorem par_28 : (parseMethodDescriptor "(J)V").map (fun d => d.parameters.length) = some 1 := by decide +kernel
theorem at_29 : am_infos[29]? = some (⟨"AccessLattice", "hasLong", "(JI)Z"⟩, prog_1_method_62_code, 3, (some .boolean)) := rfl
theorem par_29 : (parseMethodDescriptor "(JI)Z").map (fun d => d.parameters.length) = some 2 := by decide +kernel
theorem at_30 : am_infos[30]? = some (⟨"AccessLattice$State", "isBarred", "(I)Z"⟩, prog_8_method_4_code, 3, (some .boolean)) := rfl
theorem par_30 : (parseMethodDescriptor "(I)Z").map (fun d => d.parameters.length) = some 1 := by decide +kernel
theorem at_31 : am_infos[31]? = some (⟨"AccessLattice", "assign", "(III)I"⟩, prog_1_method_6_code, 5, (some .int)) := rfl
theorem par_31 : (parseMethodDescriptor "(III)I").map (fun d => d.parameters.length) = some 3 := by decide +kernel
theorem at_32 : am_infos[32]? = some (⟨"AccessLattice", "isUser", "(I)Z"⟩, prog_1_method_54_code, 1, (some .boolean)) := rfl
theorem par_32 : (parseMethodDescriptor "(I)Z").map (fun d => d.parameters.length) = some 1 := by decide +kernel
theorem at_33 : am_infos[33]? = some (⟨"java/lang/Integer", "bitCount", "(I)I"⟩, prog_13_method_49_code, 1, (some .int)) := rfl
theorem par_33 : (parseMethodDescriptor "(I)I").map (fun d => d.parameters.length) = some 1 := by decide +kernel
theorem at_34 : am_infos[34]? = some (⟨"AccessLattice", "exclude", "(III)I"⟩, prog_1_method_7_code, 4, (some .int)) := rfl
theorem par_34 : (parseMethodDescriptor "(III)I").map (fun d => d.parameters.length) = some 3 := by decide +kernel
theorem at_35 : am_infos[35]? = some (⟨"AccessLattice$State", "toggleBarred", "(II)V"⟩, prog_8_method_3_code, 3, none) := rfl
theorem par_35 : (parseMethodDescriptor "(II)V").map (fun d => d.parameters.length) = some 2 := by decide +kernel
theorem at_36 : am_infos[36]? = some (⟨"AccessLattice", "step", "(I)I"⟩, prog_1_method_8_code, 2, (some .int)) := rfl
theorem par_36 : (parseMethodDescriptor "(I)I").map (fun d => d.parameters.length) = some 1 := by decide +kernel
theorem at_37 : am_infos[37]? = some (⟨"AccessLattice", "lend", "(IIIII)I"⟩, prog_1_method_9_code, 9, (some .int)) := rfl
theorem par_37 : (parseMethodDescriptor "(IIIII)I").map (fun d => d.parameters.length) = some 5 := by decide +kernel
theorem at_38 : am_infos[38]? = some (⟨"AccessLattice$View", "sourceFor", "(III)I"⟩, prog_10_method_8_code, 6, (some .int)) := rfl
theorem par_38 : (parseMethodDescriptor "(III)I").map (fun d => d.parameters.length) = some 3 := by decide +kernel
theorem at_39 : am_infos[39]? = some (⟨"AccessLattice$View", "isStanding", "(I)Z"⟩, prog_10_method_6_code, 2, (some .boolean)) := rfl
theorem par_39 : (parseMethodDescriptor "(I)Z").map (fun d => d.parameters.length) = some 1 := by decide +kernel
theorem at_40 : am_infos[40]? = some (⟨"AccessLattice", "takeBack", "(I)I"⟩, prog_1_method_10_code, 3, (some .int)) := rfl
theorem par_40 : (parseMethodDescriptor "(I)I").map (fun d => d.parameters.length) = some 1 := by decide +kernel
theorem at_41 : am_infos[41]? = some (⟨"AccessLattice", "isLoan", "(I)Z"⟩, prog_1_method_59_code, 2, (some .boolean)) := rfl
theorem par_41 : (parseMethodDescriptor "(I)Z").map (fun d => d.parameters.length) = some 1 := by decide +kernel
theorem at_42 : am_infos[42]? = some (⟨"java/lang/Long", "bitCount", "(J)I"⟩, prog_14_method_50_code, 2, (some .int)) := rfl
theorem par_42 : (parseMethodDescriptor "(J)I").map (fun d => d.parameters.length) = some 1 := by decide +kernel
theorem at_43 : am_infos[43]? = some (⟨"AccessLattice", "loan", "(II)I"⟩, prog_1_method_11_code, 4, (some .int)) := rfl
theorem par_43 : (parseMethodDescriptor "(II)I").map (fun d => d.parameters.length) = some 2 := by decide +kernel
theorem at_44 : am_infos[44]? = some (⟨"AccessLattice", "holds", "(II)I"⟩, prog_1_method_12_code, 3, (some .int)) := rfl
theorem par_44 : (parseMethodDescriptor "(II)I").map (fun d => d.parameters.length) = some 2 := by decide +kernel
theorem at_45 : am_infos[45]? = some (⟨"AccessLattice", "feed", "(I)I"⟩, prog_1_method_13_code, 2, (some .int)) := rfl
theorem par_45 : (parseMethodDescriptor "(I)I").map (fun d => d.parameters.length) = some 1 := by decide +kernel
theorem at_46 : am_infos[46]? = some (⟨"AccessLattice", "rule", "(IIIII)I"⟩, prog_1_method_14_code, 12, (some .int)) := rfl
theorem par_46 : (parseMethodDescriptor "(IIIII)I").map (fun d => d.parameters.length) = some 5 := by decide +kernel
theorem at_47 : am_infos[47]? = some (⟨"AccessLattice$Reader", "readCondition", "(LAccessLattice$Tape;)I"⟩, prog_4_method_3_code, 3, (some .int)) := rfl
theorem par_47 : (parseMethodDescriptor "(LAccessLattice$Tape;)I").map (fun d => d.parameters.length) = some 1 := by decide +kernel
theorem at_48 : am_infos[48]? = some (⟨"AccessLattice$Reader", "start", "()V"⟩, prog_4_method_2_code, 1, none) := rfl
theorem par_48 : (parseMethodDescriptor "()V").map (fun d => d.parameters.length) = some 0 := by decide +kernel
theorem at_49 : am_infos[49]? = some (⟨"AccessLattice$Reader", "readOperand", "(LAccessLattice$Tape;)V"⟩, prog_4_method_4_code, 3, none) := rfl
theorem par_49 : (parseMethodDescriptor "(LAccessLattice$Tape;)V").map (fun d => d.parameters.length) = some 1 := by decide +kernel
theorem at_50 : am_infos[50]? = some (⟨"AccessLattice$Tape", "at", "(I)I"⟩, prog_9_method_2_code, 2, (some .int)) := rfl
theorem par_50 : (parseMethodDescriptor "(I)I").map (fun d => d.parameters.length) = some 1 := by decide +kernel
theorem at_51 : am_infos[51]? = some (⟨"AccessLattice$Reader", "openWith", "(I)V"⟩, prog_4_method_5_code, 2, none) := rfl
theorem par_51 : (parseMethodDescriptor "(I)V").map (fun d => d.parameters.length) = some 1 := by decide +kernel
theorem at_52 : am_infos[52]? = some (⟨"AccessLattice$Reader", "push", "(I)V"⟩, prog_4_method_14_code, 2, none) := rfl
theorem par_52 : (parseMethodDescriptor "(I)V").map (fun d => d.parameters.length) = some 1 := by decide +kernel
theorem at_53 : am_infos[53]? = some (⟨"AccessLattice$Reader", "readAttribute", "(II)V"⟩, prog_4_method_6_code, 3, none) := rfl
theorem par_53 : (parseMethodDescriptor "(II)V").map (fun d => d.parameters.length) = some 2 := by decide +kernel
theorem at_54 : am_infos[54]? = some (⟨"AccessLattice$Reader", "takeOperand", "(II)V"⟩, prog_4_method_8_code, 3, none) := rfl
theorem par_54 : (parseMethodDescriptor "(II)V").map (fun d => d.parameters.length) = some 2 := by decide +kernel
theorem at_55 : am_infos[55]? = some (⟨"AccessLattice$Reader", "emit", "(I)V"⟩, prog_4_method_15_code, 2, none) := rfl
theorem par_55 : (parseMethodDescriptor "(I)V").map (fun d => d.parameters.length) = some 1 := by decide +kernel
theorem at_56 : am_infos[56]? = some (⟨"AccessLattice$Reader", "endOperand", "()V"⟩, prog_4_method_9_code, 2, none) := rfl
theorem par_56 : (parseMethodDescriptor "()V").map (fun d => d.parameters.length) = some 0 := by decide +kernel
theorem at_57 : am_infos[57]? = some (⟨"AccessLattice$Reader", "topMark", "()I"⟩, prog_4_method_13_code, 1, (some .int)) := rfl
theorem par_57 : (parseMethodDescriptor "()I").map (fun d => d.parameters.length) = some 0 := by decide +kernel
theorem at_58 : am_infos[58]? = some (⟨"AccessLattice$Reader", "readNumber", "(LAccessLattice$Tape;)V"⟩, prog_4_method_7_code, 5, none) := rfl
theorem par_58 : (parseMethodDescriptor "(LAccessLattice$Tape;)V").map (fun d => d.parameters.length) = some 1 := by decide +kernel
theorem at_59 : am_infos[59]? = some (⟨"AccessLattice$Tape", "isFigure", "(I)Z"⟩, prog_9_method_3_code, 2, (some .boolean)) := rfl
theorem par_59 : (parseMethodDescriptor "(I)Z").map (fun d => d.parameters.length) = some 1 := by decide +kernel
theorem at_60 : am_infos[60]? = some (⟨"AccessLattice$Reader", "readOperator", "(I)V"⟩, prog_4_method_10_code, 3, none) := rfl
theorem par_60 : (parseMethodDescriptor "(I)V").map (fun d => d.parameters.length) = some 1 := by decide +kernel
theorem at_61 : am_infos[61]? = some (⟨"AccessLattice$Reader", "rankOf", "(I)I"⟩, prog_4_method_12_code, 1, (some .int)) := rfl
theorem par_61 : (parseMethodDescriptor "(I)I").map (fun d => d.parameters.length) = some 1 := by decide +kernel
theorem at_62 : am_infos[62]? = some (⟨"AccessLattice$Reader", "popDownTo", "(I)V"⟩, prog_4_method_11_code, 3, none) := rfl
theorem par_62 : (parseMethodDescriptor "(I)V").map (fun d => d.parameters.length) = some 1 := by decide +kernel
theorem at_63 : am_infos[63]? = some (⟨"AccessLattice$Rules", "keepCode", "(I[II)V"⟩, prog_6_method_2_code, 5, none) := rfl
theorem par_63 : (parseMethodDescriptor "(I[II)V").map (fun d => d.parameters.length) = some 3 := by decide +kernel
theorem at_64 : am_infos[64]? = some (⟨"AccessLattice$Rules", "open", "(IZZ)V"⟩, prog_6_method_3_code, 5, none) := rfl
theorem par_64 : (parseMethodDescriptor "(IZZ)V").map (fun d => d.parameters.length) = some 3 := by decide +kernel
theorem at_65 : am_infos[65]? = some (⟨"AccessLattice", "off", "(I)I"⟩, prog_1_method_15_code, 2, (some .int)) := rfl
theorem par_65 : (parseMethodDescriptor "(I)I").map (fun d => d.parameters.length) = some 1 := by decide +kernel
theorem at_66 : am_infos[66]? = some (⟨"AccessLattice", "isRule", "(I)Z"⟩, prog_1_method_60_code, 2, (some .boolean)) := rfl
theorem par_66 : (parseMethodDescriptor "(I)Z").map (fun d => d.parameters.length) = some 1 := by decide +kernel
theorem at_67 : am_infos[67]? = some (⟨"AccessLattice", "of", "(II)I"⟩, prog_1_method_16_code, 4, (some .int)) := rfl
theorem par_67 : (parseMethodDescriptor "(II)I").map (fun d => d.parameters.length) = some 2 := by decide +kernel
theorem at_68 : am_infos[68]? = some (⟨"AccessLattice", "uses", "(II)I"⟩, prog_1_method_17_code, 3, (some .int)) := rfl
theorem par_68 : (parseMethodDescriptor "(II)I").map (fun d => d.parameters.length) = some 2 := by decide +kernel
theorem at_69 : am_infos[69]? = some (⟨"AccessLattice", "left", "(I)I"⟩, prog_1_method_18_code, 3, (some .int)) := rfl
theorem par_69 : (parseMethodDescriptor "(I)I").map (fun d => d.parameters.length) = some 1 := by decide +kernel
theorem at_70 : am_infos[70]? = some (⟨"AccessLattice", "seniors", "()I"⟩, prog_1_method_19_code, 4, (some .int)) := rfl
theorem par_70 : (parseMethodDescriptor "()I").map (fun d => d.parameters.length) = some 0 := by decide +kernel
theorem at_71 : am_infos[71]? = some (⟨"AccessLattice$Reader", "readPairs", "(LAccessLattice$Tape;)I"⟩, prog_4_method_16_code, 3, (some .int)) := rfl
theorem par_71 : (parseMethodDescriptor "(LAccessLattice$Tape;)I").map (fun d => d.parameters.length) = some 1 := by decide +kernel
theorem at_72 : am_infos[72]? = some (⟨"AccessLattice$Reader", "readMark", "(LAccessLattice$Tape;I)V"⟩, prog_4_method_17_code, 3, none) := rfl
theorem par_72 : (parseMethodDescriptor "(LAccessLattice$Tape;I)V").map (fun d => d.parameters.length) = some 2 := by decide +kernel
theorem at_73 : am_infos[73]? = some (⟨"AccessLattice$Reader", "readRole", "(LAccessLattice$Tape;)V"⟩, prog_4_method_18_code, 4, none) := rfl
theorem par_73 : (parseMethodDescriptor "(LAccessLattice$Tape;)V").map (fun d => d.parameters.length) = some 1 := by decide +kernel
theorem at_74 : am_infos[74]? = some (⟨"AccessLattice", "may", "(III)I"⟩, prog_1_method_20_code, 6, (some .int)) := rfl
theorem par_74 : (parseMethodDescriptor "(III)I").map (fun d => d.parameters.length) = some 3 := by decide +kernel
theorem at_75 : am_infos[75]? = some (⟨"AccessLattice", "isAsked", "(III)Z"⟩, prog_1_method_58_code, 3, (some .boolean)) := rfl
theorem par_75 : (parseMethodDescriptor "(III)Z").map (fun d => d.parameters.length) = some 3 := by decide +kernel
theorem at_76 : am_infos[76]? = some (⟨"AccessLattice", "isAct", "(I)Z"⟩, prog_1_method_57_code, 1, (some .boolean)) := rfl
theorem par_76 : (parseMethodDescriptor "(I)Z").map (fun d => d.parameters.length) = some 1 := by decide +kernel
theorem at_77 : am_infos[77]? = some (⟨"AccessLattice$View", "rulesOn", "(II)I"⟩, prog_10_method_12_code, 7, (some .int)) := rfl
theorem par_77 : (parseMethodDescriptor "(II)I").map (fun d => d.parameters.length) = some 2 := by decide +kernel
theorem at_78 : am_infos[78]? = some (⟨"AccessLattice$View", "decider", "(IIII)I"⟩, prog_10_method_14_code, 6, (some .int)) := rfl
theorem par_78 : (parseMethodDescriptor "(IIII)I").map (fun d => d.parameters.length) = some 4 := by decide +kernel
theorem at_79 : am_infos[79]? = some (⟨"AccessLattice$Rules", "ofRoles", "(II)I"⟩, prog_6_method_6_code, 5, (some .int)) := rfl
theorem par_79 : (parseMethodDescriptor "(II)I").map (fun d => d.parameters.length) = some 2 := by decide +kernel
theorem at_80 : am_infos[80]? = some (⟨"AccessLattice$View", "met", "(IIII)I"⟩, prog_10_method_13_code, 7, (some .int)) := rfl
theorem par_80 : (parseMethodDescriptor "(IIII)I").map (fun d => d.parameters.length) = some 4 := by decide +kernel
theorem at_81 : am_infos[81]? = some (⟨"AccessLattice$View", "meets", "(IIII)Z"⟩, prog_10_method_17_code, 9, (some .boolean)) := rfl
theorem par_81 : (parseMethodDescriptor "(IIII)Z").map (fun d => d.parameters.length) = some 4 := by decide +kernel
theorem at_82 : am_infos[82]? = some (⟨"AccessLattice$View", "work", "(II)I"⟩, prog_10_method_18_code, 5, (some .int)) := rfl
theorem par_82 : (parseMethodDescriptor "(II)I").map (fun d => d.parameters.length) = some 2 := by decide +kernel
theorem at_83 : am_infos[83]? = some (⟨"AccessLattice$View", "combined", "(III)I"⟩, prog_10_method_19_code, 3, (some .int)) := rfl
theorem par_83 : (parseMethodDescriptor "(III)I").map (fun d => d.parameters.length) = some 3 := by decide +kernel
theorem at_84 : am_infos[84]? = some (⟨"AccessLattice$Rules", "first", "(I)I"⟩, prog_6_method_7_code, 4, (some .int)) := rfl
theorem par_84 : (parseMethodDescriptor "(I)I").map (fun d => d.parameters.length) = some 1 := by decide +kernel
theorem at_85 : am_infos[85]? = some (⟨"AccessLattice$Rules", "answerBy", "(I)I"⟩, prog_6_method_8_code, 2, (some .int)) := rfl
theorem par_85 : (parseMethodDescriptor "(I)I").map (fun d => d.parameters.length) = some 1 := by decide +kernel
theorem at_86 : am_infos[86]? = some (⟨"AccessLattice", "tellGrounds", "(II)V"⟩, prog_1_method_21_code, 9, none) := rfl
theorem par_86 : (parseMethodDescriptor "(II)V").map (fun d => d.parameters.length) = some 2 := by decide +kernel
theorem at_87 : am_infos[87]? = some (⟨"AccessLattice$Grounds", "add", "(II)V"⟩, prog_2_method_2_code, 3, none) := rfl
theorem par_87 : (parseMethodDescriptor "(II)V").map (fun d => d.parameters.length) = some 2 := by decide +kernel
theorem at_88 : am_infos[88]? = some (⟨"AccessLattice$View", "lentTo", "(I)I"⟩, prog_10_method_9_code, 4, (some .int)) := rfl
theorem par_88 : (parseMethodDescriptor "(I)I").map (fun d => d.parameters.length) = some 1 := by decide +kernel
theorem at_89 : am_infos[89]? = some (⟨"AccessLattice$Roles", "fewest", "([III[I)I"⟩, prog_5_method_5_code, 10, (some .int)) := rfl
theorem par_89 : (parseMethodDescriptor "([III[I)I").map (fun d => d.parameters.length) = some 4 := by decide +kernel
theorem at_90 : am_infos[90]? = some (⟨"AccessLattice$Roles", "walk", "([III[I)I"⟩, prog_5_method_6_code, 7, (some .int)) := rfl
theorem par_90 : (parseMethodDescriptor "([III[I)I").map (fun d => d.parameters.length) = some 4 := by decide +kernel
theorem at_91 : am_infos[91]? = some (⟨"AccessLattice$Roles", "nearest", "(II)I"⟩, prog_5_method_7_code, 4, (some .int)) := rfl
theorem par_91 : (parseMethodDescriptor "(II)I").map (fun d => d.parameters.length) = some 2 := by decide +kernel
theorem at_92 : am_infos[92]? = some (⟨"AccessLattice$View", "leastLoan", "(II)I"⟩, prog_10_method_10_code, 4, (some .int)) := rfl
theorem par_92 : (parseMethodDescriptor "(II)I").map (fun d => d.parameters.length) = some 2 := by decide +kernel
theorem at_93 : am_infos[93]? = some (⟨"AccessLattice", "tellLoans", "(I)V"⟩, prog_1_method_22_code, 5, none) := rfl
theorem par_93 : (parseMethodDescriptor "(I)V").map (fun d => d.parameters.length) = some 1 := by decide +kernel
theorem at_94 : am_infos[94]? = some (⟨"AccessLattice$Rules", "useUp", "(I)V"⟩, prog_6_method_9_code, 2, none) := rfl
theorem par_94 : (parseMethodDescriptor "(I)V").map (fun d => d.parameters.length) = some 1 := by decide +kernel
theorem at_95 : am_infos[95]? = some (⟨"AccessLattice$State", "note", "(IIIII)V"⟩, prog_8_method_5_code, 7, none) := rfl
theorem par_95 : (parseMethodDescriptor "(IIIII)V").map (fun d => d.parameters.length) = some 5 := by decide +kernel
theorem at_96 : am_infos[96]? = some (⟨"AccessLattice", "why", "(II)I"⟩, prog_1_method_23_code, 3, (some .int)) := rfl
theorem par_96 : (parseMethodDescriptor "(II)I").map (fun d => d.parameters.length) = some 2 := by decide +kernel
theorem at_97 : am_infos[97]? = some (⟨"AccessLattice", "who", "(III)I"⟩, prog_1_method_24_code, 4, (some .int)) := rfl
theorem par_97 : (parseMethodDescriptor "(III)I").map (fun d => d.parameters.length) = some 3 := by decide +kernel
theorem at_98 : am_infos[98]? = some (⟨"AccessLattice$View", "usersWith", "(III)I"⟩, prog_10_method_16_code, 7, (some .int)) := rfl
theorem par_98 : (parseMethodDescriptor "(III)I").map (fun d => d.parameters.length) = some 3 := by decide +kernel
theorem at_99 : am_infos[99]? = some (⟨"AccessLattice", "where", "(II)I"⟩, prog_1_method_25_code, 5, (some .int)) := rfl
theorem par_99 : (parseMethodDescriptor "(II)I").map (fun d => d.parameters.length) = some 2 := by decide +kernel
theorem at_100 : am_infos[100]? = some (⟨"AccessLattice$View", "answer", "(III)I"⟩, prog_10_method_15_code, 4, (some .int)) := rfl
theorem par_100 : (parseMethodDescriptor "(III)I").map (fun d => d.parameters.length) = some 3 := by decide +kernel
theorem at_101 : am_infos[101]? = some (⟨"AccessLattice", "could", "(III)I"⟩, prog_1_method_26_code, 6, (some .int)) := rfl
theorem par_101 : (parseMethodDescriptor "(III)I").map (fun d => d.parameters.length) = some 3 := by decide +kernel
theorem at_102 : am_infos[102]? = some (⟨"AccessLattice", "least", "(IIII)I"⟩, prog_1_method_27_code, 7, (some .int)) := rfl
theorem par_102 : (parseMethodDescriptor "(IIII)I").map (fun d => d.parameters.length) = some 4 := by decide +kernel
theorem at_103 : am_infos[103]? = some (⟨"AccessLattice$Search", "leastChange", "(LAccessLattice$View;III)I"⟩, prog_7_method_2_code, 7, (some .int)) := rfl
theorem par_103 : (parseMethodDescriptor "(LAccessLattice$View;III)I").map (fun d => d.parameters.length) = some 4 := by decide +kernel
theorem at_104 : am_infos[104]? = some (⟨"AccessLattice$Search", "addOptions", "(IIJ)V"⟩, prog_7_method_4_code, 6, none) := rfl
theorem par_104 : (parseMethodDescriptor "(IIJ)V").map (fun d => d.parameters.length) = some 3 := by decide +kernel
theorem at_105 : am_infos[105]? = some (⟨"AccessLattice$Search", "fewest", "(LAccessLattice$View;IIZ)I"⟩, prog_7_method_6_code, 8, (some .int)) := rfl
theorem par_105 : (parseMethodDescriptor "(LAccessLattice$View;IIZ)I").map (fun d => d.parameters.length) = some 4 := by decide +kernel
theorem at_106 : am_infos[106]? = some (⟨"AccessLattice$Search", "suits", "(LAccessLattice$View;IIIZ)Z"⟩, prog_7_method_8_code, 13, (some .boolean)) := rfl
theorem par_106 : (parseMethodDescriptor "(LAccessLattice$View;IIIZ)Z").map (fun d => d.parameters.length) = some 5 := by decide +kernel
theorem at_107 : am_infos[107]? = some (⟨"AccessLattice$Search", "sumUp", "(I)V"⟩, prog_7_method_9_code, 4, none) := rfl
theorem par_107 : (parseMethodDescriptor "(I)V").map (fun d => d.parameters.length) = some 1 := by decide +kernel
theorem at_108 : am_infos[108]? = some (⟨"AccessLattice$Search", "chosen", "(I)I"⟩, prog_7_method_5_code, 2, (some .int)) := rfl
theorem par_108 : (parseMethodDescriptor "(I)I").map (fun d => d.parameters.length) = some 1 := by decide +kernel
theorem at_109 : am_infos[109]? = some (⟨"AccessLattice$View", "suppose", "(IIJ)V"⟩, prog_10_method_4_code, 5, none) := rfl
theorem par_109 : (parseMethodDescriptor "(IIJ)V").map (fun d => d.parameters.length) = some 3 := by decide +kernel
theorem at_110 : am_infos[110]? = some (⟨"AccessLattice$Search", "pickNext", "(I)Z"⟩, prog_7_method_7_code, 4, (some .boolean)) := rfl
theorem par_110 : (parseMethodDescriptor "(I)Z").map (fun d => d.parameters.length) = some 1 := by decide +kernel
theorem at_111 : am_infos[111]? = some (⟨"AccessLattice", "until", "(III)I"⟩, prog_1_method_28_code, 6, (some .int)) := rfl
theorem par_111 : (parseMethodDescriptor "(III)I").map (fun d => d.parameters.length) = some 3 := by decide +kernel
theorem at_112 : am_infos[112]? = some (⟨"AccessLattice", "lose", "(IIII)I"⟩, prog_1_method_29_code, 6, (some .int)) := rfl
theorem par_112 : (parseMethodDescriptor "(IIII)I").map (fun d => d.parameters.length) = some 4 := by decide +kernel
theorem at_113 : am_infos[113]? = some (⟨"AccessLattice$Search", "leastLoss", "(LAccessLattice$View;III)I"⟩, prog_7_method_3_code, 8, (some .int)) := rfl
theorem par_113 : (parseMethodDescriptor "(LAccessLattice$View;III)I").map (fun d => d.parameters.length) = some 4 := by decide +kernel
theorem at_114 : am_infos[114]? = some (⟨"AccessLattice$View", "loansBehind", "(I)J"⟩, prog_10_method_11_code, 7, (some .long)) := rfl
theorem par_114 : (parseMethodDescriptor "(I)J").map (fun d => d.parameters.length) = some 1 := by decide +kernel
theorem at_115 : am_infos[115]? = some (⟨"AccessLattice", "changes", "(IIII)I"⟩, prog_1_method_30_code, 9, (some .int)) := rfl
theorem par_115 : (parseMethodDescriptor "(IIII)I").map (fun d => d.parameters.length) = some 4 := by decide +kernel
theorem at_116 : am_infos[116]? = some (⟨"AccessLattice", "ways", "(II)I"⟩, prog_1_method_31_code, 5, (some .int)) := rfl
theorem par_116 : (parseMethodDescriptor "(II)I").map (fun d => d.parameters.length) = some 2 := by decide +kernel
theorem at_117 : am_infos[117]? = some (⟨"AccessLattice$Roles", "countWays", "([II)I"⟩, prog_5_method_8_code, 7, (some .int)) := rfl
theorem par_117 : (parseMethodDescriptor "([II)I").map (fun d => d.parameters.length) = some 2 := by decide +kernel
theorem at_118 : am_infos[118]? = some (⟨"AccessLattice", "idle", "(I)I"⟩, prog_1_method_32_code, 5, (some .int)) := rfl
theorem par_118 : (parseMethodDescriptor "(I)I").map (fun d => d.parameters.length) = some 1 := by decide +kernel
theorem at_119 : am_infos[119]? = some (⟨"AccessLattice", "unlike", "(III)I"⟩, prog_1_method_33_code, 8, (some .int)) := rfl
theorem par_119 : (parseMethodDescriptor "(III)I").map (fun d => d.parameters.length) = some 3 := by decide +kernel
theorem at_120 : am_infos[120]? = some (⟨"AccessLattice", "book", "(II)I"⟩, prog_1_method_34_code, 3, (some .int)) := rfl
theorem par_120 : (parseMethodDescriptor "(II)I").map (fun d => d.parameters.length) = some 2 := by decide +kernel
theorem at_121 : am_infos[121]? = some (⟨"AccessLattice", "shadowed", "(I)I"⟩, prog_1_method_35_code, 3, (some .int)) := rfl
theorem par_121 : (parseMethodDescriptor "(I)I").map (fun d => d.parameters.length) = some 1 := by decide +kernel
theorem at_122 : am_infos[122]? = some (⟨"AccessLattice", "covers", "(II)Z"⟩, prog_1_method_36_code, 6, (some .boolean)) := rfl
theorem par_122 : (parseMethodDescriptor "(II)Z").map (fun d => d.parameters.length) = some 2 := by decide +kernel
theorem at_123 : am_infos[123]? = some (⟨"AccessLattice", "clash", "(II)I"⟩, prog_1_method_37_code, 5, (some .int)) := rfl
theorem par_123 : (parseMethodDescriptor "(II)I").map (fun d => d.parameters.length) = some 2 := by decide +kernel
theorem at_124 : am_infos[124]? = some (⟨"AccessLattice", "clashWith", "(II)Z"⟩, prog_1_method_38_code, 5, (some .boolean)) := rfl
theorem par_124 : (parseMethodDescriptor "(II)Z").map (fun d => d.parameters.length) = some 2 := by decide +kernel
theorem at_125 : am_infos[125]? = some (⟨"AccessLattice", "reaches", "(II)Z"⟩, prog_1_method_39_code, 4, (some .boolean)) := rfl
theorem par_125 : (parseMethodDescriptor "(II)Z").map (fun d => d.parameters.length) = some 2 := by decide +kernel
theorem at_126 : am_infos[126]? = some (⟨"AccessLattice", "join", "(III)I"⟩, prog_1_method_40_code, 7, (some .int)) := rfl
theorem par_126 : (parseMethodDescriptor "(III)I").map (fun d => d.parameters.length) = some 3 := by decide +kernel
theorem at_127 : am_infos[127]? = some (⟨"AccessLattice", "roles", "(II)I"⟩, prog_1_method_41_code, 4, (some .int)) := rfl
theorem par_127 : (parseMethodDescriptor "(II)I").map (fun d => d.parameters.length) = some 2 := by decide +kernel
theorem at_128 : am_infos[128]? = some (⟨"AccessLattice", "level", "(I)I"⟩, prog_1_method_42_code, 2, (some .int)) := rfl
theorem par_128 : (parseMethodDescriptor "(I)I").map (fun d => d.parameters.length) = some 1 := by decide +kernel
theorem at_129 : am_infos[129]? = some (⟨"AccessLattice$Roles", "longestDown", "(I)I"⟩, prog_5_method_9_code, 7, (some .int)) := rfl
theorem par_129 : (parseMethodDescriptor "(I)I").map (fun d => d.parameters.length) = some 1 := by decide +kernel
theorem at_130 : am_infos[130]? = some (⟨"AccessLattice", "chain", "(III)I"⟩, prog_1_method_43_code, 5, (some .int)) := rfl
theorem par_130 : (parseMethodDescriptor "(III)I").map (fun d => d.parameters.length) = some 3 := by decide +kernel
theorem at_131 : am_infos[131]? = some (⟨"AccessLattice", "under", "(I)I"⟩, prog_1_method_44_code, 4, (some .int)) := rfl
theorem par_131 : (parseMethodDescriptor "(I)I").map (fun d => d.parameters.length) = some 1 := by decide +kernel
theorem at_132 : am_infos[132]? = some (⟨"AccessLattice", "decides", "(II)I"⟩, prog_1_method_45_code, 9, (some .int)) := rfl
theorem par_132 : (parseMethodDescriptor "(II)I").map (fun d => d.parameters.length) = some 2 := by decide +kernel
theorem at_133 : am_infos[133]? = some (⟨"AccessLattice", "wouldTurn", "(IIIII)Z"⟩, prog_1_method_46_code, 7, (some .boolean)) := rfl
theorem par_133 : (parseMethodDescriptor "(IIIII)Z").map (fun d => d.parameters.length) = some 5 := by decide +kernel
theorem at_134 : am_infos[134]? = some (⟨"AccessLattice", "since", "(I)I"⟩, prog_1_method_47_code, 6, (some .int)) := rfl
theorem par_134 : (parseMethodDescriptor "(I)I").map (fun d => d.parameters.length) = some 1 := by decide +kernel
theorem at_135 : am_infos[135]? = some (⟨"AccessLattice", "differing", "(IIII)I"⟩, prog_1_method_48_code, 11, (some .int)) := rfl
theorem par_135 : (parseMethodDescriptor "(IIII)I").map (fun d => d.parameters.length) = some 4 := by decide +kernel
theorem at_136 : am_infos[136]? = some (⟨"AccessLattice", "image", "()I"⟩, prog_1_method_49_code, 1, (some .int)) := rfl
theorem par_136 : (parseMethodDescriptor "()I").map (fun d => d.parameters.length) = some 0 := by decide +kernel
theorem at_137 : am_infos[137]? = some (⟨"AccessLattice$State", "copyFrom", "(LAccessLattice$State;)V"⟩, prog_8_method_6_code, 2, none) := rfl
theorem par_137 : (parseMethodDescriptor "(LAccessLattice$State;)V").map (fun d => d.parameters.length) = some 1 := by decide +kernel
theorem at_138 : am_infos[138]? = some (⟨"AccessLattice$Roles", "copyFrom", "(LAccessLattice$Roles;)V"⟩, prog_5_method_10_code, 2, none) := rfl
theorem par_138 : (parseMethodDescriptor "(LAccessLattice$Roles;)V").map (fun d => d.parameters.length) = some 1 := by decide +kernel
theorem at_139 : am_infos[139]? = some (⟨"AccessLattice$Loans", "copyFrom", "(LAccessLattice$Loans;)V"⟩, prog_3_method_2_code, 2, none) := rfl
theorem par_139 : (parseMethodDescriptor "(LAccessLattice$Loans;)V").map (fun d => d.parameters.length) = some 1 := by decide +kernel
theorem at_140 : am_infos[140]? = some (⟨"AccessLattice$Rules", "copyFrom", "(LAccessLattice$Rules;)V"⟩, prog_6_method_10_code, 2, none) := rfl
theorem par_140 : (parseMethodDescriptor "(LAccessLattice$Rules;)V").map (fun d => d.parameters.length) = some 1 := by decide +kernel
theorem at_141 : am_infos[141]? = some (⟨"AccessLattice", "back", "()I"⟩, prog_1_method_50_code, 1, (some .int)) := rfl
theorem par_141 : (parseMethodDescriptor "()I").map (fun d => d.parameters.length) = some 0 := by decide +kernel
theorem at_142 : am_infos[142]? = some (⟨"AccessLattice", "count", "(I)I"⟩, prog_1_method_51_code, 2, (some .int)) := rfl
theorem par_142 : (parseMethodDescriptor "(I)I").map (fun d => d.parameters.length) = some 1 := by decide +kernel
theorem at_143 : am_infos[143]? = some (⟨"AccessLatticeModel", "<init>", "()V"⟩, prog_12_method_1_code, 2, none) := rfl
theorem par_143 : (parseMethodDescriptor "()V").map (fun d => d.parameters.length) = some 0 := by decide +kernel
theorem at_144 : am_infos[144]? = some (⟨"AccessLatticeModel", "lattice", "()V"⟩, prog_12_method_12_code, 5, none) := rfl
theorem par_144 : (parseMethodDescriptor "()V").map (fun d => d.parameters.length) = some 0 := by decide +kernel
theorem at_145 : am_infos[145]? = some (⟨"AccessLatticeModel", "has", "(II)Z"⟩, prog_12_method_6_code, 2, (some .boolean)) := rfl
theorem par_145 : (parseMethodDescriptor "(II)Z").map (fun d => d.parameters.length) = some 2 := by decide +kernel
theorem at_146 : am_infos[146]? = some (⟨"AccessLatticeModel", "attribute", "(IIII)I"⟩, prog_12_method_16_code, 7, (some .int)) := rfl
theorem par_146 : (parseMethodDescriptor "(IIII)I").map (fun d => d.parameters.length) = some 4 := by decide +kernel
theorem at_147 : am_infos[147]? = some (⟨"AccessLatticeModel", "isIn", "(III)Z"⟩, prog_12_method_2_code, 3, (some .boolean)) := rfl
theorem par_147 : (parseMethodDescriptor "(III)Z").map (fun d => d.parameters.length) = some 3 := by decide +kernel
theorem at_148 : am_infos[148]? = some (⟨"AccessLatticeModel", "isOne", "(I)Z"⟩, prog_12_method_3_code, 1, (some .boolean)) := rfl
theorem par_148 : (parseMethodDescriptor "(I)Z").map (fun d => d.parameters.length) = some 1 := by decide +kernel
theorem at_149 : am_infos[149]? = some (⟨"AccessLatticeModel", "within", "(II)I"⟩, prog_12_method_17_code, 4, (some .int)) := rfl
theorem par_149 : (parseMethodDescriptor "(II)I").map (fun d => d.parameters.length) = some 2 := by decide +kernel
theorem at_150 : am_infos[150]? = some (⟨"AccessLatticeModel", "depth", "(II)I"⟩, prog_12_method_15_code, 5, (some .int)) := rfl
theorem par_150 : (parseMethodDescriptor "(II)I").map (fun d => d.parameters.length) = some 2 := by decide +kernel
theorem at_151 : am_infos[151]? = some (⟨"AccessLatticeModel", "senior", "(III)I"⟩, prog_12_method_25_code, 4, (some .int)) := rfl
theorem par_151 : (parseMethodDescriptor "(III)I").map (fun d => d.parameters.length) = some 3 := by decide +kernel
theorem at_152 : am_infos[152]? = some (⟨"AccessLatticeModel", "isRole", "(I)Z"⟩, prog_12_method_4_code, 1, (some .boolean)) := rfl
theorem par_152 : (parseMethodDescriptor "(I)Z").map (fun d => d.parameters.length) = some 1 := by decide +kernel
theorem at_153 : am_infos[153]? = some (⟨"AccessLatticeModel", "isAnyUnlike", "()Z"⟩, prog_12_method_24_code, 2, (some .boolean)) := rfl
theorem par_153 : (parseMethodDescriptor "()Z").map (fun d => d.parameters.length) = some 0 := by decide +kernel
theorem at_154 : am_infos[154]? = some (⟨"AccessLatticeModel", "holders", "()V"⟩, prog_12_method_22_code, 2, none) := rfl
theorem par_154 : (parseMethodDescriptor "()V").map (fun d => d.parameters.length) = some 0 := by decide +kernel
theorem at_155 : am_infos[155]? = some (⟨"AccessLatticeModel", "stand", "()V"⟩, prog_12_method_18_code, 2, none) := rfl
theorem par_155 : (parseMethodDescriptor "()V").map (fun d => d.parameters.length) = some 0 := by decide +kernel
theorem at_156 : am_infos[156]? = some (⟨"AccessLatticeModel", "allUnder", "(I)I"⟩, prog_12_method_13_code, 4, (some .int)) := rfl
theorem par_156 : (parseMethodDescriptor "(I)I").map (fun d => d.parameters.length) = some 1 := by decide +kernel
theorem at_157 : am_infos[157]? = some (⟨"AccessLatticeModel", "standAgain", "()V"⟩, prog_12_method_19_code, 4, none) := rfl
theorem par_157 : (parseMethodDescriptor "()V").map (fun d => d.parameters.length) = some 0 := by decide +kernel
theorem at_158 : am_infos[158]? = some (⟨"AccessLatticeModel", "loanAt", "(II)I"⟩, prog_12_method_9_code, 3, (some .int)) := rfl
theorem par_158 : (parseMethodDescriptor "(II)I").map (fun d => d.parameters.length) = some 2 := by decide +kernel
theorem at_159 : am_infos[159]? = some (⟨"AccessLatticeModel", "heldBy", "(I)I"⟩, prog_12_method_21_code, 4, (some .int)) := rfl
theorem par_159 : (parseMethodDescriptor "(I)I").map (fun d => d.parameters.length) = some 1 := by decide +kernel
theorem at_160 : am_infos[160]? = some (⟨"AccessLatticeModel", "isUnlike", "(I)Z"⟩, prog_12_method_23_code, 3, (some .boolean)) := rfl
theorem par_160 : (parseMethodDescriptor "(I)Z").map (fun d => d.parameters.length) = some 1 := by decide +kernel
theorem at_161 : am_infos[161]? = some (⟨"AccessLatticeModel", "assign", "(III)I"⟩, prog_12_method_26_code, 4, (some .int)) := rfl
theorem par_161 : (parseMethodDescriptor "(III)I").map (fun d => d.parameters.length) = some 3 := by decide +kernel
theorem at_162 : am_infos[162]? = some (⟨"AccessLatticeModel", "ones", "(I)I"⟩, prog_12_method_7_code, 3, (some .int)) := rfl
theorem par_162 : (parseMethodDescriptor "(I)I").map (fun d => d.parameters.length) = some 1 := by decide +kernel
theorem at_163 : am_infos[163]? = some (⟨"AccessLatticeModel", "exclude", "(III)I"⟩, prog_12_method_27_code, 4, (some .int)) := rfl
theorem par_163 : (parseMethodDescriptor "(III)I").map (fun d => d.parameters.length) = some 3 := by decide +kernel
theorem at_164 : am_infos[164]? = some (⟨"AccessLatticeModel", "step", "(I)I"⟩, prog_12_method_28_code, 2, (some .int)) := rfl
theorem par_164 : (parseMethodDescriptor "(I)I").map (fun d => d.parameters.length) = some 1 := by decide +kernel
theorem at_165 : am_infos[165]? = some (⟨"AccessLatticeModel", "lend", "(IIIII)I"⟩, prog_12_method_30_code, 9, (some .int)) := rfl
theorem par_165 : (parseMethodDescriptor "(IIIII)I").map (fun d => d.parameters.length) = some 5 := by decide +kernel
theorem at_166 : am_infos[166]? = some (⟨"AccessLatticeModel", "sourceFor", "(III)I"⟩, prog_12_method_29_code, 5, (some .int)) := rfl
theorem par_166 : (parseMethodDescriptor "(III)I").map (fun d => d.parameters.length) = some 3 := by decide +kernel
theorem at_167 : am_infos[167]? = some (⟨"AccessLatticeModel", "takeBack", "(I)I"⟩, prog_12_method_31_code, 3, (some .int)) := rfl
theorem par_167 : (parseMethodDescriptor "(I)I").map (fun d => d.parameters.length) = some 1 := by decide +kernel
theorem at_168 : am_infos[168]? = some (⟨"AccessLatticeModel", "standing", "()I"⟩, prog_12_method_20_code, 3, (some .int)) := rfl
theorem par_168 : (parseMethodDescriptor "()I").map (fun d => d.parameters.length) = some 0 := by decide +kernel
theorem at_169 : am_infos[169]? = some (⟨"AccessLatticeModel", "loan", "(II)I"⟩, prog_12_method_32_code, 3, (some .int)) := rfl
theorem par_169 : (parseMethodDescriptor "(II)I").map (fun d => d.parameters.length) = some 2 := by decide +kernel
theorem at_170 : am_infos[170]? = some (⟨"AccessLatticeModel", "holds", "(II)I"⟩, prog_12_method_33_code, 3, (some .int)) := rfl
theorem par_170 : (parseMethodDescriptor "(II)I").map (fun d => d.parameters.length) = some 2 := by decide +kernel
theorem at_171 : am_infos[171]? = some (⟨"AccessLatticeModel", "feed", "(I)I"⟩, prog_12_method_34_code, 2, (some .int)) := rfl
theorem par_171 : (parseMethodDescriptor "(I)I").map (fun d => d.parameters.length) = some 1 := by decide +kernel
theorem at_172 : am_infos[172]? = some (⟨"AccessLatticeModel", "rule", "(IIIII)I"⟩, prog_12_method_52_code, 9, (some .int)) := rfl
theorem par_172 : (parseMethodDescriptor "(IIIII)I").map (fun d => d.parameters.length) = some 5 := by decide +kernel
theorem at_173 : am_infos[173]? = some (⟨"AccessLatticeModel", "reads", "()I"⟩, prog_12_method_49_code, 1, (some .int)) := rfl
theorem par_173 : (parseMethodDescriptor "()I").map (fun d => d.parameters.length) = some 0 := by decide +kernel
theorem at_174 : am_infos[174]? = some (⟨"AccessLatticeModel", "begins", "()V"⟩, prog_12_method_48_code, 1, none) := rfl
theorem par_174 : (parseMethodDescriptor "()V").map (fun d => d.parameters.length) = some 0 := by decide +kernel
theorem at_175 : am_infos[175]? = some (⟨"AccessLatticeModel", "either", "()V"⟩, prog_12_method_42_code, 2, none) := rfl
theorem par_175 : (parseMethodDescriptor "()V").map (fun d => d.parameters.length) = some 0 := by decide +kernel
theorem at_176 : am_infos[176]? = some (⟨"AccessLatticeModel", "both", "()V"⟩, prog_12_method_43_code, 2, none) := rfl
theorem par_176 : (parseMethodDescriptor "()V").map (fun d => d.parameters.length) = some 0 := by decide +kernel
theorem at_177 : am_infos[177]? = some (⟨"AccessLatticeModel", "compares", "()V"⟩, prog_12_method_44_code, 2, none) := rfl
theorem par_177 : (parseMethodDescriptor "()V").map (fun d => d.parameters.length) = some 0 := by decide +kernel
theorem at_178 : am_infos[178]? = some (⟨"AccessLatticeModel", "adds", "()V"⟩, prog_12_method_45_code, 2, none) := rfl
theorem par_178 : (parseMethodDescriptor "()V").map (fun d => d.parameters.length) = some 0 := by decide +kernel
theorem at_179 : am_infos[179]? = some (⟨"AccessLatticeModel", "times", "()V"⟩, prog_12_method_46_code, 2, none) := rfl
theorem par_179 : (parseMethodDescriptor "()V").map (fun d => d.parameters.length) = some 0 := by decide +kernel
theorem at_180 : am_infos[180]? = some (⟨"AccessLatticeModel", "unit", "()V"⟩, prog_12_method_47_code, 2, none) := rfl
theorem par_180 : (parseMethodDescriptor "()V").map (fun d => d.parameters.length) = some 0 := by decide +kernel
theorem at_181 : am_infos[181]? = some (⟨"AccessLatticeModel", "seesDigit", "()Z"⟩, prog_12_method_37_code, 1, (some .boolean)) := rfl
theorem par_181 : (parseMethodDescriptor "()Z").map (fun d => d.parameters.length) = some 0 := by decide +kernel
theorem at_182 : am_infos[182]? = some (⟨"AccessLatticeModel", "figures", "(I)I"⟩, prog_12_method_39_code, 4, (some .int)) := rfl
theorem par_182 : (parseMethodDescriptor "(I)I").map (fun d => d.parameters.length) = some 1 := by decide +kernel
theorem at_183 : am_infos[183]? = some (⟨"AccessLatticeModel", "fails", "(I)V"⟩, prog_12_method_35_code, 2, none) := rfl
theorem par_183 : (parseMethodDescriptor "(I)V").map (fun d => d.parameters.length) = some 1 := by decide +kernel
theorem at_184 : am_infos[184]? = some (⟨"AccessLatticeModel", "puts", "(I)V"⟩, prog_12_method_40_code, 2, none) := rfl
theorem par_184 : (parseMethodDescriptor "(I)V").map (fun d => d.parameters.length) = some 1 := by decide +kernel
theorem at_185 : am_infos[185]? = some (⟨"AccessLatticeModel", "takes", "(I)V"⟩, prog_12_method_38_code, 2, none) := rfl
theorem par_185 : (parseMethodDescriptor "(I)V").map (fun d => d.parameters.length) = some 1 := by decide +kernel
theorem at_186 : am_infos[186]? = some (⟨"AccessLatticeModel", "sees", "(I)Z"⟩, prog_12_method_36_code, 2, (some .boolean)) := rfl
theorem par_186 : (parseMethodDescriptor "(I)Z").map (fun d => d.parameters.length) = some 1 := by decide +kernel
theorem at_187 : am_infos[187]? = some (⟨"AccessLatticeModel", "joins", "(I)V"⟩, prog_12_method_41_code, 3, none) := rfl
theorem par_187 : (parseMethodDescriptor "(I)V").map (fun d => d.parameters.length) = some 1 := by decide +kernel
theorem at_188 : am_infos[188]? = some (⟨"AccessLatticeModel", "off", "(I)I"⟩, prog_12_method_54_code, 2, (some .int)) := rfl
theorem par_188 : (parseMethodDescriptor "(I)I").map (fun d => d.parameters.length) = some 1 := by decide +kernel
theorem at_189 : am_infos[189]? = some (⟨"AccessLatticeModel", "isRule", "(I)Z"⟩, prog_12_method_11_code, 2, (some .boolean)) := rfl
theorem par_189 : (parseMethodDescriptor "(I)Z").map (fun d => d.parameters.length) = some 1 := by decide +kernel
theorem at_190 : am_infos[190]? = some (⟨"AccessLatticeModel", "ruleAt", "(II)I"⟩, prog_12_method_10_code, 3, (some .int)) := rfl
theorem par_190 : (parseMethodDescriptor "(II)I").map (fun d => d.parameters.length) = some 2 := by decide +kernel
theorem at_191 : am_infos[191]? = some (⟨"AccessLatticeModel", "rulesThere", "()I"⟩, prog_12_method_53_code, 3, (some .int)) := rfl
theorem par_191 : (parseMethodDescriptor "()I").map (fun d => d.parameters.length) = some 0 := by decide +kernel
theorem at_192 : am_infos[192]? = some (⟨"AccessLatticeModel", "of", "(II)I"⟩, prog_12_method_55_code, 3, (some .int)) := rfl
theorem par_192 : (parseMethodDescriptor "(II)I").map (fun d => d.parameters.length) = some 2 := by decide +kernel
theorem at_193 : am_infos[193]? = some (⟨"AccessLatticeModel", "uses", "(II)I"⟩, prog_12_method_56_code, 3, (some .int)) := rfl
theorem par_193 : (parseMethodDescriptor "(II)I").map (fun d => d.parameters.length) = some 2 := by decide +kernel
theorem at_194 : am_infos[194]? = some (⟨"AccessLatticeModel", "left", "(I)I"⟩, prog_12_method_57_code, 2, (some .int)) := rfl
theorem par_194 : (parseMethodDescriptor "(I)I").map (fun d => d.parameters.length) = some 1 := by decide +kernel
theorem at_195 : am_infos[195]? = some (⟨"AccessLatticeModel", "seniors", "()I"⟩, prog_12_method_58_code, 4, (some .int)) := rfl
theorem par_195 : (parseMethodDescriptor "()I").map (fun d => d.parameters.length) = some 0 := by decide +kernel
theorem at_196 : am_infos[196]? = some (⟨"AccessLatticeModel", "may", "(III)I"⟩, prog_12_method_69_code, 5, (some .int)) := rfl
theorem par_196 : (parseMethodDescriptor "(III)I").map (fun d => d.parameters.length) = some 3 := by decide +kernel
theorem at_197 : am_infos[197]? = some (⟨"AccessLatticeModel", "isAsk", "(III)Z"⟩, prog_12_method_63_code, 3, (some .boolean)) := rfl
theorem par_197 : (parseMethodDescriptor "(III)Z").map (fun d => d.parameters.length) = some 3 := by decide +kernel
theorem at_198 : am_infos[198]? = some (⟨"AccessLatticeModel", "isAct", "(I)Z"⟩, prog_12_method_5_code, 1, (some .boolean)) := rfl
theorem par_198 : (parseMethodDescriptor "(I)Z").map (fun d => d.parameters.length) = some 1 := by decide +kernel
theorem at_199 : am_infos[199]? = some (⟨"AccessLatticeModel", "answer", "(III)I"⟩, prog_12_method_62_code, 6, (some .int)) := rfl
theorem par_199 : (parseMethodDescriptor "(III)I").map (fun d => d.parameters.length) = some 3 := by decide +kernel
theorem at_200 : am_infos[200]? = some (⟨"AccessLatticeModel", "fits", "(IIII)Z"⟩, prog_12_method_59_code, 7, (some .boolean)) := rfl
theorem par_200 : (parseMethodDescriptor "(IIII)Z").map (fun d => d.parameters.length) = some 4 := by decide +kernel
theorem at_201 : am_infos[201]? = some (⟨"AccessLatticeModel", "part", "()I"⟩, prog_12_method_51_code, 4, (some .int)) := rfl
theorem par_201 : (parseMethodDescriptor "()I").map (fun d => d.parameters.length) = some 0 := by decide +kernel
theorem at_202 : am_infos[202]? = some (⟨"AccessLatticeModel", "joined", "(III)I"⟩, prog_12_method_50_code, 3, (some .int)) := rfl
theorem par_202 : (parseMethodDescriptor "(III)I").map (fun d => d.parameters.length) = some 3 := by decide +kernel
theorem at_203 : am_infos[203]? = some (⟨"AccessLatticeModel", "books", "(IIII)V"⟩, prog_12_method_68_code, 6, none) := rfl
theorem par_203 : (parseMethodDescriptor "(IIII)V").map (fun d => d.parameters.length) = some 4 := by decide +kernel
theorem at_204 : am_infos[204]? = some (⟨"AccessLatticeModel", "grounds", "(I)V"⟩, prog_12_method_67_code, 7, none) := rfl
theorem par_204 : (parseMethodDescriptor "(I)V").map (fun d => d.parameters.length) = some 1 := by decide +kernel
theorem at_205 : am_infos[205]? = some (⟨"AccessLatticeModel", "grounds", "(II)V"⟩, prog_12_method_64_code, 3, none) := rfl
theorem par_205 : (parseMethodDescriptor "(II)V").map (fun d => d.parameters.length) = some 2 := by decide +kernel
theorem at_206 : am_infos[206]? = some (⟨"AccessLatticeModel", "allAbove", "(I)I"⟩, prog_12_method_14_code, 4, (some .int)) := rfl
theorem par_206 : (parseMethodDescriptor "(I)I").map (fun d => d.parameters.length) = some 1 := by decide +kernel
theorem at_207 : am_infos[207]? = some (⟨"AccessLatticeModel", "distances", "(IZ)V"⟩, prog_12_method_65_code, 7, none) := rfl
theorem par_207 : (parseMethodDescriptor "(IZ)V").map (fun d => d.parameters.length) = some 2 := by decide +kernel
theorem at_208 : am_infos[208]? = some (⟨"AccessLatticeModel", "nearer", "(IZ)I"⟩, prog_12_method_66_code, 4, (some .int)) := rfl
theorem par_208 : (parseMethodDescriptor "(IZ)I").map (fun d => d.parameters.length) = some 2 := by decide +kernel
theorem at_209 : am_infos[209]? = some (⟨"AccessLatticeModel", "why", "(II)I"⟩, prog_12_method_70_code, 3, (some .int)) := rfl
theorem par_209 : (parseMethodDescriptor "(II)I").map (fun d => d.parameters.length) = some 2 := by decide +kernel
theorem at_210 : am_infos[210]? = some (⟨"AccessLatticeModel", "who", "(III)I"⟩, prog_12_method_72_code, 4, (some .int)) := rfl
theorem par_210 : (parseMethodDescriptor "(III)I").map (fun d => d.parameters.length) = some 3 := by decide +kernel
theorem at_211 : am_infos[211]? = some (⟨"AccessLatticeModel", "whoBy", "(III)I"⟩, prog_12_method_71_code, 6, (some .int)) := rfl
theorem par_211 : (parseMethodDescriptor "(III)I").map (fun d => d.parameters.length) = some 3 := by decide +kernel
theorem at_212 : am_infos[212]? = some (⟨"AccessLatticeModel", "where", "(II)I"⟩, prog_12_method_73_code, 5, (some .int)) := rfl
theorem par_212 : (parseMethodDescriptor "(II)I").map (fun d => d.parameters.length) = some 2 := by decide +kernel
theorem at_213 : am_infos[213]? = some (⟨"AccessLatticeModel", "could", "(III)I"⟩, prog_12_method_74_code, 7, (some .int)) := rfl
theorem par_213 : (parseMethodDescriptor "(III)I").map (fun d => d.parameters.length) = some 3 := by decide +kernel
theorem at_214 : am_infos[214]? = some (⟨"AccessLatticeModel", "least", "(IIII)I"⟩, prog_12_method_80_code, 5, (some .int)) := rfl
theorem par_214 : (parseMethodDescriptor "(IIII)I").map (fun d => d.parameters.length) = some 4 := by decide +kernel
theorem at_215 : am_infos[215]? = some (⟨"AccessLatticeModel", "tried", "(IIIIZ)I"⟩, prog_12_method_79_code, 8, (some .int)) := rfl
theorem par_215 : (parseMethodDescriptor "(IIIIZ)I").map (fun d => d.parameters.length) = some 5 := by decide +kernel
theorem at_216 : am_infos[216]? = some (⟨"AccessLatticeModel", "fitting", "(III)V"⟩, prog_12_method_60_code, 5, none) := rfl
theorem par_216 : (parseMethodDescriptor "(III)V").map (fun d => d.parameters.length) = some 3 := by decide +kernel
theorem at_217 : am_infos[217]? = some (⟨"AccessLatticeModel", "answerBy", "(I)I"⟩, prog_12_method_61_code, 5, (some .int)) := rfl
theorem par_217 : (parseMethodDescriptor "(I)I").map (fun d => d.parameters.length) = some 1 := by decide +kernel
theorem at_218 : am_infos[218]? = some (⟨"AccessLatticeModel", "offers", "(I)V"⟩, prog_12_method_75_code, 2, none) := rfl
theorem par_218 : (parseMethodDescriptor "(I)V").map (fun d => d.parameters.length) = some 1 := by decide +kernel
theorem at_219 : am_infos[219]? = some (⟨"AccessLatticeModel", "tries", "(IIIIZ)Z"⟩, prog_12_method_78_code, 8, (some .boolean)) := rfl
theorem par_219 : (parseMethodDescriptor "(IIIIZ)Z").map (fun d => d.parameters.length) = some 5 := by decide +kernel
theorem at_220 : am_infos[220]? = some (⟨"AccessLatticeModel", "does", "(IZ)Z"⟩, prog_12_method_77_code, 4, (some .boolean)) := rfl
theorem par_220 : (parseMethodDescriptor "(IZ)Z").map (fun d => d.parameters.length) = some 2 := by decide +kernel
theorem at_221 : am_infos[221]? = some (⟨"AccessLatticeModel", "turns", "(IIZ)V"⟩, prog_12_method_76_code, 4, none) := rfl
theorem par_221 : (parseMethodDescriptor "(IIZ)V").map (fun d => d.parameters.length) = some 3 := by decide +kernel
theorem at_222 : am_infos[222]? = some (⟨"AccessLatticeModel", "lose", "(IIII)I"⟩, prog_12_method_81_code, 5, (some .int)) := rfl
theorem par_222 : (parseMethodDescriptor "(IIII)I").map (fun d => d.parameters.length) = some 4 := by decide +kernel
theorem at_223 : am_infos[223]? = some (⟨"AccessLatticeModel", "until", "(III)I"⟩, prog_12_method_83_code, 5, (some .int)) := rfl
theorem par_223 : (parseMethodDescriptor "(III)I").map (fun d => d.parameters.length) = some 3 := by decide +kernel
theorem at_224 : am_infos[224]? = some (⟨"AccessLatticeModel", "shows", "(III)V"⟩, prog_12_method_82_code, 6, none) := rfl
theorem par_224 : (parseMethodDescriptor "(III)V").map (fun d => d.parameters.length) = some 3 := by decide +kernel
theorem at_225 : am_infos[225]? = some (⟨"AccessLatticeModel", "changes", "(IIII)I"⟩, prog_12_method_84_code, 7, (some .int)) := rfl
theorem par_225 : (parseMethodDescriptor "(IIII)I").map (fun d => d.parameters.length) = some 4 := by decide +kernel
theorem at_226 : am_infos[226]? = some (⟨"AccessLatticeModel", "ways", "(II)I"⟩, prog_12_method_86_code, 5, (some .int)) := rfl
theorem par_226 : (parseMethodDescriptor "(II)I").map (fun d => d.parameters.length) = some 2 := by decide +kernel
theorem at_227 : am_infos[227]? = some (⟨"AccessLatticeModel", "waysFrom", "(II)I"⟩, prog_12_method_85_code, 5, (some .int)) := rfl
theorem par_227 : (parseMethodDescriptor "(II)I").map (fun d => d.parameters.length) = some 2 := by decide +kernel
theorem at_228 : am_infos[228]? = some (⟨"AccessLatticeModel", "idle", "(I)I"⟩, prog_12_method_87_code, 4, (some .int)) := rfl
theorem par_228 : (parseMethodDescriptor "(I)I").map (fun d => d.parameters.length) = some 1 := by decide +kernel
theorem at_229 : am_infos[229]? = some (⟨"AccessLatticeModel", "unlike", "(III)I"⟩, prog_12_method_88_code, 6, (some .int)) := rfl
theorem par_229 : (parseMethodDescriptor "(III)I").map (fun d => d.parameters.length) = some 3 := by decide +kernel
theorem at_230 : am_infos[230]? = some (⟨"AccessLatticeModel", "book", "(II)I"⟩, prog_12_method_89_code, 3, (some .int)) := rfl
theorem par_230 : (parseMethodDescriptor "(II)I").map (fun d => d.parameters.length) = some 2 := by decide +kernel
theorem at_231 : am_infos[231]? = some (⟨"AccessLatticeModel", "shadowed", "(I)I"⟩, prog_12_method_92_code, 3, (some .int)) := rfl
theorem par_231 : (parseMethodDescriptor "(I)I").map (fun d => d.parameters.length) = some 1 := by decide +kernel
theorem at_232 : am_infos[232]? = some (⟨"AccessLatticeModel", "shadows", "(II)Z"⟩, prog_12_method_91_code, 3, (some .boolean)) := rfl
theorem par_232 : (parseMethodDescriptor "(II)Z").map (fun d => d.parameters.length) = some 2 := by decide +kernel
theorem at_233 : am_infos[233]? = some (⟨"AccessLatticeModel", "isWithin", "(II)Z"⟩, prog_12_method_90_code, 3, (some .boolean)) := rfl
theorem par_233 : (parseMethodDescriptor "(II)Z").map (fun d => d.parameters.length) = some 2 := by decide +kernel
theorem at_234 : am_infos[234]? = some (⟨"AccessLatticeModel", "clash", "(II)I"⟩, prog_12_method_94_code, 5, (some .int)) := rfl
theorem par_234 : (parseMethodDescriptor "(II)I").map (fun d => d.parameters.length) = some 2 := by decide +kernel
theorem at_235 : am_infos[235]? = some (⟨"AccessLatticeModel", "clashes", "(II)Z"⟩, prog_12_method_93_code, 3, (some .boolean)) := rfl
theorem par_235 : (parseMethodDescriptor "(II)Z").map (fun d => d.parameters.length) = some 2 := by decide +kernel
theorem at_236 : am_infos[236]? = some (⟨"AccessLatticeModel", "join", "(III)I"⟩, prog_12_method_95_code, 6, (some .int)) := rfl
theorem par_236 : (parseMethodDescriptor "(III)I").map (fun d => d.parameters.length) = some 3 := by decide +kernel
theorem at_237 : am_infos[237]? = some (⟨"AccessLatticeModel", "roles", "(II)I"⟩, prog_12_method_96_code, 3, (some .int)) := rfl
theorem par_237 : (parseMethodDescriptor "(II)I").map (fun d => d.parameters.length) = some 2 := by decide +kernel
theorem at_238 : am_infos[238]? = some (⟨"AccessLatticeModel", "level", "(I)I"⟩, prog_12_method_98_code, 2, (some .int)) := rfl
theorem par_238 : (parseMethodDescriptor "(I)I").map (fun d => d.parameters.length) = some 1 := by decide +kernel
theorem at_239 : am_infos[239]? = some (⟨"AccessLatticeModel", "levels", "()V"⟩, prog_12_method_97_code, 4, none) := rfl
theorem par_239 : (parseMethodDescriptor "()V").map (fun d => d.parameters.length) = some 0 := by decide +kernel
theorem at_240 : am_infos[240]? = some (⟨"AccessLatticeModel", "chain", "(III)I"⟩, prog_12_method_99_code, 6, (some .int)) := rfl
theorem par_240 : (parseMethodDescriptor "(III)I").map (fun d => d.parameters.length) = some 3 := by decide +kernel
theorem at_241 : am_infos[241]? = some (⟨"AccessLatticeModel", "under", "(I)I"⟩, prog_12_method_100_code, 4, (some .int)) := rfl
theorem par_241 : (parseMethodDescriptor "(I)I").map (fun d => d.parameters.length) = some 1 := by decide +kernel
theorem at_242 : am_infos[242]? = some (⟨"AccessLatticeModel", "decides", "(II)I"⟩, prog_12_method_101_code, 8, (some .int)) := rfl
theorem par_242 : (parseMethodDescriptor "(II)I").map (fun d => d.parameters.length) = some 2 := by decide +kernel
theorem at_243 : am_infos[243]? = some (⟨"AccessLatticeModel", "since", "(I)I"⟩, prog_12_method_102_code, 5, (some .int)) := rfl
theorem par_243 : (parseMethodDescriptor "(I)I").map (fun d => d.parameters.length) = some 1 := by decide +kernel
theorem at_244 : am_infos[244]? = some (⟨"AccessLatticeModel", "copies", "([I[I)V"⟩, prog_12_method_8_code, 3, none) := rfl
theorem par_244 : (parseMethodDescriptor "([I[I)V").map (fun d => d.parameters.length) = some 2 := by decide +kernel
theorem at_245 : am_infos[245]? = some (⟨"AccessLatticeModel", "image", "()I"⟩, prog_12_method_103_code, 1, (some .int)) := rfl
theorem par_245 : (parseMethodDescriptor "()I").map (fun d => d.parameters.length) = some 0 := by decide +kernel
theorem at_246 : am_infos[246]? = some (⟨"AccessLatticeModel", "back", "()I"⟩, prog_12_method_104_code, 1, (some .int)) := rfl
theorem par_246 : (parseMethodDescriptor "()I").map (fun d => d.parameters.length) = some 0 := by decide +kernel
theorem at_247 : am_infos[247]? = some (⟨"AccessLatticeModel", "count", "(I)I"⟩, prog_12_method_105_code, 2, (some .int)) := rfl
theorem par_247 : (parseMethodDescriptor "(I)I").map (fun d => d.parameters.length) = some 1 := by decide +kernel
