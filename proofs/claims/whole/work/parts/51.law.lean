/-! THE LAW: its walk, given what each pair of calls comes to (wip/whole/gen_law.py) -/
theorem wl_0 : Cond.methodLink "AccessLatticeLaw" 13 ⟨"AccessLattice", "attribute", "(IIII)I"⟩ ∈ am_tbl := am_in2 (k := 166) rfl rfl
theorem wl_1 : Cond.instanceMethod ⟨"AccessLattice", "attribute", "(IIII)I"⟩ ∈ am_tbl := am_in2 (k := 167) rfl rfl
theorem wl_2 : Cond.selects "AccessLattice" ⟨"AccessLattice", "attribute", "(IIII)I"⟩ ⟨"AccessLattice", "attribute", "(IIII)I"⟩ ∈ am_tbl := am_in2 (k := 168) rfl rfl
theorem wl_3 : Cond.initialized "AccessLattice" ∈ am_tbl := am_in1 (k := 1) rfl rfl
theorem wl_4 : Cond.methodLink "AccessLatticeLaw" 17 ⟨"AccessLatticeModel", "attribute", "(IIII)I"⟩ ∈ am_tbl := am_in5 (k := 123) rfl rfl
theorem wl_5 : Cond.instanceMethod ⟨"AccessLatticeModel", "attribute", "(IIII)I"⟩ ∈ am_tbl := am_in5 (k := 124) rfl rfl
theorem wl_6 : Cond.selects "AccessLatticeModel" ⟨"AccessLatticeModel", "attribute", "(IIII)I"⟩ ⟨"AccessLatticeModel", "attribute", "(IIII)I"⟩ ∈ am_tbl := am_in5 (k := 125) rfl rfl
theorem wl_7 : Cond.initialized "AccessLatticeModel" ∈ am_tbl := am_in1 (k := 11) rfl rfl
theorem wl_8 : Cond.methodLink "AccessLatticeLaw" 18 ⟨"AccessLattice", "within", "(II)I"⟩ ∈ am_tbl := am_in2 (k := 179) rfl rfl
theorem wl_9 : Cond.instanceMethod ⟨"AccessLattice", "within", "(II)I"⟩ ∈ am_tbl := am_in2 (k := 180) rfl rfl
theorem wl_10 : Cond.selects "AccessLattice" ⟨"AccessLattice", "within", "(II)I"⟩ ⟨"AccessLattice", "within", "(II)I"⟩ ∈ am_tbl := am_in2 (k := 181) rfl rfl
theorem wl_11 : Cond.methodLink "AccessLatticeLaw" 22 ⟨"AccessLatticeModel", "within", "(II)I"⟩ ∈ am_tbl := am_in5 (k := 133) rfl rfl
theorem wl_12 : Cond.instanceMethod ⟨"AccessLatticeModel", "within", "(II)I"⟩ ∈ am_tbl := am_in5 (k := 134) rfl rfl
theorem wl_13 : Cond.selects "AccessLatticeModel" ⟨"AccessLatticeModel", "within", "(II)I"⟩ ⟨"AccessLatticeModel", "within", "(II)I"⟩ ∈ am_tbl := am_in5 (k := 135) rfl rfl
theorem wl_14 : Cond.methodLink "AccessLatticeLaw" 23 ⟨"AccessLattice", "senior", "(III)I"⟩ ∈ am_tbl := am_in2 (k := 187) rfl rfl
theorem wl_15 : Cond.instanceMethod ⟨"AccessLattice", "senior", "(III)I"⟩ ∈ am_tbl := am_in2 (k := 188) rfl rfl
theorem wl_16 : Cond.selects "AccessLattice" ⟨"AccessLattice", "senior", "(III)I"⟩ ⟨"AccessLattice", "senior", "(III)I"⟩ ∈ am_tbl := am_in2 (k := 189) rfl rfl
theorem wl_17 : Cond.methodLink "AccessLatticeLaw" 27 ⟨"AccessLatticeModel", "senior", "(III)I"⟩ ∈ am_tbl := am_in5 (k := 141) rfl rfl
theorem wl_18 : Cond.instanceMethod ⟨"AccessLatticeModel", "senior", "(III)I"⟩ ∈ am_tbl := am_in5 (k := 142) rfl rfl
theorem wl_19 : Cond.selects "AccessLatticeModel" ⟨"AccessLatticeModel", "senior", "(III)I"⟩ ⟨"AccessLatticeModel", "senior", "(III)I"⟩ ∈ am_tbl := am_in5 (k := 143) rfl rfl
theorem wl_20 : Cond.methodLink "AccessLatticeLaw" 28 ⟨"AccessLattice", "assign", "(III)I"⟩ ∈ am_tbl := am_in3 (k := 5) rfl rfl
theorem wl_21 : Cond.instanceMethod ⟨"AccessLattice", "assign", "(III)I"⟩ ∈ am_tbl := am_in3 (k := 6) rfl rfl
theorem wl_22 : Cond.selects "AccessLattice" ⟨"AccessLattice", "assign", "(III)I"⟩ ⟨"AccessLattice", "assign", "(III)I"⟩ ∈ am_tbl := am_in3 (k := 7) rfl rfl
theorem wl_23 : Cond.methodLink "AccessLatticeLaw" 31 ⟨"AccessLatticeModel", "assign", "(III)I"⟩ ∈ am_tbl := am_in5 (k := 180) rfl rfl
theorem wl_24 : Cond.instanceMethod ⟨"AccessLatticeModel", "assign", "(III)I"⟩ ∈ am_tbl := am_in5 (k := 181) rfl rfl
theorem wl_25 : Cond.selects "AccessLatticeModel" ⟨"AccessLatticeModel", "assign", "(III)I"⟩ ⟨"AccessLatticeModel", "assign", "(III)I"⟩ ∈ am_tbl := am_in5 (k := 182) rfl rfl
theorem wl_26 : Cond.methodLink "AccessLatticeLaw" 32 ⟨"AccessLattice", "exclude", "(III)I"⟩ ∈ am_tbl := am_in3 (k := 18) rfl rfl
theorem wl_27 : Cond.instanceMethod ⟨"AccessLattice", "exclude", "(III)I"⟩ ∈ am_tbl := am_in3 (k := 19) rfl rfl
theorem wl_28 : Cond.selects "AccessLattice" ⟨"AccessLattice", "exclude", "(III)I"⟩ ⟨"AccessLattice", "exclude", "(III)I"⟩ ∈ am_tbl := am_in3 (k := 20) rfl rfl
theorem wl_29 : Cond.methodLink "AccessLatticeLaw" 35 ⟨"AccessLatticeModel", "exclude", "(III)I"⟩ ∈ am_tbl := am_in5 (k := 187) rfl rfl
theorem wl_30 : Cond.instanceMethod ⟨"AccessLatticeModel", "exclude", "(III)I"⟩ ∈ am_tbl := am_in5 (k := 188) rfl rfl
theorem wl_31 : Cond.selects "AccessLatticeModel" ⟨"AccessLatticeModel", "exclude", "(III)I"⟩ ⟨"AccessLatticeModel", "exclude", "(III)I"⟩ ∈ am_tbl := am_in5 (k := 189) rfl rfl
theorem wl_32 : Cond.methodLink "AccessLatticeLaw" 36 ⟨"AccessLattice", "step", "(I)I"⟩ ∈ am_tbl := am_in3 (k := 26) rfl rfl
theorem wl_33 : Cond.instanceMethod ⟨"AccessLattice", "step", "(I)I"⟩ ∈ am_tbl := am_in3 (k := 27) rfl rfl
theorem wl_34 : Cond.selects "AccessLattice" ⟨"AccessLattice", "step", "(I)I"⟩ ⟨"AccessLattice", "step", "(I)I"⟩ ∈ am_tbl := am_in3 (k := 28) rfl rfl
theorem wl_35 : Cond.methodLink "AccessLatticeLaw" 40 ⟨"AccessLatticeModel", "step", "(I)I"⟩ ∈ am_tbl := am_in5 (k := 191) rfl rfl
theorem wl_36 : Cond.instanceMethod ⟨"AccessLatticeModel", "step", "(I)I"⟩ ∈ am_tbl := am_in5 (k := 192) rfl rfl
theorem wl_37 : Cond.selects "AccessLatticeModel" ⟨"AccessLatticeModel", "step", "(I)I"⟩ ⟨"AccessLatticeModel", "step", "(I)I"⟩ ∈ am_tbl := am_in5 (k := 193) rfl rfl
theorem wl_38 : Cond.methodLink "AccessLatticeLaw" 41 ⟨"AccessLattice", "lend", "(IIIII)I"⟩ ∈ am_tbl := am_in3 (k := 30) rfl rfl
theorem wl_39 : Cond.instanceMethod ⟨"AccessLattice", "lend", "(IIIII)I"⟩ ∈ am_tbl := am_in3 (k := 31) rfl rfl
theorem wl_40 : Cond.selects "AccessLattice" ⟨"AccessLattice", "lend", "(IIIII)I"⟩ ⟨"AccessLattice", "lend", "(IIIII)I"⟩ ∈ am_tbl := am_in3 (k := 32) rfl rfl
theorem wl_41 : Cond.methodLink "AccessLatticeLaw" 45 ⟨"AccessLatticeModel", "lend", "(IIIII)I"⟩ ∈ am_tbl := am_in5 (k := 195) rfl rfl
theorem wl_42 : Cond.instanceMethod ⟨"AccessLatticeModel", "lend", "(IIIII)I"⟩ ∈ am_tbl := am_in5 (k := 196) rfl rfl
theorem wl_43 : Cond.selects "AccessLatticeModel" ⟨"AccessLatticeModel", "lend", "(IIIII)I"⟩ ⟨"AccessLatticeModel", "lend", "(IIIII)I"⟩ ∈ am_tbl := am_in5 (k := 197) rfl rfl
theorem wl_44 : Cond.methodLink "AccessLatticeLaw" 46 ⟨"AccessLattice", "takeBack", "(I)I"⟩ ∈ am_tbl := am_in3 (k := 44) rfl rfl
theorem wl_45 : Cond.instanceMethod ⟨"AccessLattice", "takeBack", "(I)I"⟩ ∈ am_tbl := am_in3 (k := 45) rfl rfl
theorem wl_46 : Cond.selects "AccessLattice" ⟨"AccessLattice", "takeBack", "(I)I"⟩ ⟨"AccessLattice", "takeBack", "(I)I"⟩ ∈ am_tbl := am_in3 (k := 46) rfl rfl
theorem wl_47 : Cond.methodLink "AccessLatticeLaw" 49 ⟨"AccessLatticeModel", "takeBack", "(I)I"⟩ ∈ am_tbl := am_in5 (k := 203) rfl rfl
theorem wl_48 : Cond.instanceMethod ⟨"AccessLatticeModel", "takeBack", "(I)I"⟩ ∈ am_tbl := am_in5 (k := 204) rfl rfl
theorem wl_49 : Cond.selects "AccessLatticeModel" ⟨"AccessLatticeModel", "takeBack", "(I)I"⟩ ⟨"AccessLatticeModel", "takeBack", "(I)I"⟩ ∈ am_tbl := am_in5 (k := 205) rfl rfl
theorem wl_50 : Cond.methodLink "AccessLatticeLaw" 50 ⟨"AccessLattice", "loan", "(II)I"⟩ ∈ am_tbl := am_in3 (k := 59) rfl rfl
theorem wl_51 : Cond.instanceMethod ⟨"AccessLattice", "loan", "(II)I"⟩ ∈ am_tbl := am_in3 (k := 60) rfl rfl
theorem wl_52 : Cond.selects "AccessLattice" ⟨"AccessLattice", "loan", "(II)I"⟩ ⟨"AccessLattice", "loan", "(II)I"⟩ ∈ am_tbl := am_in3 (k := 61) rfl rfl
theorem wl_53 : Cond.methodLink "AccessLatticeLaw" 53 ⟨"AccessLatticeModel", "loan", "(II)I"⟩ ∈ am_tbl := am_in5 (k := 211) rfl rfl
theorem wl_54 : Cond.instanceMethod ⟨"AccessLatticeModel", "loan", "(II)I"⟩ ∈ am_tbl := am_in5 (k := 212) rfl rfl
theorem wl_55 : Cond.selects "AccessLatticeModel" ⟨"AccessLatticeModel", "loan", "(II)I"⟩ ⟨"AccessLatticeModel", "loan", "(II)I"⟩ ∈ am_tbl := am_in5 (k := 213) rfl rfl
theorem wl_56 : Cond.methodLink "AccessLatticeLaw" 54 ⟨"AccessLattice", "holds", "(II)I"⟩ ∈ am_tbl := am_in3 (k := 63) rfl rfl
theorem wl_57 : Cond.instanceMethod ⟨"AccessLattice", "holds", "(II)I"⟩ ∈ am_tbl := am_in3 (k := 64) rfl rfl
theorem wl_58 : Cond.selects "AccessLattice" ⟨"AccessLattice", "holds", "(II)I"⟩ ⟨"AccessLattice", "holds", "(II)I"⟩ ∈ am_tbl := am_in3 (k := 65) rfl rfl
theorem wl_59 : Cond.methodLink "AccessLatticeLaw" 57 ⟨"AccessLatticeModel", "holds", "(II)I"⟩ ∈ am_tbl := am_in5 (k := 215) rfl rfl
theorem wl_60 : Cond.instanceMethod ⟨"AccessLatticeModel", "holds", "(II)I"⟩ ∈ am_tbl := am_in5 (k := 216) rfl rfl
theorem wl_61 : Cond.selects "AccessLatticeModel" ⟨"AccessLatticeModel", "holds", "(II)I"⟩ ⟨"AccessLatticeModel", "holds", "(II)I"⟩ ∈ am_tbl := am_in5 (k := 217) rfl rfl
theorem wl_62 : Cond.methodLink "AccessLatticeLaw" 58 ⟨"AccessLattice", "feed", "(I)I"⟩ ∈ am_tbl := am_in3 (k := 67) rfl rfl
theorem wl_63 : Cond.instanceMethod ⟨"AccessLattice", "feed", "(I)I"⟩ ∈ am_tbl := am_in3 (k := 68) rfl rfl
theorem wl_64 : Cond.selects "AccessLattice" ⟨"AccessLattice", "feed", "(I)I"⟩ ⟨"AccessLattice", "feed", "(I)I"⟩ ∈ am_tbl := am_in3 (k := 69) rfl rfl
theorem wl_65 : Cond.methodLink "AccessLatticeLaw" 61 ⟨"AccessLatticeModel", "feed", "(I)I"⟩ ∈ am_tbl := am_in5 (k := 219) rfl rfl
theorem wl_66 : Cond.instanceMethod ⟨"AccessLatticeModel", "feed", "(I)I"⟩ ∈ am_tbl := am_in5 (k := 220) rfl rfl
theorem wl_67 : Cond.selects "AccessLatticeModel" ⟨"AccessLatticeModel", "feed", "(I)I"⟩ ⟨"AccessLatticeModel", "feed", "(I)I"⟩ ∈ am_tbl := am_in5 (k := 221) rfl rfl
theorem wl_68 : Cond.methodLink "AccessLatticeLaw" 62 ⟨"AccessLattice", "rule", "(IIIII)I"⟩ ∈ am_tbl := am_in3 (k := 71) rfl rfl
theorem wl_69 : Cond.instanceMethod ⟨"AccessLattice", "rule", "(IIIII)I"⟩ ∈ am_tbl := am_in3 (k := 72) rfl rfl
theorem wl_70 : Cond.selects "AccessLattice" ⟨"AccessLattice", "rule", "(IIIII)I"⟩ ⟨"AccessLattice", "rule", "(IIIII)I"⟩ ∈ am_tbl := am_in3 (k := 73) rfl rfl
theorem wl_71 : Cond.methodLink "AccessLatticeLaw" 65 ⟨"AccessLatticeModel", "rule", "(IIIII)I"⟩ ∈ am_tbl := am_in5 (k := 223) rfl rfl
theorem wl_72 : Cond.instanceMethod ⟨"AccessLatticeModel", "rule", "(IIIII)I"⟩ ∈ am_tbl := am_in5 (k := 224) rfl rfl
theorem wl_73 : Cond.selects "AccessLatticeModel" ⟨"AccessLatticeModel", "rule", "(IIIII)I"⟩ ⟨"AccessLatticeModel", "rule", "(IIIII)I"⟩ ∈ am_tbl := am_in5 (k := 225) rfl rfl
theorem wl_74 : Cond.methodLink "AccessLatticeLaw" 66 ⟨"AccessLattice", "off", "(I)I"⟩ ∈ am_tbl := am_in3 (k := 156) rfl rfl
theorem wl_75 : Cond.instanceMethod ⟨"AccessLattice", "off", "(I)I"⟩ ∈ am_tbl := am_in3 (k := 157) rfl rfl
theorem wl_76 : Cond.selects "AccessLattice" ⟨"AccessLattice", "off", "(I)I"⟩ ⟨"AccessLattice", "off", "(I)I"⟩ ∈ am_tbl := am_in3 (k := 158) rfl rfl
theorem wl_77 : Cond.methodLink "AccessLatticeLaw" 69 ⟨"AccessLatticeModel", "off", "(I)I"⟩ ∈ am_tbl := am_in6 (k := 47) rfl rfl
theorem wl_78 : Cond.instanceMethod ⟨"AccessLatticeModel", "off", "(I)I"⟩ ∈ am_tbl := am_in6 (k := 48) rfl rfl
theorem wl_79 : Cond.selects "AccessLatticeModel" ⟨"AccessLatticeModel", "off", "(I)I"⟩ ⟨"AccessLatticeModel", "off", "(I)I"⟩ ∈ am_tbl := am_in6 (k := 49) rfl rfl
theorem wl_80 : Cond.methodLink "AccessLatticeLaw" 70 ⟨"AccessLattice", "of", "(II)I"⟩ ∈ am_tbl := am_in3 (k := 164) rfl rfl
theorem wl_81 : Cond.instanceMethod ⟨"AccessLattice", "of", "(II)I"⟩ ∈ am_tbl := am_in3 (k := 165) rfl rfl
theorem wl_82 : Cond.selects "AccessLattice" ⟨"AccessLattice", "of", "(II)I"⟩ ⟨"AccessLattice", "of", "(II)I"⟩ ∈ am_tbl := am_in3 (k := 166) rfl rfl
theorem wl_83 : Cond.methodLink "AccessLatticeLaw" 73 ⟨"AccessLatticeModel", "of", "(II)I"⟩ ∈ am_tbl := am_in6 (k := 63) rfl rfl
theorem wl_84 : Cond.instanceMethod ⟨"AccessLatticeModel", "of", "(II)I"⟩ ∈ am_tbl := am_in6 (k := 64) rfl rfl
theorem wl_85 : Cond.selects "AccessLatticeModel" ⟨"AccessLatticeModel", "of", "(II)I"⟩ ⟨"AccessLatticeModel", "of", "(II)I"⟩ ∈ am_tbl := am_in6 (k := 65) rfl rfl
theorem wl_86 : Cond.methodLink "AccessLatticeLaw" 74 ⟨"AccessLattice", "uses", "(II)I"⟩ ∈ am_tbl := am_in3 (k := 168) rfl rfl
theorem wl_87 : Cond.instanceMethod ⟨"AccessLattice", "uses", "(II)I"⟩ ∈ am_tbl := am_in3 (k := 169) rfl rfl
theorem wl_88 : Cond.selects "AccessLattice" ⟨"AccessLattice", "uses", "(II)I"⟩ ⟨"AccessLattice", "uses", "(II)I"⟩ ∈ am_tbl := am_in3 (k := 170) rfl rfl
theorem wl_89 : Cond.methodLink "AccessLatticeLaw" 77 ⟨"AccessLatticeModel", "uses", "(II)I"⟩ ∈ am_tbl := am_in6 (k := 67) rfl rfl
theorem wl_90 : Cond.instanceMethod ⟨"AccessLatticeModel", "uses", "(II)I"⟩ ∈ am_tbl := am_in6 (k := 68) rfl rfl
theorem wl_91 : Cond.selects "AccessLatticeModel" ⟨"AccessLatticeModel", "uses", "(II)I"⟩ ⟨"AccessLatticeModel", "uses", "(II)I"⟩ ∈ am_tbl := am_in6 (k := 69) rfl rfl
theorem wl_92 : Cond.methodLink "AccessLatticeLaw" 78 ⟨"AccessLattice", "left", "(I)I"⟩ ∈ am_tbl := am_in3 (k := 172) rfl rfl
theorem wl_93 : Cond.instanceMethod ⟨"AccessLattice", "left", "(I)I"⟩ ∈ am_tbl := am_in3 (k := 173) rfl rfl
theorem wl_94 : Cond.selects "AccessLattice" ⟨"AccessLattice", "left", "(I)I"⟩ ⟨"AccessLattice", "left", "(I)I"⟩ ∈ am_tbl := am_in3 (k := 174) rfl rfl
theorem wl_95 : Cond.methodLink "AccessLatticeLaw" 81 ⟨"AccessLatticeModel", "left", "(I)I"⟩ ∈ am_tbl := am_in6 (k := 71) rfl rfl
theorem wl_96 : Cond.instanceMethod ⟨"AccessLatticeModel", "left", "(I)I"⟩ ∈ am_tbl := am_in6 (k := 72) rfl rfl
theorem wl_97 : Cond.selects "AccessLatticeModel" ⟨"AccessLatticeModel", "left", "(I)I"⟩ ⟨"AccessLatticeModel", "left", "(I)I"⟩ ∈ am_tbl := am_in6 (k := 73) rfl rfl
theorem wl_98 : Cond.methodLink "AccessLatticeLaw" 82 ⟨"AccessLattice", "seniors", "()I"⟩ ∈ am_tbl := am_in3 (k := 176) rfl rfl
theorem wl_99 : Cond.instanceMethod ⟨"AccessLattice", "seniors", "()I"⟩ ∈ am_tbl := am_in3 (k := 177) rfl rfl
theorem wl_100 : Cond.selects "AccessLattice" ⟨"AccessLattice", "seniors", "()I"⟩ ⟨"AccessLattice", "seniors", "()I"⟩ ∈ am_tbl := am_in3 (k := 178) rfl rfl
theorem wl_101 : Cond.methodLink "AccessLatticeLaw" 86 ⟨"AccessLatticeModel", "seniors", "()I"⟩ ∈ am_tbl := am_in6 (k := 75) rfl rfl
theorem wl_102 : Cond.instanceMethod ⟨"AccessLatticeModel", "seniors", "()I"⟩ ∈ am_tbl := am_in6 (k := 76) rfl rfl
theorem wl_103 : Cond.selects "AccessLatticeModel" ⟨"AccessLatticeModel", "seniors", "()I"⟩ ⟨"AccessLatticeModel", "seniors", "()I"⟩ ∈ am_tbl := am_in6 (k := 77) rfl rfl
theorem wl_104 : Cond.methodLink "AccessLatticeLaw" 87 ⟨"AccessLattice", "may", "(III)I"⟩ ∈ am_tbl := am_in3 (k := 193) rfl rfl
theorem wl_105 : Cond.instanceMethod ⟨"AccessLattice", "may", "(III)I"⟩ ∈ am_tbl := am_in3 (k := 194) rfl rfl
theorem wl_106 : Cond.selects "AccessLattice" ⟨"AccessLattice", "may", "(III)I"⟩ ⟨"AccessLattice", "may", "(III)I"⟩ ∈ am_tbl := am_in3 (k := 195) rfl rfl
theorem wl_107 : Cond.methodLink "AccessLatticeLaw" 90 ⟨"AccessLatticeModel", "may", "(III)I"⟩ ∈ am_tbl := am_in6 (k := 80) rfl rfl
theorem wl_108 : Cond.instanceMethod ⟨"AccessLatticeModel", "may", "(III)I"⟩ ∈ am_tbl := am_in6 (k := 81) rfl rfl
theorem wl_109 : Cond.selects "AccessLatticeModel" ⟨"AccessLatticeModel", "may", "(III)I"⟩ ⟨"AccessLatticeModel", "may", "(III)I"⟩ ∈ am_tbl := am_in6 (k := 82) rfl rfl
theorem wl_110 : Cond.methodLink "AccessLatticeLaw" 91 ⟨"AccessLattice", "why", "(II)I"⟩ ∈ am_tbl := am_in4 (k := 43) rfl rfl
theorem wl_111 : Cond.instanceMethod ⟨"AccessLattice", "why", "(II)I"⟩ ∈ am_tbl := am_in4 (k := 44) rfl rfl
theorem wl_112 : Cond.selects "AccessLattice" ⟨"AccessLattice", "why", "(II)I"⟩ ⟨"AccessLattice", "why", "(II)I"⟩ ∈ am_tbl := am_in4 (k := 45) rfl rfl
theorem wl_113 : Cond.methodLink "AccessLatticeLaw" 94 ⟨"AccessLatticeModel", "why", "(II)I"⟩ ∈ am_tbl := am_in6 (k := 129) rfl rfl
theorem wl_114 : Cond.instanceMethod ⟨"AccessLatticeModel", "why", "(II)I"⟩ ∈ am_tbl := am_in6 (k := 130) rfl rfl
theorem wl_115 : Cond.selects "AccessLatticeModel" ⟨"AccessLatticeModel", "why", "(II)I"⟩ ⟨"AccessLatticeModel", "why", "(II)I"⟩ ∈ am_tbl := am_in6 (k := 131) rfl rfl
theorem wl_116 : Cond.methodLink "AccessLatticeLaw" 95 ⟨"AccessLattice", "who", "(III)I"⟩ ∈ am_tbl := am_in4 (k := 47) rfl rfl
theorem wl_117 : Cond.instanceMethod ⟨"AccessLattice", "who", "(III)I"⟩ ∈ am_tbl := am_in4 (k := 48) rfl rfl
theorem wl_118 : Cond.selects "AccessLattice" ⟨"AccessLattice", "who", "(III)I"⟩ ⟨"AccessLattice", "who", "(III)I"⟩ ∈ am_tbl := am_in4 (k := 49) rfl rfl
theorem wl_119 : Cond.methodLink "AccessLatticeLaw" 98 ⟨"AccessLatticeModel", "who", "(III)I"⟩ ∈ am_tbl := am_in6 (k := 133) rfl rfl
theorem wl_120 : Cond.instanceMethod ⟨"AccessLatticeModel", "who", "(III)I"⟩ ∈ am_tbl := am_in6 (k := 134) rfl rfl
theorem wl_121 : Cond.selects "AccessLatticeModel" ⟨"AccessLatticeModel", "who", "(III)I"⟩ ⟨"AccessLatticeModel", "who", "(III)I"⟩ ∈ am_tbl := am_in6 (k := 135) rfl rfl
theorem wl_122 : Cond.methodLink "AccessLatticeLaw" 99 ⟨"AccessLattice", "where", "(II)I"⟩ ∈ am_tbl := am_in4 (k := 58) rfl rfl
theorem wl_123 : Cond.instanceMethod ⟨"AccessLattice", "where", "(II)I"⟩ ∈ am_tbl := am_in4 (k := 59) rfl rfl
theorem wl_124 : Cond.selects "AccessLattice" ⟨"AccessLattice", "where", "(II)I"⟩ ⟨"AccessLattice", "where", "(II)I"⟩ ∈ am_tbl := am_in4 (k := 60) rfl rfl
theorem wl_125 : Cond.methodLink "AccessLatticeLaw" 102 ⟨"AccessLatticeModel", "where", "(II)I"⟩ ∈ am_tbl := am_in6 (k := 141) rfl rfl
theorem wl_126 : Cond.instanceMethod ⟨"AccessLatticeModel", "where", "(II)I"⟩ ∈ am_tbl := am_in6 (k := 142) rfl rfl
theorem wl_127 : Cond.selects "AccessLatticeModel" ⟨"AccessLatticeModel", "where", "(II)I"⟩ ⟨"AccessLatticeModel", "where", "(II)I"⟩ ∈ am_tbl := am_in6 (k := 143) rfl rfl
theorem wl_128 : Cond.methodLink "AccessLatticeLaw" 103 ⟨"AccessLattice", "could", "(III)I"⟩ ∈ am_tbl := am_in4 (k := 66) rfl rfl
theorem wl_129 : Cond.instanceMethod ⟨"AccessLattice", "could", "(III)I"⟩ ∈ am_tbl := am_in4 (k := 67) rfl rfl
theorem wl_130 : Cond.selects "AccessLattice" ⟨"AccessLattice", "could", "(III)I"⟩ ⟨"AccessLattice", "could", "(III)I"⟩ ∈ am_tbl := am_in4 (k := 68) rfl rfl
theorem wl_131 : Cond.methodLink "AccessLatticeLaw" 106 ⟨"AccessLatticeModel", "could", "(III)I"⟩ ∈ am_tbl := am_in6 (k := 145) rfl rfl
theorem wl_132 : Cond.instanceMethod ⟨"AccessLatticeModel", "could", "(III)I"⟩ ∈ am_tbl := am_in6 (k := 146) rfl rfl
theorem wl_133 : Cond.selects "AccessLatticeModel" ⟨"AccessLatticeModel", "could", "(III)I"⟩ ⟨"AccessLatticeModel", "could", "(III)I"⟩ ∈ am_tbl := am_in6 (k := 147) rfl rfl
theorem wl_134 : Cond.methodLink "AccessLatticeLaw" 107 ⟨"AccessLattice", "least", "(IIII)I"⟩ ∈ am_tbl := am_in4 (k := 71) rfl rfl
theorem wl_135 : Cond.instanceMethod ⟨"AccessLattice", "least", "(IIII)I"⟩ ∈ am_tbl := am_in4 (k := 72) rfl rfl
theorem wl_136 : Cond.selects "AccessLattice" ⟨"AccessLattice", "least", "(IIII)I"⟩ ⟨"AccessLattice", "least", "(IIII)I"⟩ ∈ am_tbl := am_in4 (k := 73) rfl rfl
theorem wl_137 : Cond.methodLink "AccessLatticeLaw" 110 ⟨"AccessLatticeModel", "least", "(IIII)I"⟩ ∈ am_tbl := am_in6 (k := 149) rfl rfl
theorem wl_138 : Cond.instanceMethod ⟨"AccessLatticeModel", "least", "(IIII)I"⟩ ∈ am_tbl := am_in6 (k := 150) rfl rfl
theorem wl_139 : Cond.selects "AccessLatticeModel" ⟨"AccessLatticeModel", "least", "(IIII)I"⟩ ⟨"AccessLatticeModel", "least", "(IIII)I"⟩ ∈ am_tbl := am_in6 (k := 151) rfl rfl
theorem wl_140 : Cond.methodLink "AccessLatticeLaw" 111 ⟨"AccessLattice", "until", "(III)I"⟩ ∈ am_tbl := am_in4 (k := 117) rfl rfl
theorem wl_141 : Cond.instanceMethod ⟨"AccessLattice", "until", "(III)I"⟩ ∈ am_tbl := am_in4 (k := 118) rfl rfl
theorem wl_142 : Cond.selects "AccessLattice" ⟨"AccessLattice", "until", "(III)I"⟩ ⟨"AccessLattice", "until", "(III)I"⟩ ∈ am_tbl := am_in4 (k := 119) rfl rfl
theorem wl_143 : Cond.methodLink "AccessLatticeLaw" 114 ⟨"AccessLatticeModel", "until", "(III)I"⟩ ∈ am_tbl := am_in6 (k := 185) rfl rfl
theorem wl_144 : Cond.instanceMethod ⟨"AccessLatticeModel", "until", "(III)I"⟩ ∈ am_tbl := am_in6 (k := 186) rfl rfl
theorem wl_145 : Cond.selects "AccessLatticeModel" ⟨"AccessLatticeModel", "until", "(III)I"⟩ ⟨"AccessLatticeModel", "until", "(III)I"⟩ ∈ am_tbl := am_in6 (k := 187) rfl rfl
theorem wl_146 : Cond.methodLink "AccessLatticeLaw" 115 ⟨"AccessLattice", "lose", "(IIII)I"⟩ ∈ am_tbl := am_in4 (k := 121) rfl rfl
theorem wl_147 : Cond.instanceMethod ⟨"AccessLattice", "lose", "(IIII)I"⟩ ∈ am_tbl := am_in4 (k := 122) rfl rfl
theorem wl_148 : Cond.selects "AccessLattice" ⟨"AccessLattice", "lose", "(IIII)I"⟩ ⟨"AccessLattice", "lose", "(IIII)I"⟩ ∈ am_tbl := am_in4 (k := 123) rfl rfl
theorem wl_149 : Cond.methodLink "AccessLatticeLaw" 118 ⟨"AccessLatticeModel", "lose", "(IIII)I"⟩ ∈ am_tbl := am_in6 (k := 181) rfl rfl
theorem wl_150 : Cond.instanceMethod ⟨"AccessLatticeModel", "lose", "(IIII)I"⟩ ∈ am_tbl := am_in6 (k := 182) rfl rfl
theorem wl_151 : Cond.selects "AccessLatticeModel" ⟨"AccessLatticeModel", "lose", "(IIII)I"⟩ ⟨"AccessLatticeModel", "lose", "(IIII)I"⟩ ∈ am_tbl := am_in6 (k := 183) rfl rfl
theorem wl_152 : Cond.methodLink "AccessLatticeLaw" 119 ⟨"AccessLattice", "changes", "(IIII)I"⟩ ∈ am_tbl := am_in4 (k := 133) rfl rfl
theorem wl_153 : Cond.instanceMethod ⟨"AccessLattice", "changes", "(IIII)I"⟩ ∈ am_tbl := am_in4 (k := 134) rfl rfl
theorem wl_154 : Cond.selects "AccessLattice" ⟨"AccessLattice", "changes", "(IIII)I"⟩ ⟨"AccessLattice", "changes", "(IIII)I"⟩ ∈ am_tbl := am_in4 (k := 135) rfl rfl
theorem wl_155 : Cond.methodLink "AccessLatticeLaw" 122 ⟨"AccessLatticeModel", "changes", "(IIII)I"⟩ ∈ am_tbl := am_in6 (k := 193) rfl rfl
theorem wl_156 : Cond.instanceMethod ⟨"AccessLatticeModel", "changes", "(IIII)I"⟩ ∈ am_tbl := am_in6 (k := 194) rfl rfl
theorem wl_157 : Cond.selects "AccessLatticeModel" ⟨"AccessLatticeModel", "changes", "(IIII)I"⟩ ⟨"AccessLatticeModel", "changes", "(IIII)I"⟩ ∈ am_tbl := am_in6 (k := 195) rfl rfl
theorem wl_158 : Cond.methodLink "AccessLatticeLaw" 123 ⟨"AccessLattice", "ways", "(II)I"⟩ ∈ am_tbl := am_in4 (k := 137) rfl rfl
theorem wl_159 : Cond.instanceMethod ⟨"AccessLattice", "ways", "(II)I"⟩ ∈ am_tbl := am_in4 (k := 138) rfl rfl
theorem wl_160 : Cond.selects "AccessLattice" ⟨"AccessLattice", "ways", "(II)I"⟩ ⟨"AccessLattice", "ways", "(II)I"⟩ ∈ am_tbl := am_in4 (k := 139) rfl rfl
theorem wl_161 : Cond.methodLink "AccessLatticeLaw" 126 ⟨"AccessLatticeModel", "ways", "(II)I"⟩ ∈ am_tbl := am_in6 (k := 197) rfl rfl
theorem wl_162 : Cond.instanceMethod ⟨"AccessLatticeModel", "ways", "(II)I"⟩ ∈ am_tbl := am_in6 (k := 198) rfl rfl
theorem wl_163 : Cond.selects "AccessLatticeModel" ⟨"AccessLatticeModel", "ways", "(II)I"⟩ ⟨"AccessLatticeModel", "ways", "(II)I"⟩ ∈ am_tbl := am_in6 (k := 199) rfl rfl
theorem wl_164 : Cond.methodLink "AccessLatticeLaw" 127 ⟨"AccessLattice", "idle", "(I)I"⟩ ∈ am_tbl := am_in4 (k := 146) rfl rfl
theorem wl_165 : Cond.instanceMethod ⟨"AccessLattice", "idle", "(I)I"⟩ ∈ am_tbl := am_in4 (k := 147) rfl rfl
theorem wl_166 : Cond.selects "AccessLattice" ⟨"AccessLattice", "idle", "(I)I"⟩ ⟨"AccessLattice", "idle", "(I)I"⟩ ∈ am_tbl := am_in4 (k := 148) rfl rfl
theorem wl_167 : Cond.methodLink "AccessLatticeLaw" 130 ⟨"AccessLatticeModel", "idle", "(I)I"⟩ ∈ am_tbl := am_in6 (k := 205) rfl rfl
theorem wl_168 : Cond.instanceMethod ⟨"AccessLatticeModel", "idle", "(I)I"⟩ ∈ am_tbl := am_in6 (k := 206) rfl rfl
theorem wl_169 : Cond.selects "AccessLatticeModel" ⟨"AccessLatticeModel", "idle", "(I)I"⟩ ⟨"AccessLatticeModel", "idle", "(I)I"⟩ ∈ am_tbl := am_in6 (k := 207) rfl rfl
theorem wl_170 : Cond.methodLink "AccessLatticeLaw" 131 ⟨"AccessLattice", "unlike", "(III)I"⟩ ∈ am_tbl := am_in4 (k := 150) rfl rfl
theorem wl_171 : Cond.instanceMethod ⟨"AccessLattice", "unlike", "(III)I"⟩ ∈ am_tbl := am_in4 (k := 151) rfl rfl
theorem wl_172 : Cond.selects "AccessLattice" ⟨"AccessLattice", "unlike", "(III)I"⟩ ⟨"AccessLattice", "unlike", "(III)I"⟩ ∈ am_tbl := am_in4 (k := 152) rfl rfl
theorem wl_173 : Cond.methodLink "AccessLatticeLaw" 134 ⟨"AccessLatticeModel", "unlike", "(III)I"⟩ ∈ am_tbl := am_in6 (k := 209) rfl rfl
theorem wl_174 : Cond.instanceMethod ⟨"AccessLatticeModel", "unlike", "(III)I"⟩ ∈ am_tbl := am_in6 (k := 210) rfl rfl
theorem wl_175 : Cond.selects "AccessLatticeModel" ⟨"AccessLatticeModel", "unlike", "(III)I"⟩ ⟨"AccessLatticeModel", "unlike", "(III)I"⟩ ∈ am_tbl := am_in6 (k := 211) rfl rfl
theorem wl_176 : Cond.methodLink "AccessLatticeLaw" 135 ⟨"AccessLattice", "book", "(II)I"⟩ ∈ am_tbl := am_in4 (k := 154) rfl rfl
theorem wl_177 : Cond.instanceMethod ⟨"AccessLattice", "book", "(II)I"⟩ ∈ am_tbl := am_in4 (k := 155) rfl rfl
theorem wl_178 : Cond.selects "AccessLattice" ⟨"AccessLattice", "book", "(II)I"⟩ ⟨"AccessLattice", "book", "(II)I"⟩ ∈ am_tbl := am_in4 (k := 156) rfl rfl
theorem wl_179 : Cond.methodLink "AccessLatticeLaw" 138 ⟨"AccessLatticeModel", "book", "(II)I"⟩ ∈ am_tbl := am_in6 (k := 213) rfl rfl
theorem wl_180 : Cond.instanceMethod ⟨"AccessLatticeModel", "book", "(II)I"⟩ ∈ am_tbl := am_in6 (k := 214) rfl rfl
theorem wl_181 : Cond.selects "AccessLatticeModel" ⟨"AccessLatticeModel", "book", "(II)I"⟩ ⟨"AccessLatticeModel", "book", "(II)I"⟩ ∈ am_tbl := am_in6 (k := 215) rfl rfl
theorem wl_182 : Cond.methodLink "AccessLatticeLaw" 139 ⟨"AccessLattice", "shadowed", "(I)I"⟩ ∈ am_tbl := am_in4 (k := 158) rfl rfl
theorem wl_183 : Cond.instanceMethod ⟨"AccessLattice", "shadowed", "(I)I"⟩ ∈ am_tbl := am_in4 (k := 159) rfl rfl
theorem wl_184 : Cond.selects "AccessLattice" ⟨"AccessLattice", "shadowed", "(I)I"⟩ ⟨"AccessLattice", "shadowed", "(I)I"⟩ ∈ am_tbl := am_in4 (k := 160) rfl rfl
theorem wl_185 : Cond.methodLink "AccessLatticeLaw" 142 ⟨"AccessLatticeModel", "shadowed", "(I)I"⟩ ∈ am_tbl := am_in6 (k := 217) rfl rfl
theorem wl_186 : Cond.instanceMethod ⟨"AccessLatticeModel", "shadowed", "(I)I"⟩ ∈ am_tbl := am_in6 (k := 218) rfl rfl
theorem wl_187 : Cond.selects "AccessLatticeModel" ⟨"AccessLatticeModel", "shadowed", "(I)I"⟩ ⟨"AccessLatticeModel", "shadowed", "(I)I"⟩ ∈ am_tbl := am_in6 (k := 219) rfl rfl
theorem wl_188 : Cond.methodLink "AccessLatticeLaw" 143 ⟨"AccessLattice", "clash", "(II)I"⟩ ∈ am_tbl := am_in4 (k := 167) rfl rfl
theorem wl_189 : Cond.instanceMethod ⟨"AccessLattice", "clash", "(II)I"⟩ ∈ am_tbl := am_in4 (k := 168) rfl rfl
theorem wl_190 : Cond.selects "AccessLattice" ⟨"AccessLattice", "clash", "(II)I"⟩ ⟨"AccessLattice", "clash", "(II)I"⟩ ∈ am_tbl := am_in4 (k := 169) rfl rfl
theorem wl_191 : Cond.methodLink "AccessLatticeLaw" 146 ⟨"AccessLatticeModel", "clash", "(II)I"⟩ ∈ am_tbl := am_in6 (k := 229) rfl rfl
theorem wl_192 : Cond.instanceMethod ⟨"AccessLatticeModel", "clash", "(II)I"⟩ ∈ am_tbl := am_in6 (k := 230) rfl rfl
theorem wl_193 : Cond.selects "AccessLatticeModel" ⟨"AccessLatticeModel", "clash", "(II)I"⟩ ⟨"AccessLatticeModel", "clash", "(II)I"⟩ ∈ am_tbl := am_in6 (k := 231) rfl rfl
theorem wl_194 : Cond.methodLink "AccessLatticeLaw" 147 ⟨"AccessLattice", "join", "(III)I"⟩ ∈ am_tbl := am_in4 (k := 183) rfl rfl
theorem wl_195 : Cond.instanceMethod ⟨"AccessLattice", "join", "(III)I"⟩ ∈ am_tbl := am_in4 (k := 184) rfl rfl
theorem wl_196 : Cond.selects "AccessLattice" ⟨"AccessLattice", "join", "(III)I"⟩ ⟨"AccessLattice", "join", "(III)I"⟩ ∈ am_tbl := am_in4 (k := 185) rfl rfl
theorem wl_197 : Cond.methodLink "AccessLatticeLaw" 150 ⟨"AccessLatticeModel", "join", "(III)I"⟩ ∈ am_tbl := am_in6 (k := 237) rfl rfl
theorem wl_198 : Cond.instanceMethod ⟨"AccessLatticeModel", "join", "(III)I"⟩ ∈ am_tbl := am_in6 (k := 238) rfl rfl
theorem wl_199 : Cond.selects "AccessLatticeModel" ⟨"AccessLatticeModel", "join", "(III)I"⟩ ⟨"AccessLatticeModel", "join", "(III)I"⟩ ∈ am_tbl := am_in6 (k := 239) rfl rfl
theorem wl_200 : Cond.methodLink "AccessLatticeLaw" 151 ⟨"AccessLattice", "roles", "(II)I"⟩ ∈ am_tbl := am_in4 (k := 187) rfl rfl
theorem wl_201 : Cond.instanceMethod ⟨"AccessLattice", "roles", "(II)I"⟩ ∈ am_tbl := am_in4 (k := 188) rfl rfl
theorem wl_202 : Cond.selects "AccessLattice" ⟨"AccessLattice", "roles", "(II)I"⟩ ⟨"AccessLattice", "roles", "(II)I"⟩ ∈ am_tbl := am_in4 (k := 189) rfl rfl
theorem wl_203 : Cond.methodLink "AccessLatticeLaw" 154 ⟨"AccessLatticeModel", "roles", "(II)I"⟩ ∈ am_tbl := am_in7 (k := 1) rfl rfl
theorem wl_204 : Cond.instanceMethod ⟨"AccessLatticeModel", "roles", "(II)I"⟩ ∈ am_tbl := am_in7 (k := 2) rfl rfl
theorem wl_205 : Cond.selects "AccessLatticeModel" ⟨"AccessLatticeModel", "roles", "(II)I"⟩ ⟨"AccessLatticeModel", "roles", "(II)I"⟩ ∈ am_tbl := am_in7 (k := 3) rfl rfl
theorem wl_206 : Cond.methodLink "AccessLatticeLaw" 155 ⟨"AccessLattice", "level", "(I)I"⟩ ∈ am_tbl := am_in4 (k := 191) rfl rfl
theorem wl_207 : Cond.instanceMethod ⟨"AccessLattice", "level", "(I)I"⟩ ∈ am_tbl := am_in4 (k := 192) rfl rfl
theorem wl_208 : Cond.selects "AccessLattice" ⟨"AccessLattice", "level", "(I)I"⟩ ⟨"AccessLattice", "level", "(I)I"⟩ ∈ am_tbl := am_in4 (k := 193) rfl rfl
theorem wl_209 : Cond.methodLink "AccessLatticeLaw" 158 ⟨"AccessLatticeModel", "level", "(I)I"⟩ ∈ am_tbl := am_in7 (k := 5) rfl rfl
theorem wl_210 : Cond.instanceMethod ⟨"AccessLatticeModel", "level", "(I)I"⟩ ∈ am_tbl := am_in7 (k := 6) rfl rfl
theorem wl_211 : Cond.selects "AccessLatticeModel" ⟨"AccessLatticeModel", "level", "(I)I"⟩ ⟨"AccessLatticeModel", "level", "(I)I"⟩ ∈ am_tbl := am_in7 (k := 7) rfl rfl
theorem wl_212 : Cond.methodLink "AccessLatticeLaw" 159 ⟨"AccessLattice", "chain", "(III)I"⟩ ∈ am_tbl := am_in4 (k := 199) rfl rfl
theorem wl_213 : Cond.instanceMethod ⟨"AccessLattice", "chain", "(III)I"⟩ ∈ am_tbl := am_in4 (k := 200) rfl rfl
theorem wl_214 : Cond.selects "AccessLattice" ⟨"AccessLattice", "chain", "(III)I"⟩ ⟨"AccessLattice", "chain", "(III)I"⟩ ∈ am_tbl := am_in4 (k := 201) rfl rfl
theorem wl_215 : Cond.methodLink "AccessLatticeLaw" 162 ⟨"AccessLatticeModel", "chain", "(III)I"⟩ ∈ am_tbl := am_in7 (k := 14) rfl rfl
theorem wl_216 : Cond.instanceMethod ⟨"AccessLatticeModel", "chain", "(III)I"⟩ ∈ am_tbl := am_in7 (k := 15) rfl rfl
theorem wl_217 : Cond.selects "AccessLatticeModel" ⟨"AccessLatticeModel", "chain", "(III)I"⟩ ⟨"AccessLatticeModel", "chain", "(III)I"⟩ ∈ am_tbl := am_in7 (k := 16) rfl rfl
theorem wl_218 : Cond.methodLink "AccessLatticeLaw" 163 ⟨"AccessLattice", "under", "(I)I"⟩ ∈ am_tbl := am_in4 (k := 203) rfl rfl
theorem wl_219 : Cond.instanceMethod ⟨"AccessLattice", "under", "(I)I"⟩ ∈ am_tbl := am_in4 (k := 204) rfl rfl
theorem wl_220 : Cond.selects "AccessLattice" ⟨"AccessLattice", "under", "(I)I"⟩ ⟨"AccessLattice", "under", "(I)I"⟩ ∈ am_tbl := am_in4 (k := 205) rfl rfl
theorem wl_221 : Cond.methodLink "AccessLatticeLaw" 166 ⟨"AccessLatticeModel", "under", "(I)I"⟩ ∈ am_tbl := am_in7 (k := 18) rfl rfl
theorem wl_222 : Cond.instanceMethod ⟨"AccessLatticeModel", "under", "(I)I"⟩ ∈ am_tbl := am_in7 (k := 19) rfl rfl
theorem wl_223 : Cond.selects "AccessLatticeModel" ⟨"AccessLatticeModel", "under", "(I)I"⟩ ⟨"AccessLatticeModel", "under", "(I)I"⟩ ∈ am_tbl := am_in7 (k := 20) rfl rfl
theorem wl_224 : Cond.methodLink "AccessLatticeLaw" 167 ⟨"AccessLattice", "decides", "(II)I"⟩ ∈ am_tbl := am_in4 (k := 207) rfl rfl
theorem wl_225 : Cond.instanceMethod ⟨"AccessLattice", "decides", "(II)I"⟩ ∈ am_tbl := am_in4 (k := 208) rfl rfl
theorem wl_226 : Cond.selects "AccessLattice" ⟨"AccessLattice", "decides", "(II)I"⟩ ⟨"AccessLattice", "decides", "(II)I"⟩ ∈ am_tbl := am_in4 (k := 209) rfl rfl
theorem wl_227 : Cond.methodLink "AccessLatticeLaw" 170 ⟨"AccessLatticeModel", "decides", "(II)I"⟩ ∈ am_tbl := am_in7 (k := 22) rfl rfl
theorem wl_228 : Cond.instanceMethod ⟨"AccessLatticeModel", "decides", "(II)I"⟩ ∈ am_tbl := am_in7 (k := 23) rfl rfl
theorem wl_229 : Cond.selects "AccessLatticeModel" ⟨"AccessLatticeModel", "decides", "(II)I"⟩ ⟨"AccessLatticeModel", "decides", "(II)I"⟩ ∈ am_tbl := am_in7 (k := 24) rfl rfl
theorem wl_230 : Cond.methodLink "AccessLatticeLaw" 171 ⟨"AccessLattice", "since", "(I)I"⟩ ∈ am_tbl := am_in4 (k := 215) rfl rfl
theorem wl_231 : Cond.instanceMethod ⟨"AccessLattice", "since", "(I)I"⟩ ∈ am_tbl := am_in4 (k := 216) rfl rfl
theorem wl_232 : Cond.selects "AccessLattice" ⟨"AccessLattice", "since", "(I)I"⟩ ⟨"AccessLattice", "since", "(I)I"⟩ ∈ am_tbl := am_in4 (k := 217) rfl rfl
theorem wl_233 : Cond.methodLink "AccessLatticeLaw" 174 ⟨"AccessLatticeModel", "since", "(I)I"⟩ ∈ am_tbl := am_in7 (k := 26) rfl rfl
theorem wl_234 : Cond.instanceMethod ⟨"AccessLatticeModel", "since", "(I)I"⟩ ∈ am_tbl := am_in7 (k := 27) rfl rfl
theorem wl_235 : Cond.selects "AccessLatticeModel" ⟨"AccessLatticeModel", "since", "(I)I"⟩ ⟨"AccessLatticeModel", "since", "(I)I"⟩ ∈ am_tbl := am_in7 (k := 28) rfl rfl
theorem wl_236 : Cond.methodLink "AccessLatticeLaw" 175 ⟨"AccessLattice", "image", "()I"⟩ ∈ am_tbl := am_in4 (k := 223) rfl rfl
theorem wl_237 : Cond.instanceMethod ⟨"AccessLattice", "image", "()I"⟩ ∈ am_tbl := am_in4 (k := 224) rfl rfl
theorem wl_238 : Cond.selects "AccessLattice" ⟨"AccessLattice", "image", "()I"⟩ ⟨"AccessLattice", "image", "()I"⟩ ∈ am_tbl := am_in4 (k := 225) rfl rfl
theorem wl_239 : Cond.methodLink "AccessLatticeLaw" 178 ⟨"AccessLatticeModel", "image", "()I"⟩ ∈ am_tbl := am_in7 (k := 33) rfl rfl
theorem wl_240 : Cond.instanceMethod ⟨"AccessLatticeModel", "image", "()I"⟩ ∈ am_tbl := am_in7 (k := 34) rfl rfl
theorem wl_241 : Cond.selects "AccessLatticeModel" ⟨"AccessLatticeModel", "image", "()I"⟩ ⟨"AccessLatticeModel", "image", "()I"⟩ ∈ am_tbl := am_in7 (k := 35) rfl rfl
theorem wl_242 : Cond.methodLink "AccessLatticeLaw" 179 ⟨"AccessLattice", "back", "()I"⟩ ∈ am_tbl := am_in5 (k := 4) rfl rfl
theorem wl_243 : Cond.instanceMethod ⟨"AccessLattice", "back", "()I"⟩ ∈ am_tbl := am_in5 (k := 5) rfl rfl
theorem wl_244 : Cond.selects "AccessLattice" ⟨"AccessLattice", "back", "()I"⟩ ⟨"AccessLattice", "back", "()I"⟩ ∈ am_tbl := am_in5 (k := 6) rfl rfl
theorem wl_245 : Cond.methodLink "AccessLatticeLaw" 182 ⟨"AccessLatticeModel", "back", "()I"⟩ ∈ am_tbl := am_in7 (k := 37) rfl rfl
theorem wl_246 : Cond.instanceMethod ⟨"AccessLatticeModel", "back", "()I"⟩ ∈ am_tbl := am_in7 (k := 38) rfl rfl
theorem wl_247 : Cond.selects "AccessLatticeModel" ⟨"AccessLatticeModel", "back", "()I"⟩ ⟨"AccessLatticeModel", "back", "()I"⟩ ∈ am_tbl := am_in7 (k := 39) rfl rfl
theorem wl_248 : Cond.methodLink "AccessLatticeLaw" 183 ⟨"AccessLattice", "count", "(I)I"⟩ ∈ am_tbl := am_in5 (k := 8) rfl rfl
theorem wl_249 : Cond.instanceMethod ⟨"AccessLattice", "count", "(I)I"⟩ ∈ am_tbl := am_in5 (k := 9) rfl rfl
theorem wl_250 : Cond.selects "AccessLattice" ⟨"AccessLattice", "count", "(I)I"⟩ ⟨"AccessLattice", "count", "(I)I"⟩ ∈ am_tbl := am_in5 (k := 10) rfl rfl
theorem wl_251 : Cond.methodLink "AccessLatticeLaw" 186 ⟨"AccessLatticeModel", "count", "(I)I"⟩ ∈ am_tbl := am_in7 (k := 41) rfl rfl
theorem wl_252 : Cond.instanceMethod ⟨"AccessLatticeModel", "count", "(I)I"⟩ ∈ am_tbl := am_in7 (k := 42) rfl rfl
theorem wl_253 : Cond.selects "AccessLatticeModel" ⟨"AccessLatticeModel", "count", "(I)I"⟩ ⟨"AccessLatticeModel", "count", "(I)I"⟩ ∈ am_tbl := am_in7 (k := 43) rfl rfl
/-- what a pair of calls, of the class and of the reference, comes to: one answer; the invariant holds again -/
def am_Pair (I : am_M → Prop) (jx nx jm nm n : Nat) : Prop := ∀ (μ : am_M) (as : List Int32), as.length = n → I μ → ∃ (r : Int32) (μ1 μ2 : am_M), am_D 900 jx nx (.ref 0 :: as.map .int) μ (some (.int r), μ1) ∧ am_D 900 jm nm (.ref 88 :: as.map .int) μ1 (some (.int r), μ2) ∧ I μ2 ∧ am_nx μ1 = am_nx μ ∧ am_ns μ1 = am_ns μ ∧ am_nx μ2 = am_nx μ ∧ am_ns μ2 = am_ns μ ∧ am_is μ1 88 12 = true
def lw_G (D : va_G) (cI cZ : ClassId) (s : State) (μ : am_M) (H : Heap) (locs : List Loc) : Prop := H.size = s.heap.size + am_nx μ ∧ va_P D am_cls (am_ws s.heap.size cI cZ μ) H ∧ va_S (fun q => s.heap.size ≤ q) s.heap H locs
def lw_Fx (p : Program) (s : State) (m : MethodId) (c : Code) (D : va_G) (cI cZ : ClassId) (b L : Nat) (xs : Nat → Int32) : Prop :=
  p.tables.exec = Jvm.exec ∧ c.code = code ∧ c.maxLocals = 4 ∧ s.vm.findClass R_law = some m.cls ∧ (∀ w ∈ am_tbl, w.before #[Value.ref b] s = true) ∧ (∀ w ∈ am_nst, va_Nw w s) ∧ va_K D am_cls [(cI, .int), (cZ, .boolean)] s ∧ va_X b L xs s s.heap ∧ b < s.heap.size ∧ L ≤ 3072
section
variable {p : Program} {l : Launch} {e : Env} {s : State} {m : MethodId} {below : List Frame} {meth : Method} {c : Code} {b L : Nat} {xs : Nat → Int32} {D : va_G} {cI cZ : ClassId} {Q : State → Prop} {cells slots : Nat} {ls : Array Slot} {H : Heap} {locs : List Loc} {μ μ1 : am_M} {i : Nat}
theorem lw_push (pc k : Nat) {z : Int} {st : List Value} (C : lw_Fx p s m c D cI cZ b L xs) (G : lw_G D cI cZ s μ H locs) (hl : lv_has ls 4 [(0, .ref b), (1, .ref (s.heap.size + 0)), (2, .ref (s.heap.size + 88)), (3, .int (nI i))]) (hik : i + k < L)
    (d0 : decode code pc = .ok (.aload_n 0, 1)) (d1 : decode code (pc + 1) = .ok (.iload_n 3, 1)) (d2 : decode code (pc + 2) = .ok (.iconst z, 1)) (hz : Int32.ofInt z = nI k) (d3 : decode code (pc + 3) = .ok (.iadd, 1)) (d4 : decode code (pc + 4) = .ok (.iaload, 1))
    (kk : W p l e room_1 s m #[Value.ref b] below meth c H locs cells slots Q (F0 m (pc + 5) ls (.int (xs (i + k)) :: st))) : W p l e room_1 s m #[Value.ref b] below meth c H locs cells slots Q (F0 m pc ls st) := by
  obtain ⟨hx, hb, hml, ho, ht, hN, hK, hX, hbl, hL⟩ := C
  refine lv_aload_n hx hb d0 rfl (lv_at hl 0 rfl) ?_
  refine lv_iload_n hx hb d1 rfl (lv_at hl 3 rfl) ?_
  refine lv_iconst hx hb d2 hz ?_
  refine lv_iadd hx hb d3 ?_
  rw [nI_add]
  refine va_sld (A := fun q => s.heap.size ≤ q) hx hb hX hbl (Nat.not_le.mpr hbl) G.2.2 (vp_in_nI hik (by omega)) d4 ?_
  rw [nI_clamp (by omega)]
  exact kk
theorem lw_call {j na rid ci ix pc : Nat} {q : am_I} {w : vw_C} {as rest : List Value} {r : Option Value} (C : lw_Fx p s m c D cI cZ b L xs) (G : lw_G D cI cZ s μ H locs) (hls : ls.size = 4) (hi : am_infos[j]? = some q) (hw1 : Cond.methodLink R_law ix q.1 ∈ am_tbl) (hw2 : Cond.instanceMethod q.1 ∈ am_tbl) (hw3 : Cond.selects q.1.cls q.1 q.1 ∈ am_tbl) (hini : Cond.initialized q.1.cls ∈ am_tbl) (hpar : (parseMethodDescriptor q.1.desc).map (fun d => d.parameters.length) = some na) (hcl : am_cls[ci]? = some w) (hcw : w.1 = q.1.cls) (hk : am_is μ rid (ci + 2) = true)
    (hD : am_D 900 j q.2.2.1 (.ref rid :: as) μ (r, μ1)) (hnx : am_nx μ1 = am_nx μ) (hns : am_ns μ1 = am_ns μ) (hlen : as.length = na) (hcat : (rest.map fun v => v.category).sum ≤ 8) (hcells : cells ≤ 600000) (hslots : slots ≤ 7302250) (hd : decode code pc = .ok (.invokevirtual ix, 3))
    (kk : ∀ (H1 : Heap) (locs1 : List Loc), lw_G D cI cZ s μ1 H1 locs1 → W p l e room_1 s m #[Value.ref b] below meth c H1 locs1 cells slots Q (F0 m (pc + 3) ls ((r.map (am_v s.heap.size)).toList ++ rest))) : W p l e room_1 s m #[Value.ref b] below meth c H locs cells slots Q (F0 m pc ls ((as.map (am_v s.heap.size)).reverse ++ .ref (s.heap.size + rid) :: rest)) := by
  obtain ⟨hx, hb, hml, ho, ht, hN, hK, hX, hbl, hL⟩ := C
  obtain ⟨hz, hP, hS⟩ := G
  obtain ⟨k, L0, h1, h2, n, hrun⟩ := hD
  have hM := am_met am_all l D cI cZ s.heap.size (d := 900) (mc := 0) (ms := 0) hi h1 h2 hrun (by omega) (by omega)
  obtain ⟨-, -, hcls, h24⟩ := am_all j q k hi h1
  obtain ⟨g1, g2⟩ := am_is_of hk
  have he := am_ws_at (b := s.heap.size) (cI := cI) (cZ := cZ) g2
  rw [am_ent_c g1] at he
  have hrc := va_recv hK hP hcl he
  rw [hcw] at hrc
  have hroom : (am_rm 900 0 0).frames + 1 ≤ room_1.frames ∧ 8 + (q.2.2.1 + 11) + (am_rm 900 0 0).locals ≤ room_1.locals := ⟨Nat.le_of_ble_eq_true rfl, by show 8 + (q.2.2.1 + 11) + 57664 ≤ 84000; omega⟩
  refine am_goon (va_runV (C := q.1.cls) (As := as.map (am_v s.heap.size)) (rest := rest) ⟨hx, hb, hml, ho, ht⟩ hM ⟨callB_of na ht (am_good q (List.mem_of_getElem? hi)) rfl rfl rfl (ht _ hini) (ht _ hw1) ⟨hcls.1, hcls.2, hpar⟩ hroom, ht _ hw2, ht _ hw3⟩ ⟨am_blind D cI cZ s.heap.size μ _, hrc, fun U hU hW => ⟨rfl, am_In_warm hK hN hz hP hU hW⟩⟩ rfl (by rw [List.length_map]; exact hlen) hls rfl (lv_room hcat) hd ⟨hcells, hslots⟩) hS fun H1 locs1 z1 P1 S1 => ?_
  exact kk H1 locs1 ⟨z1, P1, S1⟩
theorem lw_tsw {pc : Nat} {dflt lo hi : Int} {offs : Array Int} {len : Nat} {tg : List Nat} {df : Nat} {x : Int32} (hx : p.tables.exec = Jvm.exec) (hb : c.code = code) (hd : decode code pc = .ok (.tableswitch dflt lo hi offs, len)) (h1 : (pc : Int) + dflt = (df : Int)) (h2 : offs.toList.map (fun o => (pc : Int) + o) = tg.map (fun t : Nat => (t : Int))) (h3 : hi = lo + (tg.length : Int) - 1) (h4 : -1000 ≤ lo ∧ lo + tg.length ≤ 100000)
    (kk : W p l e room_1 s m #[Value.ref b] below meth c H locs cells slots Q (F0 m (am_ltg (am_zp lo tg) df x) ls [])) : W p l e room_1 s m #[Value.ref b] below meth c H locs cells slots Q (F0 m pc ls [.int x]) := by
  rw [← am_tgt_zp lo tg df x h4.1 h4.2] at kk
  have hlen : offs.toList.length = tg.length := by
    have := congrArg List.length h2
    simpa using this
  unfold am_tgt at kk
  by_cases c1 : x.toInt < lo
  · rw [if_pos c1] at kk
    exact lv_tableOut hx hb hd (Or.inl c1) h1 kk
  · rw [if_neg c1] at kk
    by_cases c2 : hi < x.toInt
    · have hno : tg[(x.toInt - lo).toNat]? = none := List.getElem?_eq_none (by omega)
      rw [List.getD_eq_getElem?_getD, hno] at kk
      exact lv_tableOut hx hb hd (Or.inr c2) h1 kk
    · have hi9 : (x.toInt - lo).toNat < tg.length := by omega
      have e1 : tg[(x.toInt - lo).toNat]? = some tg[(x.toInt - lo).toNat] := List.getElem?_eq_getElem hi9
      have e2 : offs.toList[(x.toInt - lo).toNat]? = some (offs.toList[(x.toInt - lo).toNat]'(by omega)) := List.getElem?_eq_getElem (by omega)
      have e3 := congrArg (fun z => z[(x.toInt - lo).toNat]?) h2
      simp only [List.getElem?_map, e1, e2, Option.map_some, Option.some.injEq] at e3
      rw [List.getD_eq_getElem?_getD, e1] at kk
      exact lv_tableIn hx hb hd c1 c2 (by rw [← Array.getElem?_toList]; exact e2) e3 kk
theorem lw_ltg {pcs : List (Int32 × Nat)} {df : Nat} {x : Int32} {g : Nat → JFrame} (h : ∀ q ∈ pcs, W p l e room_1 s m #[Value.ref b] below meth c H locs cells slots Q (g q.2)) (hd : W p l e room_1 s m #[Value.ref b] below meth c H locs cells slots Q (g df)) : W p l e room_1 s m #[Value.ref b] below meth c H locs cells slots Q (g (am_ltg pcs df x)) := by
  induction pcs with
  | nil => exact hd
  | cons q r ih =>
    unfold am_ltg
    by_cases hq : x = q.1
    · rw [if_pos hq]; exact h q List.mem_cons_self
    · rw [if_neg hq]; exact ih (fun q' hq' => h q' (List.mem_cons_of_mem _ hq'))
/-- attribute -/
theorem lw_c0 {I : am_M → Prop} (hI0 : ∀ μ, I μ → am_is μ 0 11 = true) (hp : am_Pair I 12 8 146 7 4) (hI : I μ) (C : lw_Fx p s m c D cI cZ b L xs) (G : lw_G D cI cZ s μ H locs) (hl : lv_has ls 4 [(0, .ref b), (1, .ref (s.heap.size + 0)), (2, .ref (s.heap.size + 88)), (3, .int (nI i))]) (hik : i + 5 < L) (hcells : cells ≤ 600000) (hslots : slots ≤ 7302250)
    (kk : ∀ (μ2 : am_M) (H2 : Heap) (locs2 : List Loc), I μ2 → lw_G D cI cZ s μ2 H2 locs2 → W p l e room_1 s m #[Value.ref b] below meth c H2 locs2 cells slots Q (F0 m 1672 ls [])) : W p l e room_1 s m #[Value.ref b] below meth c H locs cells slots Q (F0 m 216 ls []) := by
  obtain ⟨r, μ1, μ2, h1, h2, h3, e1, e2, e3, e4, hk⟩ := hp μ [xs (i + 1), xs (i + 2), xs (i + 3), xs (i + 4)] rfl hI
  obtain ⟨hx, hb, -⟩ := id C
  refine lv_aload_n hx hb (show decode code 216 = .ok (.aload_n 1, 1) by decide +kernel) rfl (lv_at hl 1 rfl) ?_
  refine lw_push 217 1 C G hl (by omega) (show decode code 217 = .ok (.aload_n 0, 1) by decide +kernel) (show decode code 218 = .ok (.iload_n 3, 1) by decide +kernel) (show decode code 219 = .ok (.iconst 1, 1) by decide +kernel) rfl (show decode code 220 = .ok (.iadd, 1) by decide +kernel) (show decode code 221 = .ok (.iaload, 1) by decide +kernel) ?_
  refine lw_push 222 2 C G hl (by omega) (show decode code 222 = .ok (.aload_n 0, 1) by decide +kernel) (show decode code 223 = .ok (.iload_n 3, 1) by decide +kernel) (show decode code 224 = .ok (.iconst 2, 1) by decide +kernel) rfl (show decode code 225 = .ok (.iadd, 1) by decide +kernel) (show decode code 226 = .ok (.iaload, 1) by decide +kernel) ?_
  refine lw_push 227 3 C G hl (by omega) (show decode code 227 = .ok (.aload_n 0, 1) by decide +kernel) (show decode code 228 = .ok (.iload_n 3, 1) by decide +kernel) (show decode code 229 = .ok (.iconst 3, 1) by decide +kernel) rfl (show decode code 230 = .ok (.iadd, 1) by decide +kernel) (show decode code 231 = .ok (.iaload, 1) by decide +kernel) ?_
  refine lw_push 232 4 C G hl (by omega) (show decode code 232 = .ok (.aload_n 0, 1) by decide +kernel) (show decode code 233 = .ok (.iload_n 3, 1) by decide +kernel) (show decode code 234 = .ok (.iconst 4, 1) by decide +kernel) rfl (show decode code 235 = .ok (.iadd, 1) by decide +kernel) (show decode code 236 = .ok (.iaload, 1) by decide +kernel) ?_
  refine lw_call (j := 12) (na := 4) (rid := 0) (ci := 9) (as := [.int (xs (i + 1)), .int (xs (i + 2)), .int (xs (i + 3)), .int (xs (i + 4))]) (rest := []) C G hl.1 at_12 wl_0 wl_1 wl_2 wl_3 par_12 ckX9.1 rfl (hI0 μ hI) h1 e1 e2 rfl (Nat.le_of_ble_eq_true rfl) hcells hslots (show decode code 237 = .ok (.invokevirtual 13, 3) by decide +kernel) (fun H1 locs1 G1 => ?_)
  refine lv_aload_n hx hb (show decode code 240 = .ok (.aload_n 2, 1) by decide +kernel) rfl (lv_at hl 2 rfl) ?_
  refine lw_push 241 1 C G1 hl (by omega) (show decode code 241 = .ok (.aload_n 0, 1) by decide +kernel) (show decode code 242 = .ok (.iload_n 3, 1) by decide +kernel) (show decode code 243 = .ok (.iconst 1, 1) by decide +kernel) rfl (show decode code 244 = .ok (.iadd, 1) by decide +kernel) (show decode code 245 = .ok (.iaload, 1) by decide +kernel) ?_
  refine lw_push 246 2 C G1 hl (by omega) (show decode code 246 = .ok (.aload_n 0, 1) by decide +kernel) (show decode code 247 = .ok (.iload_n 3, 1) by decide +kernel) (show decode code 248 = .ok (.iconst 2, 1) by decide +kernel) rfl (show decode code 249 = .ok (.iadd, 1) by decide +kernel) (show decode code 250 = .ok (.iaload, 1) by decide +kernel) ?_
  refine lw_push 251 3 C G1 hl (by omega) (show decode code 251 = .ok (.aload_n 0, 1) by decide +kernel) (show decode code 252 = .ok (.iload_n 3, 1) by decide +kernel) (show decode code 253 = .ok (.iconst 3, 1) by decide +kernel) rfl (show decode code 254 = .ok (.iadd, 1) by decide +kernel) (show decode code 255 = .ok (.iaload, 1) by decide +kernel) ?_
  refine lw_push 256 4 C G1 hl (by omega) (show decode code 256 = .ok (.aload_n 0, 1) by decide +kernel) (show decode code 257 = .ok (.iload_n 3, 1) by decide +kernel) (show decode code 258 = .ok (.iconst 4, 1) by decide +kernel) rfl (show decode code 259 = .ok (.iadd, 1) by decide +kernel) (show decode code 260 = .ok (.iaload, 1) by decide +kernel) ?_
  refine lw_call (j := 146) (na := 4) (rid := 88) (ci := 10) (as := [.int (xs (i + 1)), .int (xs (i + 2)), .int (xs (i + 3)), .int (xs (i + 4))]) (rest := [.int r]) C G1 hl.1 at_146 wl_4 wl_5 wl_6 wl_7 par_146 ckX10.1 rfl hk h2 (e3.trans e1.symm) (e4.trans e2.symm) rfl (Nat.le_of_ble_eq_true rfl) hcells hslots (show decode code 261 = .ok (.invokevirtual 17, 3) by decide +kernel) (fun H2 locs2 G2 => ?_)
  refine lv_icmp_eq (tgt := 1672) hx hb (show decode code 264 = .ok (.if_icmp .eq 1408, 3) by decide +kernel) (by decide) (fun _ => ?_) (fun z => absurd rfl z)
  exact kk μ2 H2 locs2 h3 G2
/-- within -/
theorem lw_c1 {I : am_M → Prop} (hI0 : ∀ μ, I μ → am_is μ 0 11 = true) (hp : am_Pair I 16 4 149 4 2) (hI : I μ) (C : lw_Fx p s m c D cI cZ b L xs) (G : lw_G D cI cZ s μ H locs) (hl : lv_has ls 4 [(0, .ref b), (1, .ref (s.heap.size + 0)), (2, .ref (s.heap.size + 88)), (3, .int (nI i))]) (hik : i + 5 < L) (hcells : cells ≤ 600000) (hslots : slots ≤ 7302250)
    (kk : ∀ (μ2 : am_M) (H2 : Heap) (locs2 : List Loc), I μ2 → lw_G D cI cZ s μ2 H2 locs2 → W p l e room_1 s m #[Value.ref b] below meth c H2 locs2 cells slots Q (F0 m 1672 ls [])) : W p l e room_1 s m #[Value.ref b] below meth c H locs cells slots Q (F0 m 269 ls []) := by
  obtain ⟨r, μ1, μ2, h1, h2, h3, e1, e2, e3, e4, hk⟩ := hp μ [xs (i + 1), xs (i + 2)] rfl hI
  obtain ⟨hx, hb, -⟩ := id C
  refine lv_aload_n hx hb (show decode code 269 = .ok (.aload_n 1, 1) by decide +kernel) rfl (lv_at hl 1 rfl) ?_
  refine lw_push 270 1 C G hl (by omega) (show decode code 270 = .ok (.aload_n 0, 1) by decide +kernel) (show decode code 271 = .ok (.iload_n 3, 1) by decide +kernel) (show decode code 272 = .ok (.iconst 1, 1) by decide +kernel) rfl (show decode code 273 = .ok (.iadd, 1) by decide +kernel) (show decode code 274 = .ok (.iaload, 1) by decide +kernel) ?_
  refine lw_push 275 2 C G hl (by omega) (show decode code 275 = .ok (.aload_n 0, 1) by decide +kernel) (show decode code 276 = .ok (.iload_n 3, 1) by decide +kernel) (show decode code 277 = .ok (.iconst 2, 1) by decide +kernel) rfl (show decode code 278 = .ok (.iadd, 1) by decide +kernel) (show decode code 279 = .ok (.iaload, 1) by decide +kernel) ?_
  refine lw_call (j := 16) (na := 2) (rid := 0) (ci := 9) (as := [.int (xs (i + 1)), .int (xs (i + 2))]) (rest := []) C G hl.1 at_16 wl_8 wl_9 wl_10 wl_3 par_16 ckX9.1 rfl (hI0 μ hI) h1 e1 e2 rfl (Nat.le_of_ble_eq_true rfl) hcells hslots (show decode code 280 = .ok (.invokevirtual 18, 3) by decide +kernel) (fun H1 locs1 G1 => ?_)
  refine lv_aload_n hx hb (show decode code 283 = .ok (.aload_n 2, 1) by decide +kernel) rfl (lv_at hl 2 rfl) ?_
  refine lw_push 284 1 C G1 hl (by omega) (show decode code 284 = .ok (.aload_n 0, 1) by decide +kernel) (show decode code 285 = .ok (.iload_n 3, 1) by decide +kernel) (show decode code 286 = .ok (.iconst 1, 1) by decide +kernel) rfl (show decode code 287 = .ok (.iadd, 1) by decide +kernel) (show decode code 288 = .ok (.iaload, 1) by decide +kernel) ?_
  refine lw_push 289 2 C G1 hl (by omega) (show decode code 289 = .ok (.aload_n 0, 1) by decide +kernel) (show decode code 290 = .ok (.iload_n 3, 1) by decide +kernel) (show decode code 291 = .ok (.iconst 2, 1) by decide +kernel) rfl (show decode code 292 = .ok (.iadd, 1) by decide +kernel) (show decode code 293 = .ok (.iaload, 1) by decide +kernel) ?_
  refine lw_call (j := 149) (na := 2) (rid := 88) (ci := 10) (as := [.int (xs (i + 1)), .int (xs (i + 2))]) (rest := [.int r]) C G1 hl.1 at_149 wl_11 wl_12 wl_13 wl_7 par_149 ckX10.1 rfl hk h2 (e3.trans e1.symm) (e4.trans e2.symm) rfl (Nat.le_of_ble_eq_true rfl) hcells hslots (show decode code 294 = .ok (.invokevirtual 22, 3) by decide +kernel) (fun H2 locs2 G2 => ?_)
  refine lv_icmp_eq (tgt := 1672) hx hb (show decode code 297 = .ok (.if_icmp .eq 1375, 3) by decide +kernel) (by decide) (fun _ => ?_) (fun z => absurd rfl z)
  exact kk μ2 H2 locs2 h3 G2
/-- senior -/
theorem lw_c2 {I : am_M → Prop} (hI0 : ∀ μ, I μ → am_is μ 0 11 = true) (hp : am_Pair I 18 4 151 4 3) (hI : I μ) (C : lw_Fx p s m c D cI cZ b L xs) (G : lw_G D cI cZ s μ H locs) (hl : lv_has ls 4 [(0, .ref b), (1, .ref (s.heap.size + 0)), (2, .ref (s.heap.size + 88)), (3, .int (nI i))]) (hik : i + 5 < L) (hcells : cells ≤ 600000) (hslots : slots ≤ 7302250)
    (kk : ∀ (μ2 : am_M) (H2 : Heap) (locs2 : List Loc), I μ2 → lw_G D cI cZ s μ2 H2 locs2 → W p l e room_1 s m #[Value.ref b] below meth c H2 locs2 cells slots Q (F0 m 1672 ls [])) : W p l e room_1 s m #[Value.ref b] below meth c H locs cells slots Q (F0 m 302 ls []) := by
  obtain ⟨r, μ1, μ2, h1, h2, h3, e1, e2, e3, e4, hk⟩ := hp μ [xs (i + 1), xs (i + 2), xs (i + 3)] rfl hI
  obtain ⟨hx, hb, -⟩ := id C
  refine lv_aload_n hx hb (show decode code 302 = .ok (.aload_n 1, 1) by decide +kernel) rfl (lv_at hl 1 rfl) ?_
  refine lw_push 303 1 C G hl (by omega) (show decode code 303 = .ok (.aload_n 0, 1) by decide +kernel) (show decode code 304 = .ok (.iload_n 3, 1) by decide +kernel) (show decode code 305 = .ok (.iconst 1, 1) by decide +kernel) rfl (show decode code 306 = .ok (.iadd, 1) by decide +kernel) (show decode code 307 = .ok (.iaload, 1) by decide +kernel) ?_
  refine lw_push 308 2 C G hl (by omega) (show decode code 308 = .ok (.aload_n 0, 1) by decide +kernel) (show decode code 309 = .ok (.iload_n 3, 1) by decide +kernel) (show decode code 310 = .ok (.iconst 2, 1) by decide +kernel) rfl (show decode code 311 = .ok (.iadd, 1) by decide +kernel) (show decode code 312 = .ok (.iaload, 1) by decide +kernel) ?_
  refine lw_push 313 3 C G hl (by omega) (show decode code 313 = .ok (.aload_n 0, 1) by decide +kernel) (show decode code 314 = .ok (.iload_n 3, 1) by decide +kernel) (show decode code 315 = .ok (.iconst 3, 1) by decide +kernel) rfl (show decode code 316 = .ok (.iadd, 1) by decide +kernel) (show decode code 317 = .ok (.iaload, 1) by decide +kernel) ?_
  refine lw_call (j := 18) (na := 3) (rid := 0) (ci := 9) (as := [.int (xs (i + 1)), .int (xs (i + 2)), .int (xs (i + 3))]) (rest := []) C G hl.1 at_18 wl_14 wl_15 wl_16 wl_3 par_18 ckX9.1 rfl (hI0 μ hI) h1 e1 e2 rfl (Nat.le_of_ble_eq_true rfl) hcells hslots (show decode code 318 = .ok (.invokevirtual 23, 3) by decide +kernel) (fun H1 locs1 G1 => ?_)
  refine lv_aload_n hx hb (show decode code 321 = .ok (.aload_n 2, 1) by decide +kernel) rfl (lv_at hl 2 rfl) ?_
  refine lw_push 322 1 C G1 hl (by omega) (show decode code 322 = .ok (.aload_n 0, 1) by decide +kernel) (show decode code 323 = .ok (.iload_n 3, 1) by decide +kernel) (show decode code 324 = .ok (.iconst 1, 1) by decide +kernel) rfl (show decode code 325 = .ok (.iadd, 1) by decide +kernel) (show decode code 326 = .ok (.iaload, 1) by decide +kernel) ?_
  refine lw_push 327 2 C G1 hl (by omega) (show decode code 327 = .ok (.aload_n 0, 1) by decide +kernel) (show decode code 328 = .ok (.iload_n 3, 1) by decide +kernel) (show decode code 329 = .ok (.iconst 2, 1) by decide +kernel) rfl (show decode code 330 = .ok (.iadd, 1) by decide +kernel) (show decode code 331 = .ok (.iaload, 1) by decide +kernel) ?_
  refine lw_push 332 3 C G1 hl (by omega) (show decode code 332 = .ok (.aload_n 0, 1) by decide +kernel) (show decode code 333 = .ok (.iload_n 3, 1) by decide +kernel) (show decode code 334 = .ok (.iconst 3, 1) by decide +kernel) rfl (show decode code 335 = .ok (.iadd, 1) by decide +kernel) (show decode code 336 = .ok (.iaload, 1) by decide +kernel) ?_
  refine lw_call (j := 151) (na := 3) (rid := 88) (ci := 10) (as := [.int (xs (i + 1)), .int (xs (i + 2)), .int (xs (i + 3))]) (rest := [.int r]) C G1 hl.1 at_151 wl_17 wl_18 wl_19 wl_7 par_151 ckX10.1 rfl hk h2 (e3.trans e1.symm) (e4.trans e2.symm) rfl (Nat.le_of_ble_eq_true rfl) hcells hslots (show decode code 337 = .ok (.invokevirtual 27, 3) by decide +kernel) (fun H2 locs2 G2 => ?_)
  refine lv_icmp_eq (tgt := 1672) hx hb (show decode code 340 = .ok (.if_icmp .eq 1332, 3) by decide +kernel) (by decide) (fun _ => ?_) (fun z => absurd rfl z)
  exact kk μ2 H2 locs2 h3 G2
/-- assign -/
theorem lw_c3 {I : am_M → Prop} (hI0 : ∀ μ, I μ → am_is μ 0 11 = true) (hp : am_Pair I 31 5 161 4 3) (hI : I μ) (C : lw_Fx p s m c D cI cZ b L xs) (G : lw_G D cI cZ s μ H locs) (hl : lv_has ls 4 [(0, .ref b), (1, .ref (s.heap.size + 0)), (2, .ref (s.heap.size + 88)), (3, .int (nI i))]) (hik : i + 5 < L) (hcells : cells ≤ 600000) (hslots : slots ≤ 7302250)
    (kk : ∀ (μ2 : am_M) (H2 : Heap) (locs2 : List Loc), I μ2 → lw_G D cI cZ s μ2 H2 locs2 → W p l e room_1 s m #[Value.ref b] below meth c H2 locs2 cells slots Q (F0 m 1672 ls [])) : W p l e room_1 s m #[Value.ref b] below meth c H locs cells slots Q (F0 m 345 ls []) := by
  obtain ⟨r, μ1, μ2, h1, h2, h3, e1, e2, e3, e4, hk⟩ := hp μ [xs (i + 1), xs (i + 2), xs (i + 3)] rfl hI
  obtain ⟨hx, hb, -⟩ := id C
  refine lv_aload_n hx hb (show decode code 345 = .ok (.aload_n 1, 1) by decide +kernel) rfl (lv_at hl 1 rfl) ?_
  refine lw_push 346 1 C G hl (by omega) (show decode code 346 = .ok (.aload_n 0, 1) by decide +kernel) (show decode code 347 = .ok (.iload_n 3, 1) by decide +kernel) (show decode code 348 = .ok (.iconst 1, 1) by decide +kernel) rfl (show decode code 349 = .ok (.iadd, 1) by decide +kernel) (show decode code 350 = .ok (.iaload, 1) by decide +kernel) ?_
  refine lw_push 351 2 C G hl (by omega) (show decode code 351 = .ok (.aload_n 0, 1) by decide +kernel) (show decode code 352 = .ok (.iload_n 3, 1) by decide +kernel) (show decode code 353 = .ok (.iconst 2, 1) by decide +kernel) rfl (show decode code 354 = .ok (.iadd, 1) by decide +kernel) (show decode code 355 = .ok (.iaload, 1) by decide +kernel) ?_
  refine lw_push 356 3 C G hl (by omega) (show decode code 356 = .ok (.aload_n 0, 1) by decide +kernel) (show decode code 357 = .ok (.iload_n 3, 1) by decide +kernel) (show decode code 358 = .ok (.iconst 3, 1) by decide +kernel) rfl (show decode code 359 = .ok (.iadd, 1) by decide +kernel) (show decode code 360 = .ok (.iaload, 1) by decide +kernel) ?_
  refine lw_call (j := 31) (na := 3) (rid := 0) (ci := 9) (as := [.int (xs (i + 1)), .int (xs (i + 2)), .int (xs (i + 3))]) (rest := []) C G hl.1 at_31 wl_20 wl_21 wl_22 wl_3 par_31 ckX9.1 rfl (hI0 μ hI) h1 e1 e2 rfl (Nat.le_of_ble_eq_true rfl) hcells hslots (show decode code 361 = .ok (.invokevirtual 28, 3) by decide +kernel) (fun H1 locs1 G1 => ?_)
  refine lv_aload_n hx hb (show decode code 364 = .ok (.aload_n 2, 1) by decide +kernel) rfl (lv_at hl 2 rfl) ?_
  refine lw_push 365 1 C G1 hl (by omega) (show decode code 365 = .ok (.aload_n 0, 1) by decide +kernel) (show decode code 366 = .ok (.iload_n 3, 1) by decide +kernel) (show decode code 367 = .ok (.iconst 1, 1) by decide +kernel) rfl (show decode code 368 = .ok (.iadd, 1) by decide +kernel) (show decode code 369 = .ok (.iaload, 1) by decide +kernel) ?_
  refine lw_push 370 2 C G1 hl (by omega) (show decode code 370 = .ok (.aload_n 0, 1) by decide +kernel) (show decode code 371 = .ok (.iload_n 3, 1) by decide +kernel) (show decode code 372 = .ok (.iconst 2, 1) by decide +kernel) rfl (show decode code 373 = .ok (.iadd, 1) by decide +kernel) (show decode code 374 = .ok (.iaload, 1) by decide +kernel) ?_
  refine lw_push 375 3 C G1 hl (by omega) (show decode code 375 = .ok (.aload_n 0, 1) by decide +kernel) (show decode code 376 = .ok (.iload_n 3, 1) by decide +kernel) (show decode code 377 = .ok (.iconst 3, 1) by decide +kernel) rfl (show decode code 378 = .ok (.iadd, 1) by decide +kernel) (show decode code 379 = .ok (.iaload, 1) by decide +kernel) ?_
  refine lw_call (j := 161) (na := 3) (rid := 88) (ci := 10) (as := [.int (xs (i + 1)), .int (xs (i + 2)), .int (xs (i + 3))]) (rest := [.int r]) C G1 hl.1 at_161 wl_23 wl_24 wl_25 wl_7 par_161 ckX10.1 rfl hk h2 (e3.trans e1.symm) (e4.trans e2.symm) rfl (Nat.le_of_ble_eq_true rfl) hcells hslots (show decode code 380 = .ok (.invokevirtual 31, 3) by decide +kernel) (fun H2 locs2 G2 => ?_)
  refine lv_icmp_eq (tgt := 1672) hx hb (show decode code 383 = .ok (.if_icmp .eq 1289, 3) by decide +kernel) (by decide) (fun _ => ?_) (fun z => absurd rfl z)
  exact kk μ2 H2 locs2 h3 G2
/-- exclude -/
theorem lw_c4 {I : am_M → Prop} (hI0 : ∀ μ, I μ → am_is μ 0 11 = true) (hp : am_Pair I 34 4 163 4 3) (hI : I μ) (C : lw_Fx p s m c D cI cZ b L xs) (G : lw_G D cI cZ s μ H locs) (hl : lv_has ls 4 [(0, .ref b), (1, .ref (s.heap.size + 0)), (2, .ref (s.heap.size + 88)), (3, .int (nI i))]) (hik : i + 5 < L) (hcells : cells ≤ 600000) (hslots : slots ≤ 7302250)
    (kk : ∀ (μ2 : am_M) (H2 : Heap) (locs2 : List Loc), I μ2 → lw_G D cI cZ s μ2 H2 locs2 → W p l e room_1 s m #[Value.ref b] below meth c H2 locs2 cells slots Q (F0 m 1672 ls [])) : W p l e room_1 s m #[Value.ref b] below meth c H locs cells slots Q (F0 m 388 ls []) := by
  obtain ⟨r, μ1, μ2, h1, h2, h3, e1, e2, e3, e4, hk⟩ := hp μ [xs (i + 1), xs (i + 2), xs (i + 3)] rfl hI
  obtain ⟨hx, hb, -⟩ := id C
  refine lv_aload_n hx hb (show decode code 388 = .ok (.aload_n 1, 1) by decide +kernel) rfl (lv_at hl 1 rfl) ?_
  refine lw_push 389 1 C G hl (by omega) (show decode code 389 = .ok (.aload_n 0, 1) by decide +kernel) (show decode code 390 = .ok (.iload_n 3, 1) by decide +kernel) (show decode code 391 = .ok (.iconst 1, 1) by decide +kernel) rfl (show decode code 392 = .ok (.iadd, 1) by decide +kernel) (show decode code 393 = .ok (.iaload, 1) by decide +kernel) ?_
  refine lw_push 394 2 C G hl (by omega) (show decode code 394 = .ok (.aload_n 0, 1) by decide +kernel) (show decode code 395 = .ok (.iload_n 3, 1) by decide +kernel) (show decode code 396 = .ok (.iconst 2, 1) by decide +kernel) rfl (show decode code 397 = .ok (.iadd, 1) by decide +kernel) (show decode code 398 = .ok (.iaload, 1) by decide +kernel) ?_
  refine lw_push 399 3 C G hl (by omega) (show decode code 399 = .ok (.aload_n 0, 1) by decide +kernel) (show decode code 400 = .ok (.iload_n 3, 1) by decide +kernel) (show decode code 401 = .ok (.iconst 3, 1) by decide +kernel) rfl (show decode code 402 = .ok (.iadd, 1) by decide +kernel) (show decode code 403 = .ok (.iaload, 1) by decide +kernel) ?_
  refine lw_call (j := 34) (na := 3) (rid := 0) (ci := 9) (as := [.int (xs (i + 1)), .int (xs (i + 2)), .int (xs (i + 3))]) (rest := []) C G hl.1 at_34 wl_26 wl_27 wl_28 wl_3 par_34 ckX9.1 rfl (hI0 μ hI) h1 e1 e2 rfl (Nat.le_of_ble_eq_true rfl) hcells hslots (show decode code 404 = .ok (.invokevirtual 32, 3) by decide +kernel) (fun H1 locs1 G1 => ?_)
  refine lv_aload_n hx hb (show decode code 407 = .ok (.aload_n 2, 1) by decide +kernel) rfl (lv_at hl 2 rfl) ?_
  refine lw_push 408 1 C G1 hl (by omega) (show decode code 408 = .ok (.aload_n 0, 1) by decide +kernel) (show decode code 409 = .ok (.iload_n 3, 1) by decide +kernel) (show decode code 410 = .ok (.iconst 1, 1) by decide +kernel) rfl (show decode code 411 = .ok (.iadd, 1) by decide +kernel) (show decode code 412 = .ok (.iaload, 1) by decide +kernel) ?_
  refine lw_push 413 2 C G1 hl (by omega) (show decode code 413 = .ok (.aload_n 0, 1) by decide +kernel) (show decode code 414 = .ok (.iload_n 3, 1) by decide +kernel) (show decode code 415 = .ok (.iconst 2, 1) by decide +kernel) rfl (show decode code 416 = .ok (.iadd, 1) by decide +kernel) (show decode code 417 = .ok (.iaload, 1) by decide +kernel) ?_
  refine lw_push 418 3 C G1 hl (by omega) (show decode code 418 = .ok (.aload_n 0, 1) by decide +kernel) (show decode code 419 = .ok (.iload_n 3, 1) by decide +kernel) (show decode code 420 = .ok (.iconst 3, 1) by decide +kernel) rfl (show decode code 421 = .ok (.iadd, 1) by decide +kernel) (show decode code 422 = .ok (.iaload, 1) by decide +kernel) ?_
  refine lw_call (j := 163) (na := 3) (rid := 88) (ci := 10) (as := [.int (xs (i + 1)), .int (xs (i + 2)), .int (xs (i + 3))]) (rest := [.int r]) C G1 hl.1 at_163 wl_29 wl_30 wl_31 wl_7 par_163 ckX10.1 rfl hk h2 (e3.trans e1.symm) (e4.trans e2.symm) rfl (Nat.le_of_ble_eq_true rfl) hcells hslots (show decode code 423 = .ok (.invokevirtual 35, 3) by decide +kernel) (fun H2 locs2 G2 => ?_)
  refine lv_icmp_eq (tgt := 1672) hx hb (show decode code 426 = .ok (.if_icmp .eq 1246, 3) by decide +kernel) (by decide) (fun _ => ?_) (fun z => absurd rfl z)
  exact kk μ2 H2 locs2 h3 G2
/-- step -/
theorem lw_c5 {I : am_M → Prop} (hI0 : ∀ μ, I μ → am_is μ 0 11 = true) (hp : am_Pair I 36 2 164 2 1) (hI : I μ) (C : lw_Fx p s m c D cI cZ b L xs) (G : lw_G D cI cZ s μ H locs) (hl : lv_has ls 4 [(0, .ref b), (1, .ref (s.heap.size + 0)), (2, .ref (s.heap.size + 88)), (3, .int (nI i))]) (hik : i + 5 < L) (hcells : cells ≤ 600000) (hslots : slots ≤ 7302250)
    (kk : ∀ (μ2 : am_M) (H2 : Heap) (locs2 : List Loc), I μ2 → lw_G D cI cZ s μ2 H2 locs2 → W p l e room_1 s m #[Value.ref b] below meth c H2 locs2 cells slots Q (F0 m 1672 ls [])) : W p l e room_1 s m #[Value.ref b] below meth c H locs cells slots Q (F0 m 431 ls []) := by
  obtain ⟨r, μ1, μ2, h1, h2, h3, e1, e2, e3, e4, hk⟩ := hp μ [xs (i + 1)] rfl hI
  obtain ⟨hx, hb, -⟩ := id C
  refine lv_aload_n hx hb (show decode code 431 = .ok (.aload_n 1, 1) by decide +kernel) rfl (lv_at hl 1 rfl) ?_
  refine lw_push 432 1 C G hl (by omega) (show decode code 432 = .ok (.aload_n 0, 1) by decide +kernel) (show decode code 433 = .ok (.iload_n 3, 1) by decide +kernel) (show decode code 434 = .ok (.iconst 1, 1) by decide +kernel) rfl (show decode code 435 = .ok (.iadd, 1) by decide +kernel) (show decode code 436 = .ok (.iaload, 1) by decide +kernel) ?_
  refine lw_call (j := 36) (na := 1) (rid := 0) (ci := 9) (as := [.int (xs (i + 1))]) (rest := []) C G hl.1 at_36 wl_32 wl_33 wl_34 wl_3 par_36 ckX9.1 rfl (hI0 μ hI) h1 e1 e2 rfl (Nat.le_of_ble_eq_true rfl) hcells hslots (show decode code 437 = .ok (.invokevirtual 36, 3) by decide +kernel) (fun H1 locs1 G1 => ?_)
  refine lv_aload_n hx hb (show decode code 440 = .ok (.aload_n 2, 1) by decide +kernel) rfl (lv_at hl 2 rfl) ?_
  refine lw_push 441 1 C G1 hl (by omega) (show decode code 441 = .ok (.aload_n 0, 1) by decide +kernel) (show decode code 442 = .ok (.iload_n 3, 1) by decide +kernel) (show decode code 443 = .ok (.iconst 1, 1) by decide +kernel) rfl (show decode code 444 = .ok (.iadd, 1) by decide +kernel) (show decode code 445 = .ok (.iaload, 1) by decide +kernel) ?_
  refine lw_call (j := 164) (na := 1) (rid := 88) (ci := 10) (as := [.int (xs (i + 1))]) (rest := [.int r]) C G1 hl.1 at_164 wl_35 wl_36 wl_37 wl_7 par_164 ckX10.1 rfl hk h2 (e3.trans e1.symm) (e4.trans e2.symm) rfl (Nat.le_of_ble_eq_true rfl) hcells hslots (show decode code 446 = .ok (.invokevirtual 40, 3) by decide +kernel) (fun H2 locs2 G2 => ?_)
  refine lv_icmp_eq (tgt := 1672) hx hb (show decode code 449 = .ok (.if_icmp .eq 1223, 3) by decide +kernel) (by decide) (fun _ => ?_) (fun z => absurd rfl z)
  exact kk μ2 H2 locs2 h3 G2
/-- lend -/
theorem lw_c6 {I : am_M → Prop} (hI0 : ∀ μ, I μ → am_is μ 0 11 = true) (hp : am_Pair I 37 9 165 9 5) (hI : I μ) (C : lw_Fx p s m c D cI cZ b L xs) (G : lw_G D cI cZ s μ H locs) (hl : lv_has ls 4 [(0, .ref b), (1, .ref (s.heap.size + 0)), (2, .ref (s.heap.size + 88)), (3, .int (nI i))]) (hik : i + 5 < L) (hcells : cells ≤ 600000) (hslots : slots ≤ 7302250)
    (kk : ∀ (μ2 : am_M) (H2 : Heap) (locs2 : List Loc), I μ2 → lw_G D cI cZ s μ2 H2 locs2 → W p l e room_1 s m #[Value.ref b] below meth c H2 locs2 cells slots Q (F0 m 1672 ls [])) : W p l e room_1 s m #[Value.ref b] below meth c H locs cells slots Q (F0 m 454 ls []) := by
  obtain ⟨r, μ1, μ2, h1, h2, h3, e1, e2, e3, e4, hk⟩ := hp μ [xs (i + 1), xs (i + 2), xs (i + 3), xs (i + 4), xs (i + 5)] rfl hI
  obtain ⟨hx, hb, -⟩ := id C
  refine lv_aload_n hx hb (show decode code 454 = .ok (.aload_n 1, 1) by decide +kernel) rfl (lv_at hl 1 rfl) ?_
  refine lw_push 455 1 C G hl (by omega) (show decode code 455 = .ok (.aload_n 0, 1) by decide +kernel) (show decode code 456 = .ok (.iload_n 3, 1) by decide +kernel) (show decode code 457 = .ok (.iconst 1, 1) by decide +kernel) rfl (show decode code 458 = .ok (.iadd, 1) by decide +kernel) (show decode code 459 = .ok (.iaload, 1) by decide +kernel) ?_
  refine lw_push 460 2 C G hl (by omega) (show decode code 460 = .ok (.aload_n 0, 1) by decide +kernel) (show decode code 461 = .ok (.iload_n 3, 1) by decide +kernel) (show decode code 462 = .ok (.iconst 2, 1) by decide +kernel) rfl (show decode code 463 = .ok (.iadd, 1) by decide +kernel) (show decode code 464 = .ok (.iaload, 1) by decide +kernel) ?_
  refine lw_push 465 3 C G hl (by omega) (show decode code 465 = .ok (.aload_n 0, 1) by decide +kernel) (show decode code 466 = .ok (.iload_n 3, 1) by decide +kernel) (show decode code 467 = .ok (.iconst 3, 1) by decide +kernel) rfl (show decode code 468 = .ok (.iadd, 1) by decide +kernel) (show decode code 469 = .ok (.iaload, 1) by decide +kernel) ?_
  refine lw_push 470 4 C G hl (by omega) (show decode code 470 = .ok (.aload_n 0, 1) by decide +kernel) (show decode code 471 = .ok (.iload_n 3, 1) by decide +kernel) (show decode code 472 = .ok (.iconst 4, 1) by decide +kernel) rfl (show decode code 473 = .ok (.iadd, 1) by decide +kernel) (show decode code 474 = .ok (.iaload, 1) by decide +kernel) ?_
  refine lw_push 475 5 C G hl (by omega) (show decode code 475 = .ok (.aload_n 0, 1) by decide +kernel) (show decode code 476 = .ok (.iload_n 3, 1) by decide +kernel) (show decode code 477 = .ok (.iconst 5, 1) by decide +kernel) rfl (show decode code 478 = .ok (.iadd, 1) by decide +kernel) (show decode code 479 = .ok (.iaload, 1) by decide +kernel) ?_
  refine lw_call (j := 37) (na := 5) (rid := 0) (ci := 9) (as := [.int (xs (i + 1)), .int (xs (i + 2)), .int (xs (i + 3)), .int (xs (i + 4)), .int (xs (i + 5))]) (rest := []) C G hl.1 at_37 wl_38 wl_39 wl_40 wl_3 par_37 ckX9.1 rfl (hI0 μ hI) h1 e1 e2 rfl (Nat.le_of_ble_eq_true rfl) hcells hslots (show decode code 480 = .ok (.invokevirtual 41, 3) by decide +kernel) (fun H1 locs1 G1 => ?_)
  refine lv_aload_n hx hb (show decode code 483 = .ok (.aload_n 2, 1) by decide +kernel) rfl (lv_at hl 2 rfl) ?_
  refine lw_push 484 1 C G1 hl (by omega) (show decode code 484 = .ok (.aload_n 0, 1) by decide +kernel) (show decode code 485 = .ok (.iload_n 3, 1) by decide +kernel) (show decode code 486 = .ok (.iconst 1, 1) by decide +kernel) rfl (show decode code 487 = .ok (.iadd, 1) by decide +kernel) (show decode code 488 = .ok (.iaload, 1) by decide +kernel) ?_
  refine lw_push 489 2 C G1 hl (by omega) (show decode code 489 = .ok (.aload_n 0, 1) by decide +kernel) (show decode code 490 = .ok (.iload_n 3, 1) by decide +kernel) (show decode code 491 = .ok (.iconst 2, 1) by decide +kernel) rfl (show decode code 492 = .ok (.iadd, 1) by decide +kernel) (show decode code 493 = .ok (.iaload, 1) by decide +kernel) ?_
  refine lw_push 494 3 C G1 hl (by omega) (show decode code 494 = .ok (.aload_n 0, 1) by decide +kernel) (show decode code 495 = .ok (.iload_n 3, 1) by decide +kernel) (show decode code 496 = .ok (.iconst 3, 1) by decide +kernel) rfl (show decode code 497 = .ok (.iadd, 1) by decide +kernel) (show decode code 498 = .ok (.iaload, 1) by decide +kernel) ?_
  refine lw_push 499 4 C G1 hl (by omega) (show decode code 499 = .ok (.aload_n 0, 1) by decide +kernel) (show decode code 500 = .ok (.iload_n 3, 1) by decide +kernel) (show decode code 501 = .ok (.iconst 4, 1) by decide +kernel) rfl (show decode code 502 = .ok (.iadd, 1) by decide +kernel) (show decode code 503 = .ok (.iaload, 1) by decide +kernel) ?_
  refine lw_push 504 5 C G1 hl (by omega) (show decode code 504 = .ok (.aload_n 0, 1) by decide +kernel) (show decode code 505 = .ok (.iload_n 3, 1) by decide +kernel) (show decode code 506 = .ok (.iconst 5, 1) by decide +kernel) rfl (show decode code 507 = .ok (.iadd, 1) by decide +kernel) (show decode code 508 = .ok (.iaload, 1) by decide +kernel) ?_
  refine lw_call (j := 165) (na := 5) (rid := 88) (ci := 10) (as := [.int (xs (i + 1)), .int (xs (i + 2)), .int (xs (i + 3)), .int (xs (i + 4)), .int (xs (i + 5))]) (rest := [.int r]) C G1 hl.1 at_165 wl_41 wl_42 wl_43 wl_7 par_165 ckX10.1 rfl hk h2 (e3.trans e1.symm) (e4.trans e2.symm) rfl (Nat.le_of_ble_eq_true rfl) hcells hslots (show decode code 509 = .ok (.invokevirtual 45, 3) by decide +kernel) (fun H2 locs2 G2 => ?_)
  refine lv_icmp_eq (tgt := 1672) hx hb (show decode code 512 = .ok (.if_icmp .eq 1160, 3) by decide +kernel) (by decide) (fun _ => ?_) (fun z => absurd rfl z)
  exact kk μ2 H2 locs2 h3 G2
/-- takeBack -/
theorem lw_c7 {I : am_M → Prop} (hI0 : ∀ μ, I μ → am_is μ 0 11 = true) (hp : am_Pair I 40 3 167 3 1) (hI : I μ) (C : lw_Fx p s m c D cI cZ b L xs) (G : lw_G D cI cZ s μ H locs) (hl : lv_has ls 4 [(0, .ref b), (1, .ref (s.heap.size + 0)), (2, .ref (s.heap.size + 88)), (3, .int (nI i))]) (hik : i + 5 < L) (hcells : cells ≤ 600000) (hslots : slots ≤ 7302250)
    (kk : ∀ (μ2 : am_M) (H2 : Heap) (locs2 : List Loc), I μ2 → lw_G D cI cZ s μ2 H2 locs2 → W p l e room_1 s m #[Value.ref b] below meth c H2 locs2 cells slots Q (F0 m 1672 ls [])) : W p l e room_1 s m #[Value.ref b] below meth c H locs cells slots Q (F0 m 517 ls []) := by
  obtain ⟨r, μ1, μ2, h1, h2, h3, e1, e2, e3, e4, hk⟩ := hp μ [xs (i + 1)] rfl hI
  obtain ⟨hx, hb, -⟩ := id C
  refine lv_aload_n hx hb (show decode code 517 = .ok (.aload_n 1, 1) by decide +kernel) rfl (lv_at hl 1 rfl) ?_
  refine lw_push 518 1 C G hl (by omega) (show decode code 518 = .ok (.aload_n 0, 1) by decide +kernel) (show decode code 519 = .ok (.iload_n 3, 1) by decide +kernel) (show decode code 520 = .ok (.iconst 1, 1) by decide +kernel) rfl (show decode code 521 = .ok (.iadd, 1) by decide +kernel) (show decode code 522 = .ok (.iaload, 1) by decide +kernel) ?_
  refine lw_call (j := 40) (na := 1) (rid := 0) (ci := 9) (as := [.int (xs (i + 1))]) (rest := []) C G hl.1 at_40 wl_44 wl_45 wl_46 wl_3 par_40 ckX9.1 rfl (hI0 μ hI) h1 e1 e2 rfl (Nat.le_of_ble_eq_true rfl) hcells hslots (show decode code 523 = .ok (.invokevirtual 46, 3) by decide +kernel) (fun H1 locs1 G1 => ?_)
  refine lv_aload_n hx hb (show decode code 526 = .ok (.aload_n 2, 1) by decide +kernel) rfl (lv_at hl 2 rfl) ?_
  refine lw_push 527 1 C G1 hl (by omega) (show decode code 527 = .ok (.aload_n 0, 1) by decide +kernel) (show decode code 528 = .ok (.iload_n 3, 1) by decide +kernel) (show decode code 529 = .ok (.iconst 1, 1) by decide +kernel) rfl (show decode code 530 = .ok (.iadd, 1) by decide +kernel) (show decode code 531 = .ok (.iaload, 1) by decide +kernel) ?_
  refine lw_call (j := 167) (na := 1) (rid := 88) (ci := 10) (as := [.int (xs (i + 1))]) (rest := [.int r]) C G1 hl.1 at_167 wl_47 wl_48 wl_49 wl_7 par_167 ckX10.1 rfl hk h2 (e3.trans e1.symm) (e4.trans e2.symm) rfl (Nat.le_of_ble_eq_true rfl) hcells hslots (show decode code 532 = .ok (.invokevirtual 49, 3) by decide +kernel) (fun H2 locs2 G2 => ?_)
  refine lv_icmp_eq (tgt := 1672) hx hb (show decode code 535 = .ok (.if_icmp .eq 1137, 3) by decide +kernel) (by decide) (fun _ => ?_) (fun z => absurd rfl z)
  exact kk μ2 H2 locs2 h3 G2
/-- loan -/
theorem lw_c8 {I : am_M → Prop} (hI0 : ∀ μ, I μ → am_is μ 0 11 = true) (hp : am_Pair I 43 4 169 3 2) (hI : I μ) (C : lw_Fx p s m c D cI cZ b L xs) (G : lw_G D cI cZ s μ H locs) (hl : lv_has ls 4 [(0, .ref b), (1, .ref (s.heap.size + 0)), (2, .ref (s.heap.size + 88)), (3, .int (nI i))]) (hik : i + 5 < L) (hcells : cells ≤ 600000) (hslots : slots ≤ 7302250)
    (kk : ∀ (μ2 : am_M) (H2 : Heap) (locs2 : List Loc), I μ2 → lw_G D cI cZ s μ2 H2 locs2 → W p l e room_1 s m #[Value.ref b] below meth c H2 locs2 cells slots Q (F0 m 1672 ls [])) : W p l e room_1 s m #[Value.ref b] below meth c H locs cells slots Q (F0 m 540 ls []) := by
  obtain ⟨r, μ1, μ2, h1, h2, h3, e1, e2, e3, e4, hk⟩ := hp μ [xs (i + 1), xs (i + 2)] rfl hI
  obtain ⟨hx, hb, -⟩ := id C
  refine lv_aload_n hx hb (show decode code 540 = .ok (.aload_n 1, 1) by decide +kernel) rfl (lv_at hl 1 rfl) ?_
  refine lw_push 541 1 C G hl (by omega) (show decode code 541 = .ok (.aload_n 0, 1) by decide +kernel) (show decode code 542 = .ok (.iload_n 3, 1) by decide +kernel) (show decode code 543 = .ok (.iconst 1, 1) by decide +kernel) rfl (show decode code 544 = .ok (.iadd, 1) by decide +kernel) (show decode code 545 = .ok (.iaload, 1) by decide +kernel) ?_
  refine lw_push 546 2 C G hl (by omega) (show decode code 546 = .ok (.aload_n 0, 1) by decide +kernel) (show decode code 547 = .ok (.iload_n 3, 1) by decide +kernel) (show decode code 548 = .ok (.iconst 2, 1) by decide +kernel) rfl (show decode code 549 = .ok (.iadd, 1) by decide +kernel) (show decode code 550 = .ok (.iaload, 1) by decide +kernel) ?_
  refine lw_call (j := 43) (na := 2) (rid := 0) (ci := 9) (as := [.int (xs (i + 1)), .int (xs (i + 2))]) (rest := []) C G hl.1 at_43 wl_50 wl_51 wl_52 wl_3 par_43 ckX9.1 rfl (hI0 μ hI) h1 e1 e2 rfl (Nat.le_of_ble_eq_true rfl) hcells hslots (show decode code 551 = .ok (.invokevirtual 50, 3) by decide +kernel) (fun H1 locs1 G1 => ?_)
  refine lv_aload_n hx hb (show decode code 554 = .ok (.aload_n 2, 1) by decide +kernel) rfl (lv_at hl 2 rfl) ?_
  refine lw_push 555 1 C G1 hl (by omega) (show decode code 555 = .ok (.aload_n 0, 1) by decide +kernel) (show decode code 556 = .ok (.iload_n 3, 1) by decide +kernel) (show decode code 557 = .ok (.iconst 1, 1) by decide +kernel) rfl (show decode code 558 = .ok (.iadd, 1) by decide +kernel) (show decode code 559 = .ok (.iaload, 1) by decide +kernel) ?_
  refine lw_push 560 2 C G1 hl (by omega) (show decode code 560 = .ok (.aload_n 0, 1) by decide +kernel) (show decode code 561 = .ok (.iload_n 3, 1) by decide +kernel) (show decode code 562 = .ok (.iconst 2, 1) by decide +kernel) rfl (show decode code 563 = .ok (.iadd, 1) by decide +kernel) (show decode code 564 = .ok (.iaload, 1) by decide +kernel) ?_
  refine lw_call (j := 169) (na := 2) (rid := 88) (ci := 10) (as := [.int (xs (i + 1)), .int (xs (i + 2))]) (rest := [.int r]) C G1 hl.1 at_169 wl_53 wl_54 wl_55 wl_7 par_169 ckX10.1 rfl hk h2 (e3.trans e1.symm) (e4.trans e2.symm) rfl (Nat.le_of_ble_eq_true rfl) hcells hslots (show decode code 565 = .ok (.invokevirtual 53, 3) by decide +kernel) (fun H2 locs2 G2 => ?_)
  refine lv_icmp_eq (tgt := 1672) hx hb (show decode code 568 = .ok (.if_icmp .eq 1104, 3) by decide +kernel) (by decide) (fun _ => ?_) (fun z => absurd rfl z)
  exact kk μ2 H2 locs2 h3 G2
/-- holds -/
theorem lw_c9 {I : am_M → Prop} (hI0 : ∀ μ, I μ → am_is μ 0 11 = true) (hp : am_Pair I 44 3 170 3 2) (hI : I μ) (C : lw_Fx p s m c D cI cZ b L xs) (G : lw_G D cI cZ s μ H locs) (hl : lv_has ls 4 [(0, .ref b), (1, .ref (s.heap.size + 0)), (2, .ref (s.heap.size + 88)), (3, .int (nI i))]) (hik : i + 5 < L) (hcells : cells ≤ 600000) (hslots : slots ≤ 7302250)
    (kk : ∀ (μ2 : am_M) (H2 : Heap) (locs2 : List Loc), I μ2 → lw_G D cI cZ s μ2 H2 locs2 → W p l e room_1 s m #[Value.ref b] below meth c H2 locs2 cells slots Q (F0 m 1672 ls [])) : W p l e room_1 s m #[Value.ref b] below meth c H locs cells slots Q (F0 m 573 ls []) := by
  obtain ⟨r, μ1, μ2, h1, h2, h3, e1, e2, e3, e4, hk⟩ := hp μ [xs (i + 1), xs (i + 2)] rfl hI
  obtain ⟨hx, hb, -⟩ := id C
  refine lv_aload_n hx hb (show decode code 573 = .ok (.aload_n 1, 1) by decide +kernel) rfl (lv_at hl 1 rfl) ?_
  refine lw_push 574 1 C G hl (by omega) (show decode code 574 = .ok (.aload_n 0, 1) by decide +kernel) (show decode code 575 = .ok (.iload_n 3, 1) by decide +kernel) (show decode code 576 = .ok (.iconst 1, 1) by decide +kernel) rfl (show decode code 577 = .ok (.iadd, 1) by decide +kernel) (show decode code 578 = .ok (.iaload, 1) by decide +kernel) ?_
  refine lw_push 579 2 C G hl (by omega) (show decode code 579 = .ok (.aload_n 0, 1) by decide +kernel) (show decode code 580 = .ok (.iload_n 3, 1) by decide +kernel) (show decode code 581 = .ok (.iconst 2, 1) by decide +kernel) rfl (show decode code 582 = .ok (.iadd, 1) by decide +kernel) (show decode code 583 = .ok (.iaload, 1) by decide +kernel) ?_
  refine lw_call (j := 44) (na := 2) (rid := 0) (ci := 9) (as := [.int (xs (i + 1)), .int (xs (i + 2))]) (rest := []) C G hl.1 at_44 wl_56 wl_57 wl_58 wl_3 par_44 ckX9.1 rfl (hI0 μ hI) h1 e1 e2 rfl (Nat.le_of_ble_eq_true rfl) hcells hslots (show decode code 584 = .ok (.invokevirtual 54, 3) by decide +kernel) (fun H1 locs1 G1 => ?_)
  refine lv_aload_n hx hb (show decode code 587 = .ok (.aload_n 2, 1) by decide +kernel) rfl (lv_at hl 2 rfl) ?_
  refine lw_push 588 1 C G1 hl (by omega) (show decode code 588 = .ok (.aload_n 0, 1) by decide +kernel) (show decode code 589 = .ok (.iload_n 3, 1) by decide +kernel) (show decode code 590 = .ok (.iconst 1, 1) by decide +kernel) rfl (show decode code 591 = .ok (.iadd, 1) by decide +kernel) (show decode code 592 = .ok (.iaload, 1) by decide +kernel) ?_
  refine lw_push 593 2 C G1 hl (by omega) (show decode code 593 = .ok (.aload_n 0, 1) by decide +kernel) (show decode code 594 = .ok (.iload_n 3, 1) by decide +kernel) (show decode code 595 = .ok (.iconst 2, 1) by decide +kernel) rfl (show decode code 596 = .ok (.iadd, 1) by decide +kernel) (show decode code 597 = .ok (.iaload, 1) by decide +kernel) ?_
  refine lw_call (j := 170) (na := 2) (rid := 88) (ci := 10) (as := [.int (xs (i + 1)), .int (xs (i + 2))]) (rest := [.int r]) C G1 hl.1 at_170 wl_59 wl_60 wl_61 wl_7 par_170 ckX10.1 rfl hk h2 (e3.trans e1.symm) (e4.trans e2.symm) rfl (Nat.le_of_ble_eq_true rfl) hcells hslots (show decode code 598 = .ok (.invokevirtual 57, 3) by decide +kernel) (fun H2 locs2 G2 => ?_)
  refine lv_icmp_eq (tgt := 1672) hx hb (show decode code 601 = .ok (.if_icmp .eq 1071, 3) by decide +kernel) (by decide) (fun _ => ?_) (fun z => absurd rfl z)
  exact kk μ2 H2 locs2 h3 G2
/-- feed -/
theorem lw_c10 {I : am_M → Prop} (hI0 : ∀ μ, I μ → am_is μ 0 11 = true) (hp : am_Pair I 45 2 171 2 1) (hI : I μ) (C : lw_Fx p s m c D cI cZ b L xs) (G : lw_G D cI cZ s μ H locs) (hl : lv_has ls 4 [(0, .ref b), (1, .ref (s.heap.size + 0)), (2, .ref (s.heap.size + 88)), (3, .int (nI i))]) (hik : i + 5 < L) (hcells : cells ≤ 600000) (hslots : slots ≤ 7302250)
    (kk : ∀ (μ2 : am_M) (H2 : Heap) (locs2 : List Loc), I μ2 → lw_G D cI cZ s μ2 H2 locs2 → W p l e room_1 s m #[Value.ref b] below meth c H2 locs2 cells slots Q (F0 m 1672 ls [])) : W p l e room_1 s m #[Value.ref b] below meth c H locs cells slots Q (F0 m 606 ls []) := by
  obtain ⟨r, μ1, μ2, h1, h2, h3, e1, e2, e3, e4, hk⟩ := hp μ [xs (i + 1)] rfl hI
  obtain ⟨hx, hb, -⟩ := id C
  refine lv_aload_n hx hb (show decode code 606 = .ok (.aload_n 1, 1) by decide +kernel) rfl (lv_at hl 1 rfl) ?_
  refine lw_push 607 1 C G hl (by omega) (show decode code 607 = .ok (.aload_n 0, 1) by decide +kernel) (show decode code 608 = .ok (.iload_n 3, 1) by decide +kernel) (show decode code 609 = .ok (.iconst 1, 1) by decide +kernel) rfl (show decode code 610 = .ok (.iadd, 1) by decide +kernel) (show decode code 611 = .ok (.iaload, 1) by decide +kernel) ?_
  refine lw_call (j := 45) (na := 1) (rid := 0) (ci := 9) (as := [.int (xs (i + 1))]) (rest := []) C G hl.1 at_45 wl_62 wl_63 wl_64 wl_3 par_45 ckX9.1 rfl (hI0 μ hI) h1 e1 e2 rfl (Nat.le_of_ble_eq_true rfl) hcells hslots (show decode code 612 = .ok (.invokevirtual 58, 3) by decide +kernel) (fun H1 locs1 G1 => ?_)
  refine lv_aload_n hx hb (show decode code 615 = .ok (.aload_n 2, 1) by decide +kernel) rfl (lv_at hl 2 rfl) ?_
  refine lw_push 616 1 C G1 hl (by omega) (show decode code 616 = .ok (.aload_n 0, 1) by decide +kernel) (show decode code 617 = .ok (.iload_n 3, 1) by decide +kernel) (show decode code 618 = .ok (.iconst 1, 1) by decide +kernel) rfl (show decode code 619 = .ok (.iadd, 1) by decide +kernel) (show decode code 620 = .ok (.iaload, 1) by decide +kernel) ?_
  refine lw_call (j := 171) (na := 1) (rid := 88) (ci := 10) (as := [.int (xs (i + 1))]) (rest := [.int r]) C G1 hl.1 at_171 wl_65 wl_66 wl_67 wl_7 par_171 ckX10.1 rfl hk h2 (e3.trans e1.symm) (e4.trans e2.symm) rfl (Nat.le_of_ble_eq_true rfl) hcells hslots (show decode code 621 = .ok (.invokevirtual 61, 3) by decide +kernel) (fun H2 locs2 G2 => ?_)
  refine lv_icmp_eq (tgt := 1672) hx hb (show decode code 624 = .ok (.if_icmp .eq 1048, 3) by decide +kernel) (by decide) (fun _ => ?_) (fun z => absurd rfl z)
  exact kk μ2 H2 locs2 h3 G2
/-- rule -/
theorem lw_c11 {I : am_M → Prop} (hI0 : ∀ μ, I μ → am_is μ 0 11 = true) (hp : am_Pair I 46 12 172 9 5) (hI : I μ) (C : lw_Fx p s m c D cI cZ b L xs) (G : lw_G D cI cZ s μ H locs) (hl : lv_has ls 4 [(0, .ref b), (1, .ref (s.heap.size + 0)), (2, .ref (s.heap.size + 88)), (3, .int (nI i))]) (hik : i + 5 < L) (hcells : cells ≤ 600000) (hslots : slots ≤ 7302250)
    (kk : ∀ (μ2 : am_M) (H2 : Heap) (locs2 : List Loc), I μ2 → lw_G D cI cZ s μ2 H2 locs2 → W p l e room_1 s m #[Value.ref b] below meth c H2 locs2 cells slots Q (F0 m 1672 ls [])) : W p l e room_1 s m #[Value.ref b] below meth c H locs cells slots Q (F0 m 629 ls []) := by
  obtain ⟨r, μ1, μ2, h1, h2, h3, e1, e2, e3, e4, hk⟩ := hp μ [xs (i + 1), xs (i + 2), xs (i + 3), xs (i + 4), xs (i + 5)] rfl hI
  obtain ⟨hx, hb, -⟩ := id C
  refine lv_aload_n hx hb (show decode code 629 = .ok (.aload_n 1, 1) by decide +kernel) rfl (lv_at hl 1 rfl) ?_
  refine lw_push 630 1 C G hl (by omega) (show decode code 630 = .ok (.aload_n 0, 1) by decide +kernel) (show decode code 631 = .ok (.iload_n 3, 1) by decide +kernel) (show decode code 632 = .ok (.iconst 1, 1) by decide +kernel) rfl (show decode code 633 = .ok (.iadd, 1) by decide +kernel) (show decode code 634 = .ok (.iaload, 1) by decide +kernel) ?_
  refine lw_push 635 2 C G hl (by omega) (show decode code 635 = .ok (.aload_n 0, 1) by decide +kernel) (show decode code 636 = .ok (.iload_n 3, 1) by decide +kernel) (show decode code 637 = .ok (.iconst 2, 1) by decide +kernel) rfl (show decode code 638 = .ok (.iadd, 1) by decide +kernel) (show decode code 639 = .ok (.iaload, 1) by decide +kernel) ?_
  refine lw_push 640 3 C G hl (by omega) (show decode code 640 = .ok (.aload_n 0, 1) by decide +kernel) (show decode code 641 = .ok (.iload_n 3, 1) by decide +kernel) (show decode code 642 = .ok (.iconst 3, 1) by decide +kernel) rfl (show decode code 643 = .ok (.iadd, 1) by decide +kernel) (show decode code 644 = .ok (.iaload, 1) by decide +kernel) ?_
  refine lw_push 645 4 C G hl (by omega) (show decode code 645 = .ok (.aload_n 0, 1) by decide +kernel) (show decode code 646 = .ok (.iload_n 3, 1) by decide +kernel) (show decode code 647 = .ok (.iconst 4, 1) by decide +kernel) rfl (show decode code 648 = .ok (.iadd, 1) by decide +kernel) (show decode code 649 = .ok (.iaload, 1) by decide +kernel) ?_
  refine lw_push 650 5 C G hl (by omega) (show decode code 650 = .ok (.aload_n 0, 1) by decide +kernel) (show decode code 651 = .ok (.iload_n 3, 1) by decide +kernel) (show decode code 652 = .ok (.iconst 5, 1) by decide +kernel) rfl (show decode code 653 = .ok (.iadd, 1) by decide +kernel) (show decode code 654 = .ok (.iaload, 1) by decide +kernel) ?_
  refine lw_call (j := 46) (na := 5) (rid := 0) (ci := 9) (as := [.int (xs (i + 1)), .int (xs (i + 2)), .int (xs (i + 3)), .int (xs (i + 4)), .int (xs (i + 5))]) (rest := []) C G hl.1 at_46 wl_68 wl_69 wl_70 wl_3 par_46 ckX9.1 rfl (hI0 μ hI) h1 e1 e2 rfl (Nat.le_of_ble_eq_true rfl) hcells hslots (show decode code 655 = .ok (.invokevirtual 62, 3) by decide +kernel) (fun H1 locs1 G1 => ?_)
  refine lv_aload_n hx hb (show decode code 658 = .ok (.aload_n 2, 1) by decide +kernel) rfl (lv_at hl 2 rfl) ?_
  refine lw_push 659 1 C G1 hl (by omega) (show decode code 659 = .ok (.aload_n 0, 1) by decide +kernel) (show decode code 660 = .ok (.iload_n 3, 1) by decide +kernel) (show decode code 661 = .ok (.iconst 1, 1) by decide +kernel) rfl (show decode code 662 = .ok (.iadd, 1) by decide +kernel) (show decode code 663 = .ok (.iaload, 1) by decide +kernel) ?_
  refine lw_push 664 2 C G1 hl (by omega) (show decode code 664 = .ok (.aload_n 0, 1) by decide +kernel) (show decode code 665 = .ok (.iload_n 3, 1) by decide +kernel) (show decode code 666 = .ok (.iconst 2, 1) by decide +kernel) rfl (show decode code 667 = .ok (.iadd, 1) by decide +kernel) (show decode code 668 = .ok (.iaload, 1) by decide +kernel) ?_
  refine lw_push 669 3 C G1 hl (by omega) (show decode code 669 = .ok (.aload_n 0, 1) by decide +kernel) (show decode code 670 = .ok (.iload_n 3, 1) by decide +kernel) (show decode code 671 = .ok (.iconst 3, 1) by decide +kernel) rfl (show decode code 672 = .ok (.iadd, 1) by decide +kernel) (show decode code 673 = .ok (.iaload, 1) by decide +kernel) ?_
  refine lw_push 674 4 C G1 hl (by omega) (show decode code 674 = .ok (.aload_n 0, 1) by decide +kernel) (show decode code 675 = .ok (.iload_n 3, 1) by decide +kernel) (show decode code 676 = .ok (.iconst 4, 1) by decide +kernel) rfl (show decode code 677 = .ok (.iadd, 1) by decide +kernel) (show decode code 678 = .ok (.iaload, 1) by decide +kernel) ?_
  refine lw_push 679 5 C G1 hl (by omega) (show decode code 679 = .ok (.aload_n 0, 1) by decide +kernel) (show decode code 680 = .ok (.iload_n 3, 1) by decide +kernel) (show decode code 681 = .ok (.iconst 5, 1) by decide +kernel) rfl (show decode code 682 = .ok (.iadd, 1) by decide +kernel) (show decode code 683 = .ok (.iaload, 1) by decide +kernel) ?_
  refine lw_call (j := 172) (na := 5) (rid := 88) (ci := 10) (as := [.int (xs (i + 1)), .int (xs (i + 2)), .int (xs (i + 3)), .int (xs (i + 4)), .int (xs (i + 5))]) (rest := [.int r]) C G1 hl.1 at_172 wl_71 wl_72 wl_73 wl_7 par_172 ckX10.1 rfl hk h2 (e3.trans e1.symm) (e4.trans e2.symm) rfl (Nat.le_of_ble_eq_true rfl) hcells hslots (show decode code 684 = .ok (.invokevirtual 65, 3) by decide +kernel) (fun H2 locs2 G2 => ?_)
  refine lv_icmp_eq (tgt := 1672) hx hb (show decode code 687 = .ok (.if_icmp .eq 985, 3) by decide +kernel) (by decide) (fun _ => ?_) (fun z => absurd rfl z)
  exact kk μ2 H2 locs2 h3 G2
/-- off -/
theorem lw_c12 {I : am_M → Prop} (hI0 : ∀ μ, I μ → am_is μ 0 11 = true) (hp : am_Pair I 65 2 188 2 1) (hI : I μ) (C : lw_Fx p s m c D cI cZ b L xs) (G : lw_G D cI cZ s μ H locs) (hl : lv_has ls 4 [(0, .ref b), (1, .ref (s.heap.size + 0)), (2, .ref (s.heap.size + 88)), (3, .int (nI i))]) (hik : i + 5 < L) (hcells : cells ≤ 600000) (hslots : slots ≤ 7302250)
    (kk : ∀ (μ2 : am_M) (H2 : Heap) (locs2 : List Loc), I μ2 → lw_G D cI cZ s μ2 H2 locs2 → W p l e room_1 s m #[Value.ref b] below meth c H2 locs2 cells slots Q (F0 m 1672 ls [])) : W p l e room_1 s m #[Value.ref b] below meth c H locs cells slots Q (F0 m 692 ls []) := by
  obtain ⟨r, μ1, μ2, h1, h2, h3, e1, e2, e3, e4, hk⟩ := hp μ [xs (i + 1)] rfl hI
  obtain ⟨hx, hb, -⟩ := id C
  refine lv_aload_n hx hb (show decode code 692 = .ok (.aload_n 1, 1) by decide +kernel) rfl (lv_at hl 1 rfl) ?_
  refine lw_push 693 1 C G hl (by omega) (show decode code 693 = .ok (.aload_n 0, 1) by decide +kernel) (show decode code 694 = .ok (.iload_n 3, 1) by decide +kernel) (show decode code 695 = .ok (.iconst 1, 1) by decide +kernel) rfl (show decode code 696 = .ok (.iadd, 1) by decide +kernel) (show decode code 697 = .ok (.iaload, 1) by decide +kernel) ?_
  refine lw_call (j := 65) (na := 1) (rid := 0) (ci := 9) (as := [.int (xs (i + 1))]) (rest := []) C G hl.1 at_65 wl_74 wl_75 wl_76 wl_3 par_65 ckX9.1 rfl (hI0 μ hI) h1 e1 e2 rfl (Nat.le_of_ble_eq_true rfl) hcells hslots (show decode code 698 = .ok (.invokevirtual 66, 3) by decide +kernel) (fun H1 locs1 G1 => ?_)
  refine lv_aload_n hx hb (show decode code 701 = .ok (.aload_n 2, 1) by decide +kernel) rfl (lv_at hl 2 rfl) ?_
  refine lw_push 702 1 C G1 hl (by omega) (show decode code 702 = .ok (.aload_n 0, 1) by decide +kernel) (show decode code 703 = .ok (.iload_n 3, 1) by decide +kernel) (show decode code 704 = .ok (.iconst 1, 1) by decide +kernel) rfl (show decode code 705 = .ok (.iadd, 1) by decide +kernel) (show decode code 706 = .ok (.iaload, 1) by decide +kernel) ?_
  refine lw_call (j := 188) (na := 1) (rid := 88) (ci := 10) (as := [.int (xs (i + 1))]) (rest := [.int r]) C G1 hl.1 at_188 wl_77 wl_78 wl_79 wl_7 par_188 ckX10.1 rfl hk h2 (e3.trans e1.symm) (e4.trans e2.symm) rfl (Nat.le_of_ble_eq_true rfl) hcells hslots (show decode code 707 = .ok (.invokevirtual 69, 3) by decide +kernel) (fun H2 locs2 G2 => ?_)
  refine lv_icmp_eq (tgt := 1672) hx hb (show decode code 710 = .ok (.if_icmp .eq 962, 3) by decide +kernel) (by decide) (fun _ => ?_) (fun z => absurd rfl z)
  exact kk μ2 H2 locs2 h3 G2
/-- of -/
theorem lw_c13 {I : am_M → Prop} (hI0 : ∀ μ, I μ → am_is μ 0 11 = true) (hp : am_Pair I 67 4 192 3 2) (hI : I μ) (C : lw_Fx p s m c D cI cZ b L xs) (G : lw_G D cI cZ s μ H locs) (hl : lv_has ls 4 [(0, .ref b), (1, .ref (s.heap.size + 0)), (2, .ref (s.heap.size + 88)), (3, .int (nI i))]) (hik : i + 5 < L) (hcells : cells ≤ 600000) (hslots : slots ≤ 7302250)
    (kk : ∀ (μ2 : am_M) (H2 : Heap) (locs2 : List Loc), I μ2 → lw_G D cI cZ s μ2 H2 locs2 → W p l e room_1 s m #[Value.ref b] below meth c H2 locs2 cells slots Q (F0 m 1672 ls [])) : W p l e room_1 s m #[Value.ref b] below meth c H locs cells slots Q (F0 m 715 ls []) := by
  obtain ⟨r, μ1, μ2, h1, h2, h3, e1, e2, e3, e4, hk⟩ := hp μ [xs (i + 1), xs (i + 2)] rfl hI
  obtain ⟨hx, hb, -⟩ := id C
  refine lv_aload_n hx hb (show decode code 715 = .ok (.aload_n 1, 1) by decide +kernel) rfl (lv_at hl 1 rfl) ?_
  refine lw_push 716 1 C G hl (by omega) (show decode code 716 = .ok (.aload_n 0, 1) by decide +kernel) (show decode code 717 = .ok (.iload_n 3, 1) by decide +kernel) (show decode code 718 = .ok (.iconst 1, 1) by decide +kernel) rfl (show decode code 719 = .ok (.iadd, 1) by decide +kernel) (show decode code 720 = .ok (.iaload, 1) by decide +kernel) ?_
  refine lw_push 721 2 C G hl (by omega) (show decode code 721 = .ok (.aload_n 0, 1) by decide +kernel) (show decode code 722 = .ok (.iload_n 3, 1) by decide +kernel) (show decode code 723 = .ok (.iconst 2, 1) by decide +kernel) rfl (show decode code 724 = .ok (.iadd, 1) by decide +kernel) (show decode code 725 = .ok (.iaload, 1) by decide +kernel) ?_
  refine lw_call (j := 67) (na := 2) (rid := 0) (ci := 9) (as := [.int (xs (i + 1)), .int (xs (i + 2))]) (rest := []) C G hl.1 at_67 wl_80 wl_81 wl_82 wl_3 par_67 ckX9.1 rfl (hI0 μ hI) h1 e1 e2 rfl (Nat.le_of_ble_eq_true rfl) hcells hslots (show decode code 726 = .ok (.invokevirtual 70, 3) by decide +kernel) (fun H1 locs1 G1 => ?_)
  refine lv_aload_n hx hb (show decode code 729 = .ok (.aload_n 2, 1) by decide +kernel) rfl (lv_at hl 2 rfl) ?_
  refine lw_push 730 1 C G1 hl (by omega) (show decode code 730 = .ok (.aload_n 0, 1) by decide +kernel) (show decode code 731 = .ok (.iload_n 3, 1) by decide +kernel) (show decode code 732 = .ok (.iconst 1, 1) by decide +kernel) rfl (show decode code 733 = .ok (.iadd, 1) by decide +kernel) (show decode code 734 = .ok (.iaload, 1) by decide +kernel) ?_
  refine lw_push 735 2 C G1 hl (by omega) (show decode code 735 = .ok (.aload_n 0, 1) by decide +kernel) (show decode code 736 = .ok (.iload_n 3, 1) by decide +kernel) (show decode code 737 = .ok (.iconst 2, 1) by decide +kernel) rfl (show decode code 738 = .ok (.iadd, 1) by decide +kernel) (show decode code 739 = .ok (.iaload, 1) by decide +kernel) ?_
  refine lw_call (j := 192) (na := 2) (rid := 88) (ci := 10) (as := [.int (xs (i + 1)), .int (xs (i + 2))]) (rest := [.int r]) C G1 hl.1 at_192 wl_83 wl_84 wl_85 wl_7 par_192 ckX10.1 rfl hk h2 (e3.trans e1.symm) (e4.trans e2.symm) rfl (Nat.le_of_ble_eq_true rfl) hcells hslots (show decode code 740 = .ok (.invokevirtual 73, 3) by decide +kernel) (fun H2 locs2 G2 => ?_)
  refine lv_icmp_eq (tgt := 1672) hx hb (show decode code 743 = .ok (.if_icmp .eq 929, 3) by decide +kernel) (by decide) (fun _ => ?_) (fun z => absurd rfl z)
  exact kk μ2 H2 locs2 h3 G2
/-- uses -/
theorem lw_c14 {I : am_M → Prop} (hI0 : ∀ μ, I μ → am_is μ 0 11 = true) (hp : am_Pair I 68 3 193 3 2) (hI : I μ) (C : lw_Fx p s m c D cI cZ b L xs) (G : lw_G D cI cZ s μ H locs) (hl : lv_has ls 4 [(0, .ref b), (1, .ref (s.heap.size + 0)), (2, .ref (s.heap.size + 88)), (3, .int (nI i))]) (hik : i + 5 < L) (hcells : cells ≤ 600000) (hslots : slots ≤ 7302250)
    (kk : ∀ (μ2 : am_M) (H2 : Heap) (locs2 : List Loc), I μ2 → lw_G D cI cZ s μ2 H2 locs2 → W p l e room_1 s m #[Value.ref b] below meth c H2 locs2 cells slots Q (F0 m 1672 ls [])) : W p l e room_1 s m #[Value.ref b] below meth c H locs cells slots Q (F0 m 748 ls []) := by
  obtain ⟨r, μ1, μ2, h1, h2, h3, e1, e2, e3, e4, hk⟩ := hp μ [xs (i + 1), xs (i + 2)] rfl hI
  obtain ⟨hx, hb, -⟩ := id C
  refine lv_aload_n hx hb (show decode code 748 = .ok (.aload_n 1, 1) by decide +kernel) rfl (lv_at hl 1 rfl) ?_
  refine lw_push 749 1 C G hl (by omega) (show decode code 749 = .ok (.aload_n 0, 1) by decide +kernel) (show decode code 750 = .ok (.iload_n 3, 1) by decide +kernel) (show decode code 751 = .ok (.iconst 1, 1) by decide +kernel) rfl (show decode code 752 = .ok (.iadd, 1) by decide +kernel) (show decode code 753 = .ok (.iaload, 1) by decide +kernel) ?_
  refine lw_push 754 2 C G hl (by omega) (show decode code 754 = .ok (.aload_n 0, 1) by decide +kernel) (show decode code 755 = .ok (.iload_n 3, 1) by decide +kernel) (show decode code 756 = .ok (.iconst 2, 1) by decide +kernel) rfl (show decode code 757 = .ok (.iadd, 1) by decide +kernel) (show decode code 758 = .ok (.iaload, 1) by decide +kernel) ?_
  refine lw_call (j := 68) (na := 2) (rid := 0) (ci := 9) (as := [.int (xs (i + 1)), .int (xs (i + 2))]) (rest := []) C G hl.1 at_68 wl_86 wl_87 wl_88 wl_3 par_68 ckX9.1 rfl (hI0 μ hI) h1 e1 e2 rfl (Nat.le_of_ble_eq_true rfl) hcells hslots (show decode code 759 = .ok (.invokevirtual 74, 3) by decide +kernel) (fun H1 locs1 G1 => ?_)
  refine lv_aload_n hx hb (show decode code 762 = .ok (.aload_n 2, 1) by decide +kernel) rfl (lv_at hl 2 rfl) ?_
  refine lw_push 763 1 C G1 hl (by omega) (show decode code 763 = .ok (.aload_n 0, 1) by decide +kernel) (show decode code 764 = .ok (.iload_n 3, 1) by decide +kernel) (show decode code 765 = .ok (.iconst 1, 1) by decide +kernel) rfl (show decode code 766 = .ok (.iadd, 1) by decide +kernel) (show decode code 767 = .ok (.iaload, 1) by decide +kernel) ?_
  refine lw_push 768 2 C G1 hl (by omega) (show decode code 768 = .ok (.aload_n 0, 1) by decide +kernel) (show decode code 769 = .ok (.iload_n 3, 1) by decide +kernel) (show decode code 770 = .ok (.iconst 2, 1) by decide +kernel) rfl (show decode code 771 = .ok (.iadd, 1) by decide +kernel) (show decode code 772 = .ok (.iaload, 1) by decide +kernel) ?_
  refine lw_call (j := 193) (na := 2) (rid := 88) (ci := 10) (as := [.int (xs (i + 1)), .int (xs (i + 2))]) (rest := [.int r]) C G1 hl.1 at_193 wl_89 wl_90 wl_91 wl_7 par_193 ckX10.1 rfl hk h2 (e3.trans e1.symm) (e4.trans e2.symm) rfl (Nat.le_of_ble_eq_true rfl) hcells hslots (show decode code 773 = .ok (.invokevirtual 77, 3) by decide +kernel) (fun H2 locs2 G2 => ?_)
  refine lv_icmp_eq (tgt := 1672) hx hb (show decode code 776 = .ok (.if_icmp .eq 896, 3) by decide +kernel) (by decide) (fun _ => ?_) (fun z => absurd rfl z)
  exact kk μ2 H2 locs2 h3 G2
/-- left -/
theorem lw_c15 {I : am_M → Prop} (hI0 : ∀ μ, I μ → am_is μ 0 11 = true) (hp : am_Pair I 69 3 194 2 1) (hI : I μ) (C : lw_Fx p s m c D cI cZ b L xs) (G : lw_G D cI cZ s μ H locs) (hl : lv_has ls 4 [(0, .ref b), (1, .ref (s.heap.size + 0)), (2, .ref (s.heap.size + 88)), (3, .int (nI i))]) (hik : i + 5 < L) (hcells : cells ≤ 600000) (hslots : slots ≤ 7302250)
    (kk : ∀ (μ2 : am_M) (H2 : Heap) (locs2 : List Loc), I μ2 → lw_G D cI cZ s μ2 H2 locs2 → W p l e room_1 s m #[Value.ref b] below meth c H2 locs2 cells slots Q (F0 m 1672 ls [])) : W p l e room_1 s m #[Value.ref b] below meth c H locs cells slots Q (F0 m 781 ls []) := by
  obtain ⟨r, μ1, μ2, h1, h2, h3, e1, e2, e3, e4, hk⟩ := hp μ [xs (i + 1)] rfl hI
  obtain ⟨hx, hb, -⟩ := id C
  refine lv_aload_n hx hb (show decode code 781 = .ok (.aload_n 1, 1) by decide +kernel) rfl (lv_at hl 1 rfl) ?_
  refine lw_push 782 1 C G hl (by omega) (show decode code 782 = .ok (.aload_n 0, 1) by decide +kernel) (show decode code 783 = .ok (.iload_n 3, 1) by decide +kernel) (show decode code 784 = .ok (.iconst 1, 1) by decide +kernel) rfl (show decode code 785 = .ok (.iadd, 1) by decide +kernel) (show decode code 786 = .ok (.iaload, 1) by decide +kernel) ?_
  refine lw_call (j := 69) (na := 1) (rid := 0) (ci := 9) (as := [.int (xs (i + 1))]) (rest := []) C G hl.1 at_69 wl_92 wl_93 wl_94 wl_3 par_69 ckX9.1 rfl (hI0 μ hI) h1 e1 e2 rfl (Nat.le_of_ble_eq_true rfl) hcells hslots (show decode code 787 = .ok (.invokevirtual 78, 3) by decide +kernel) (fun H1 locs1 G1 => ?_)
  refine lv_aload_n hx hb (show decode code 790 = .ok (.aload_n 2, 1) by decide +kernel) rfl (lv_at hl 2 rfl) ?_
  refine lw_push 791 1 C G1 hl (by omega) (show decode code 791 = .ok (.aload_n 0, 1) by decide +kernel) (show decode code 792 = .ok (.iload_n 3, 1) by decide +kernel) (show decode code 793 = .ok (.iconst 1, 1) by decide +kernel) rfl (show decode code 794 = .ok (.iadd, 1) by decide +kernel) (show decode code 795 = .ok (.iaload, 1) by decide +kernel) ?_
  refine lw_call (j := 194) (na := 1) (rid := 88) (ci := 10) (as := [.int (xs (i + 1))]) (rest := [.int r]) C G1 hl.1 at_194 wl_95 wl_96 wl_97 wl_7 par_194 ckX10.1 rfl hk h2 (e3.trans e1.symm) (e4.trans e2.symm) rfl (Nat.le_of_ble_eq_true rfl) hcells hslots (show decode code 796 = .ok (.invokevirtual 81, 3) by decide +kernel) (fun H2 locs2 G2 => ?_)
  refine lv_icmp_eq (tgt := 1672) hx hb (show decode code 799 = .ok (.if_icmp .eq 873, 3) by decide +kernel) (by decide) (fun _ => ?_) (fun z => absurd rfl z)
  exact kk μ2 H2 locs2 h3 G2
/-- seniors -/
theorem lw_c16 {I : am_M → Prop} (hI0 : ∀ μ, I μ → am_is μ 0 11 = true) (hp : am_Pair I 70 4 195 4 0) (hI : I μ) (C : lw_Fx p s m c D cI cZ b L xs) (G : lw_G D cI cZ s μ H locs) (hl : lv_has ls 4 [(0, .ref b), (1, .ref (s.heap.size + 0)), (2, .ref (s.heap.size + 88)), (3, .int (nI i))]) (hik : i + 5 < L) (hcells : cells ≤ 600000) (hslots : slots ≤ 7302250)
    (kk : ∀ (μ2 : am_M) (H2 : Heap) (locs2 : List Loc), I μ2 → lw_G D cI cZ s μ2 H2 locs2 → W p l e room_1 s m #[Value.ref b] below meth c H2 locs2 cells slots Q (F0 m 1672 ls [])) : W p l e room_1 s m #[Value.ref b] below meth c H locs cells slots Q (F0 m 804 ls []) := by
  obtain ⟨r, μ1, μ2, h1, h2, h3, e1, e2, e3, e4, hk⟩ := hp μ [] rfl hI
  obtain ⟨hx, hb, -⟩ := id C
  refine lv_aload_n hx hb (show decode code 804 = .ok (.aload_n 1, 1) by decide +kernel) rfl (lv_at hl 1 rfl) ?_
  refine lw_call (j := 70) (na := 0) (rid := 0) (ci := 9) (as := []) (rest := []) C G hl.1 at_70 wl_98 wl_99 wl_100 wl_3 par_70 ckX9.1 rfl (hI0 μ hI) h1 e1 e2 rfl (Nat.le_of_ble_eq_true rfl) hcells hslots (show decode code 805 = .ok (.invokevirtual 82, 3) by decide +kernel) (fun H1 locs1 G1 => ?_)
  refine lv_aload_n hx hb (show decode code 808 = .ok (.aload_n 2, 1) by decide +kernel) rfl (lv_at hl 2 rfl) ?_
  refine lw_call (j := 195) (na := 0) (rid := 88) (ci := 10) (as := []) (rest := [.int r]) C G1 hl.1 at_195 wl_101 wl_102 wl_103 wl_7 par_195 ckX10.1 rfl hk h2 (e3.trans e1.symm) (e4.trans e2.symm) rfl (Nat.le_of_ble_eq_true rfl) hcells hslots (show decode code 809 = .ok (.invokevirtual 86, 3) by decide +kernel) (fun H2 locs2 G2 => ?_)
  refine lv_icmp_eq (tgt := 1672) hx hb (show decode code 812 = .ok (.if_icmp .eq 860, 3) by decide +kernel) (by decide) (fun _ => ?_) (fun z => absurd rfl z)
  exact kk μ2 H2 locs2 h3 G2
/-- may -/
theorem lw_c17 {I : am_M → Prop} (hI0 : ∀ μ, I μ → am_is μ 0 11 = true) (hp : am_Pair I 74 6 196 5 3) (hI : I μ) (C : lw_Fx p s m c D cI cZ b L xs) (G : lw_G D cI cZ s μ H locs) (hl : lv_has ls 4 [(0, .ref b), (1, .ref (s.heap.size + 0)), (2, .ref (s.heap.size + 88)), (3, .int (nI i))]) (hik : i + 5 < L) (hcells : cells ≤ 600000) (hslots : slots ≤ 7302250)
    (kk : ∀ (μ2 : am_M) (H2 : Heap) (locs2 : List Loc), I μ2 → lw_G D cI cZ s μ2 H2 locs2 → W p l e room_1 s m #[Value.ref b] below meth c H2 locs2 cells slots Q (F0 m 1672 ls [])) : W p l e room_1 s m #[Value.ref b] below meth c H locs cells slots Q (F0 m 817 ls []) := by
  obtain ⟨r, μ1, μ2, h1, h2, h3, e1, e2, e3, e4, hk⟩ := hp μ [xs (i + 1), xs (i + 2), xs (i + 3)] rfl hI
  obtain ⟨hx, hb, -⟩ := id C
  refine lv_aload_n hx hb (show decode code 817 = .ok (.aload_n 1, 1) by decide +kernel) rfl (lv_at hl 1 rfl) ?_
  refine lw_push 818 1 C G hl (by omega) (show decode code 818 = .ok (.aload_n 0, 1) by decide +kernel) (show decode code 819 = .ok (.iload_n 3, 1) by decide +kernel) (show decode code 820 = .ok (.iconst 1, 1) by decide +kernel) rfl (show decode code 821 = .ok (.iadd, 1) by decide +kernel) (show decode code 822 = .ok (.iaload, 1) by decide +kernel) ?_
  refine lw_push 823 2 C G hl (by omega) (show decode code 823 = .ok (.aload_n 0, 1) by decide +kernel) (show decode code 824 = .ok (.iload_n 3, 1) by decide +kernel) (show decode code 825 = .ok (.iconst 2, 1) by decide +kernel) rfl (show decode code 826 = .ok (.iadd, 1) by decide +kernel) (show decode code 827 = .ok (.iaload, 1) by decide +kernel) ?_
  refine lw_push 828 3 C G hl (by omega) (show decode code 828 = .ok (.aload_n 0, 1) by decide +kernel) (show decode code 829 = .ok (.iload_n 3, 1) by decide +kernel) (show decode code 830 = .ok (.iconst 3, 1) by decide +kernel) rfl (show decode code 831 = .ok (.iadd, 1) by decide +kernel) (show decode code 832 = .ok (.iaload, 1) by decide +kernel) ?_
  refine lw_call (j := 74) (na := 3) (rid := 0) (ci := 9) (as := [.int (xs (i + 1)), .int (xs (i + 2)), .int (xs (i + 3))]) (rest := []) C G hl.1 at_74 wl_104 wl_105 wl_106 wl_3 par_74 ckX9.1 rfl (hI0 μ hI) h1 e1 e2 rfl (Nat.le_of_ble_eq_true rfl) hcells hslots (show decode code 833 = .ok (.invokevirtual 87, 3) by decide +kernel) (fun H1 locs1 G1 => ?_)
  refine lv_aload_n hx hb (show decode code 836 = .ok (.aload_n 2, 1) by decide +kernel) rfl (lv_at hl 2 rfl) ?_
  refine lw_push 837 1 C G1 hl (by omega) (show decode code 837 = .ok (.aload_n 0, 1) by decide +kernel) (show decode code 838 = .ok (.iload_n 3, 1) by decide +kernel) (show decode code 839 = .ok (.iconst 1, 1) by decide +kernel) rfl (show decode code 840 = .ok (.iadd, 1) by decide +kernel) (show decode code 841 = .ok (.iaload, 1) by decide +kernel) ?_
  refine lw_push 842 2 C G1 hl (by omega) (show decode code 842 = .ok (.aload_n 0, 1) by decide +kernel) (show decode code 843 = .ok (.iload_n 3, 1) by decide +kernel) (show decode code 844 = .ok (.iconst 2, 1) by decide +kernel) rfl (show decode code 845 = .ok (.iadd, 1) by decide +kernel) (show decode code 846 = .ok (.iaload, 1) by decide +kernel) ?_
  refine lw_push 847 3 C G1 hl (by omega) (show decode code 847 = .ok (.aload_n 0, 1) by decide +kernel) (show decode code 848 = .ok (.iload_n 3, 1) by decide +kernel) (show decode code 849 = .ok (.iconst 3, 1) by decide +kernel) rfl (show decode code 850 = .ok (.iadd, 1) by decide +kernel) (show decode code 851 = .ok (.iaload, 1) by decide +kernel) ?_
  refine lw_call (j := 196) (na := 3) (rid := 88) (ci := 10) (as := [.int (xs (i + 1)), .int (xs (i + 2)), .int (xs (i + 3))]) (rest := [.int r]) C G1 hl.1 at_196 wl_107 wl_108 wl_109 wl_7 par_196 ckX10.1 rfl hk h2 (e3.trans e1.symm) (e4.trans e2.symm) rfl (Nat.le_of_ble_eq_true rfl) hcells hslots (show decode code 852 = .ok (.invokevirtual 90, 3) by decide +kernel) (fun H2 locs2 G2 => ?_)
  refine lv_icmp_eq (tgt := 1672) hx hb (show decode code 855 = .ok (.if_icmp .eq 817, 3) by decide +kernel) (by decide) (fun _ => ?_) (fun z => absurd rfl z)
  exact kk μ2 H2 locs2 h3 G2
/-- why -/
theorem lw_c18 {I : am_M → Prop} (hI0 : ∀ μ, I μ → am_is μ 0 11 = true) (hp : am_Pair I 96 3 209 3 2) (hI : I μ) (C : lw_Fx p s m c D cI cZ b L xs) (G : lw_G D cI cZ s μ H locs) (hl : lv_has ls 4 [(0, .ref b), (1, .ref (s.heap.size + 0)), (2, .ref (s.heap.size + 88)), (3, .int (nI i))]) (hik : i + 5 < L) (hcells : cells ≤ 600000) (hslots : slots ≤ 7302250)
    (kk : ∀ (μ2 : am_M) (H2 : Heap) (locs2 : List Loc), I μ2 → lw_G D cI cZ s μ2 H2 locs2 → W p l e room_1 s m #[Value.ref b] below meth c H2 locs2 cells slots Q (F0 m 1672 ls [])) : W p l e room_1 s m #[Value.ref b] below meth c H locs cells slots Q (F0 m 860 ls []) := by
  obtain ⟨r, μ1, μ2, h1, h2, h3, e1, e2, e3, e4, hk⟩ := hp μ [xs (i + 1), xs (i + 2)] rfl hI
  obtain ⟨hx, hb, -⟩ := id C
  refine lv_aload_n hx hb (show decode code 860 = .ok (.aload_n 1, 1) by decide +kernel) rfl (lv_at hl 1 rfl) ?_
  refine lw_push 861 1 C G hl (by omega) (show decode code 861 = .ok (.aload_n 0, 1) by decide +kernel) (show decode code 862 = .ok (.iload_n 3, 1) by decide +kernel) (show decode code 863 = .ok (.iconst 1, 1) by decide +kernel) rfl (show decode code 864 = .ok (.iadd, 1) by decide +kernel) (show decode code 865 = .ok (.iaload, 1) by decide +kernel) ?_
  refine lw_push 866 2 C G hl (by omega) (show decode code 866 = .ok (.aload_n 0, 1) by decide +kernel) (show decode code 867 = .ok (.iload_n 3, 1) by decide +kernel) (show decode code 868 = .ok (.iconst 2, 1) by decide +kernel) rfl (show decode code 869 = .ok (.iadd, 1) by decide +kernel) (show decode code 870 = .ok (.iaload, 1) by decide +kernel) ?_
  refine lw_call (j := 96) (na := 2) (rid := 0) (ci := 9) (as := [.int (xs (i + 1)), .int (xs (i + 2))]) (rest := []) C G hl.1 at_96 wl_110 wl_111 wl_112 wl_3 par_96 ckX9.1 rfl (hI0 μ hI) h1 e1 e2 rfl (Nat.le_of_ble_eq_true rfl) hcells hslots (show decode code 871 = .ok (.invokevirtual 91, 3) by decide +kernel) (fun H1 locs1 G1 => ?_)
  refine lv_aload_n hx hb (show decode code 874 = .ok (.aload_n 2, 1) by decide +kernel) rfl (lv_at hl 2 rfl) ?_
  refine lw_push 875 1 C G1 hl (by omega) (show decode code 875 = .ok (.aload_n 0, 1) by decide +kernel) (show decode code 876 = .ok (.iload_n 3, 1) by decide +kernel) (show decode code 877 = .ok (.iconst 1, 1) by decide +kernel) rfl (show decode code 878 = .ok (.iadd, 1) by decide +kernel) (show decode code 879 = .ok (.iaload, 1) by decide +kernel) ?_
  refine lw_push 880 2 C G1 hl (by omega) (show decode code 880 = .ok (.aload_n 0, 1) by decide +kernel) (show decode code 881 = .ok (.iload_n 3, 1) by decide +kernel) (show decode code 882 = .ok (.iconst 2, 1) by decide +kernel) rfl (show decode code 883 = .ok (.iadd, 1) by decide +kernel) (show decode code 884 = .ok (.iaload, 1) by decide +kernel) ?_
  refine lw_call (j := 209) (na := 2) (rid := 88) (ci := 10) (as := [.int (xs (i + 1)), .int (xs (i + 2))]) (rest := [.int r]) C G1 hl.1 at_209 wl_113 wl_114 wl_115 wl_7 par_209 ckX10.1 rfl hk h2 (e3.trans e1.symm) (e4.trans e2.symm) rfl (Nat.le_of_ble_eq_true rfl) hcells hslots (show decode code 885 = .ok (.invokevirtual 94, 3) by decide +kernel) (fun H2 locs2 G2 => ?_)
  refine lv_icmp_eq (tgt := 1672) hx hb (show decode code 888 = .ok (.if_icmp .eq 784, 3) by decide +kernel) (by decide) (fun _ => ?_) (fun z => absurd rfl z)
  exact kk μ2 H2 locs2 h3 G2
/-- who -/
theorem lw_c19 {I : am_M → Prop} (hI0 : ∀ μ, I μ → am_is μ 0 11 = true) (hp : am_Pair I 97 4 210 4 3) (hI : I μ) (C : lw_Fx p s m c D cI cZ b L xs) (G : lw_G D cI cZ s μ H locs) (hl : lv_has ls 4 [(0, .ref b), (1, .ref (s.heap.size + 0)), (2, .ref (s.heap.size + 88)), (3, .int (nI i))]) (hik : i + 5 < L) (hcells : cells ≤ 600000) (hslots : slots ≤ 7302250)
    (kk : ∀ (μ2 : am_M) (H2 : Heap) (locs2 : List Loc), I μ2 → lw_G D cI cZ s μ2 H2 locs2 → W p l e room_1 s m #[Value.ref b] below meth c H2 locs2 cells slots Q (F0 m 1672 ls [])) : W p l e room_1 s m #[Value.ref b] below meth c H locs cells slots Q (F0 m 893 ls []) := by
  obtain ⟨r, μ1, μ2, h1, h2, h3, e1, e2, e3, e4, hk⟩ := hp μ [xs (i + 1), xs (i + 2), xs (i + 3)] rfl hI
  obtain ⟨hx, hb, -⟩ := id C
  refine lv_aload_n hx hb (show decode code 893 = .ok (.aload_n 1, 1) by decide +kernel) rfl (lv_at hl 1 rfl) ?_
  refine lw_push 894 1 C G hl (by omega) (show decode code 894 = .ok (.aload_n 0, 1) by decide +kernel) (show decode code 895 = .ok (.iload_n 3, 1) by decide +kernel) (show decode code 896 = .ok (.iconst 1, 1) by decide +kernel) rfl (show decode code 897 = .ok (.iadd, 1) by decide +kernel) (show decode code 898 = .ok (.iaload, 1) by decide +kernel) ?_
  refine lw_push 899 2 C G hl (by omega) (show decode code 899 = .ok (.aload_n 0, 1) by decide +kernel) (show decode code 900 = .ok (.iload_n 3, 1) by decide +kernel) (show decode code 901 = .ok (.iconst 2, 1) by decide +kernel) rfl (show decode code 902 = .ok (.iadd, 1) by decide +kernel) (show decode code 903 = .ok (.iaload, 1) by decide +kernel) ?_
  refine lw_push 904 3 C G hl (by omega) (show decode code 904 = .ok (.aload_n 0, 1) by decide +kernel) (show decode code 905 = .ok (.iload_n 3, 1) by decide +kernel) (show decode code 906 = .ok (.iconst 3, 1) by decide +kernel) rfl (show decode code 907 = .ok (.iadd, 1) by decide +kernel) (show decode code 908 = .ok (.iaload, 1) by decide +kernel) ?_
  refine lw_call (j := 97) (na := 3) (rid := 0) (ci := 9) (as := [.int (xs (i + 1)), .int (xs (i + 2)), .int (xs (i + 3))]) (rest := []) C G hl.1 at_97 wl_116 wl_117 wl_118 wl_3 par_97 ckX9.1 rfl (hI0 μ hI) h1 e1 e2 rfl (Nat.le_of_ble_eq_true rfl) hcells hslots (show decode code 909 = .ok (.invokevirtual 95, 3) by decide +kernel) (fun H1 locs1 G1 => ?_)
  refine lv_aload_n hx hb (show decode code 912 = .ok (.aload_n 2, 1) by decide +kernel) rfl (lv_at hl 2 rfl) ?_
  refine lw_push 913 1 C G1 hl (by omega) (show decode code 913 = .ok (.aload_n 0, 1) by decide +kernel) (show decode code 914 = .ok (.iload_n 3, 1) by decide +kernel) (show decode code 915 = .ok (.iconst 1, 1) by decide +kernel) rfl (show decode code 916 = .ok (.iadd, 1) by decide +kernel) (show decode code 917 = .ok (.iaload, 1) by decide +kernel) ?_
  refine lw_push 918 2 C G1 hl (by omega) (show decode code 918 = .ok (.aload_n 0, 1) by decide +kernel) (show decode code 919 = .ok (.iload_n 3, 1) by decide +kernel) (show decode code 920 = .ok (.iconst 2, 1) by decide +kernel) rfl (show decode code 921 = .ok (.iadd, 1) by decide +kernel) (show decode code 922 = .ok (.iaload, 1) by decide +kernel) ?_
  refine lw_push 923 3 C G1 hl (by omega) (show decode code 923 = .ok (.aload_n 0, 1) by decide +kernel) (show decode code 924 = .ok (.iload_n 3, 1) by decide +kernel) (show decode code 925 = .ok (.iconst 3, 1) by decide +kernel) rfl (show decode code 926 = .ok (.iadd, 1) by decide +kernel) (show decode code 927 = .ok (.iaload, 1) by decide +kernel) ?_
  refine lw_call (j := 210) (na := 3) (rid := 88) (ci := 10) (as := [.int (xs (i + 1)), .int (xs (i + 2)), .int (xs (i + 3))]) (rest := [.int r]) C G1 hl.1 at_210 wl_119 wl_120 wl_121 wl_7 par_210 ckX10.1 rfl hk h2 (e3.trans e1.symm) (e4.trans e2.symm) rfl (Nat.le_of_ble_eq_true rfl) hcells hslots (show decode code 928 = .ok (.invokevirtual 98, 3) by decide +kernel) (fun H2 locs2 G2 => ?_)
  refine lv_icmp_eq (tgt := 1672) hx hb (show decode code 931 = .ok (.if_icmp .eq 741, 3) by decide +kernel) (by decide) (fun _ => ?_) (fun z => absurd rfl z)
  exact kk μ2 H2 locs2 h3 G2
/-- where -/
theorem lw_c20 {I : am_M → Prop} (hI0 : ∀ μ, I μ → am_is μ 0 11 = true) (hp : am_Pair I 99 5 212 5 2) (hI : I μ) (C : lw_Fx p s m c D cI cZ b L xs) (G : lw_G D cI cZ s μ H locs) (hl : lv_has ls 4 [(0, .ref b), (1, .ref (s.heap.size + 0)), (2, .ref (s.heap.size + 88)), (3, .int (nI i))]) (hik : i + 5 < L) (hcells : cells ≤ 600000) (hslots : slots ≤ 7302250)
    (kk : ∀ (μ2 : am_M) (H2 : Heap) (locs2 : List Loc), I μ2 → lw_G D cI cZ s μ2 H2 locs2 → W p l e room_1 s m #[Value.ref b] below meth c H2 locs2 cells slots Q (F0 m 1672 ls [])) : W p l e room_1 s m #[Value.ref b] below meth c H locs cells slots Q (F0 m 936 ls []) := by
  obtain ⟨r, μ1, μ2, h1, h2, h3, e1, e2, e3, e4, hk⟩ := hp μ [xs (i + 1), xs (i + 2)] rfl hI
  obtain ⟨hx, hb, -⟩ := id C
  refine lv_aload_n hx hb (show decode code 936 = .ok (.aload_n 1, 1) by decide +kernel) rfl (lv_at hl 1 rfl) ?_
  refine lw_push 937 1 C G hl (by omega) (show decode code 937 = .ok (.aload_n 0, 1) by decide +kernel) (show decode code 938 = .ok (.iload_n 3, 1) by decide +kernel) (show decode code 939 = .ok (.iconst 1, 1) by decide +kernel) rfl (show decode code 940 = .ok (.iadd, 1) by decide +kernel) (show decode code 941 = .ok (.iaload, 1) by decide +kernel) ?_
  refine lw_push 942 2 C G hl (by omega) (show decode code 942 = .ok (.aload_n 0, 1) by decide +kernel) (show decode code 943 = .ok (.iload_n 3, 1) by decide +kernel) (show decode code 944 = .ok (.iconst 2, 1) by decide +kernel) rfl (show decode code 945 = .ok (.iadd, 1) by decide +kernel) (show decode code 946 = .ok (.iaload, 1) by decide +kernel) ?_
  refine lw_call (j := 99) (na := 2) (rid := 0) (ci := 9) (as := [.int (xs (i + 1)), .int (xs (i + 2))]) (rest := []) C G hl.1 at_99 wl_122 wl_123 wl_124 wl_3 par_99 ckX9.1 rfl (hI0 μ hI) h1 e1 e2 rfl (Nat.le_of_ble_eq_true rfl) hcells hslots (show decode code 947 = .ok (.invokevirtual 99, 3) by decide +kernel) (fun H1 locs1 G1 => ?_)
  refine lv_aload_n hx hb (show decode code 950 = .ok (.aload_n 2, 1) by decide +kernel) rfl (lv_at hl 2 rfl) ?_
  refine lw_push 951 1 C G1 hl (by omega) (show decode code 951 = .ok (.aload_n 0, 1) by decide +kernel) (show decode code 952 = .ok (.iload_n 3, 1) by decide +kernel) (show decode code 953 = .ok (.iconst 1, 1) by decide +kernel) rfl (show decode code 954 = .ok (.iadd, 1) by decide +kernel) (show decode code 955 = .ok (.iaload, 1) by decide +kernel) ?_
  refine lw_push 956 2 C G1 hl (by omega) (show decode code 956 = .ok (.aload_n 0, 1) by decide +kernel) (show decode code 957 = .ok (.iload_n 3, 1) by decide +kernel) (show decode code 958 = .ok (.iconst 2, 1) by decide +kernel) rfl (show decode code 959 = .ok (.iadd, 1) by decide +kernel) (show decode code 960 = .ok (.iaload, 1) by decide +kernel) ?_
  refine lw_call (j := 212) (na := 2) (rid := 88) (ci := 10) (as := [.int (xs (i + 1)), .int (xs (i + 2))]) (rest := [.int r]) C G1 hl.1 at_212 wl_125 wl_126 wl_127 wl_7 par_212 ckX10.1 rfl hk h2 (e3.trans e1.symm) (e4.trans e2.symm) rfl (Nat.le_of_ble_eq_true rfl) hcells hslots (show decode code 961 = .ok (.invokevirtual 102, 3) by decide +kernel) (fun H2 locs2 G2 => ?_)
  refine lv_icmp_eq (tgt := 1672) hx hb (show decode code 964 = .ok (.if_icmp .eq 708, 3) by decide +kernel) (by decide) (fun _ => ?_) (fun z => absurd rfl z)
  exact kk μ2 H2 locs2 h3 G2
/-- could -/
theorem lw_c21 {I : am_M → Prop} (hI0 : ∀ μ, I μ → am_is μ 0 11 = true) (hp : am_Pair I 101 6 213 7 3) (hI : I μ) (C : lw_Fx p s m c D cI cZ b L xs) (G : lw_G D cI cZ s μ H locs) (hl : lv_has ls 4 [(0, .ref b), (1, .ref (s.heap.size + 0)), (2, .ref (s.heap.size + 88)), (3, .int (nI i))]) (hik : i + 5 < L) (hcells : cells ≤ 600000) (hslots : slots ≤ 7302250)
    (kk : ∀ (μ2 : am_M) (H2 : Heap) (locs2 : List Loc), I μ2 → lw_G D cI cZ s μ2 H2 locs2 → W p l e room_1 s m #[Value.ref b] below meth c H2 locs2 cells slots Q (F0 m 1672 ls [])) : W p l e room_1 s m #[Value.ref b] below meth c H locs cells slots Q (F0 m 969 ls []) := by
  obtain ⟨r, μ1, μ2, h1, h2, h3, e1, e2, e3, e4, hk⟩ := hp μ [xs (i + 1), xs (i + 2), xs (i + 3)] rfl hI
  obtain ⟨hx, hb, -⟩ := id C
  refine lv_aload_n hx hb (show decode code 969 = .ok (.aload_n 1, 1) by decide +kernel) rfl (lv_at hl 1 rfl) ?_
  refine lw_push 970 1 C G hl (by omega) (show decode code 970 = .ok (.aload_n 0, 1) by decide +kernel) (show decode code 971 = .ok (.iload_n 3, 1) by decide +kernel) (show decode code 972 = .ok (.iconst 1, 1) by decide +kernel) rfl (show decode code 973 = .ok (.iadd, 1) by decide +kernel) (show decode code 974 = .ok (.iaload, 1) by decide +kernel) ?_
  refine lw_push 975 2 C G hl (by omega) (show decode code 975 = .ok (.aload_n 0, 1) by decide +kernel) (show decode code 976 = .ok (.iload_n 3, 1) by decide +kernel) (show decode code 977 = .ok (.iconst 2, 1) by decide +kernel) rfl (show decode code 978 = .ok (.iadd, 1) by decide +kernel) (show decode code 979 = .ok (.iaload, 1) by decide +kernel) ?_
  refine lw_push 980 3 C G hl (by omega) (show decode code 980 = .ok (.aload_n 0, 1) by decide +kernel) (show decode code 981 = .ok (.iload_n 3, 1) by decide +kernel) (show decode code 982 = .ok (.iconst 3, 1) by decide +kernel) rfl (show decode code 983 = .ok (.iadd, 1) by decide +kernel) (show decode code 984 = .ok (.iaload, 1) by decide +kernel) ?_
  refine lw_call (j := 101) (na := 3) (rid := 0) (ci := 9) (as := [.int (xs (i + 1)), .int (xs (i + 2)), .int (xs (i + 3))]) (rest := []) C G hl.1 at_101 wl_128 wl_129 wl_130 wl_3 par_101 ckX9.1 rfl (hI0 μ hI) h1 e1 e2 rfl (Nat.le_of_ble_eq_true rfl) hcells hslots (show decode code 985 = .ok (.invokevirtual 103, 3) by decide +kernel) (fun H1 locs1 G1 => ?_)
  refine lv_aload_n hx hb (show decode code 988 = .ok (.aload_n 2, 1) by decide +kernel) rfl (lv_at hl 2 rfl) ?_
  refine lw_push 989 1 C G1 hl (by omega) (show decode code 989 = .ok (.aload_n 0, 1) by decide +kernel) (show decode code 990 = .ok (.iload_n 3, 1) by decide +kernel) (show decode code 991 = .ok (.iconst 1, 1) by decide +kernel) rfl (show decode code 992 = .ok (.iadd, 1) by decide +kernel) (show decode code 993 = .ok (.iaload, 1) by decide +kernel) ?_
  refine lw_push 994 2 C G1 hl (by omega) (show decode code 994 = .ok (.aload_n 0, 1) by decide +kernel) (show decode code 995 = .ok (.iload_n 3, 1) by decide +kernel) (show decode code 996 = .ok (.iconst 2, 1) by decide +kernel) rfl (show decode code 997 = .ok (.iadd, 1) by decide +kernel) (show decode code 998 = .ok (.iaload, 1) by decide +kernel) ?_
  refine lw_push 999 3 C G1 hl (by omega) (show decode code 999 = .ok (.aload_n 0, 1) by decide +kernel) (show decode code 1000 = .ok (.iload_n 3, 1) by decide +kernel) (show decode code 1001 = .ok (.iconst 3, 1) by decide +kernel) rfl (show decode code 1002 = .ok (.iadd, 1) by decide +kernel) (show decode code 1003 = .ok (.iaload, 1) by decide +kernel) ?_
  refine lw_call (j := 213) (na := 3) (rid := 88) (ci := 10) (as := [.int (xs (i + 1)), .int (xs (i + 2)), .int (xs (i + 3))]) (rest := [.int r]) C G1 hl.1 at_213 wl_131 wl_132 wl_133 wl_7 par_213 ckX10.1 rfl hk h2 (e3.trans e1.symm) (e4.trans e2.symm) rfl (Nat.le_of_ble_eq_true rfl) hcells hslots (show decode code 1004 = .ok (.invokevirtual 106, 3) by decide +kernel) (fun H2 locs2 G2 => ?_)
  refine lv_icmp_eq (tgt := 1672) hx hb (show decode code 1007 = .ok (.if_icmp .eq 665, 3) by decide +kernel) (by decide) (fun _ => ?_) (fun z => absurd rfl z)
  exact kk μ2 H2 locs2 h3 G2
/-- least -/
theorem lw_c22 {I : am_M → Prop} (hI0 : ∀ μ, I μ → am_is μ 0 11 = true) (hp : am_Pair I 102 7 214 5 4) (hI : I μ) (C : lw_Fx p s m c D cI cZ b L xs) (G : lw_G D cI cZ s μ H locs) (hl : lv_has ls 4 [(0, .ref b), (1, .ref (s.heap.size + 0)), (2, .ref (s.heap.size + 88)), (3, .int (nI i))]) (hik : i + 5 < L) (hcells : cells ≤ 600000) (hslots : slots ≤ 7302250)
    (kk : ∀ (μ2 : am_M) (H2 : Heap) (locs2 : List Loc), I μ2 → lw_G D cI cZ s μ2 H2 locs2 → W p l e room_1 s m #[Value.ref b] below meth c H2 locs2 cells slots Q (F0 m 1672 ls [])) : W p l e room_1 s m #[Value.ref b] below meth c H locs cells slots Q (F0 m 1012 ls []) := by
  obtain ⟨r, μ1, μ2, h1, h2, h3, e1, e2, e3, e4, hk⟩ := hp μ [xs (i + 1), xs (i + 2), xs (i + 3), xs (i + 4)] rfl hI
  obtain ⟨hx, hb, -⟩ := id C
  refine lv_aload_n hx hb (show decode code 1012 = .ok (.aload_n 1, 1) by decide +kernel) rfl (lv_at hl 1 rfl) ?_
  refine lw_push 1013 1 C G hl (by omega) (show decode code 1013 = .ok (.aload_n 0, 1) by decide +kernel) (show decode code 1014 = .ok (.iload_n 3, 1) by decide +kernel) (show decode code 1015 = .ok (.iconst 1, 1) by decide +kernel) rfl (show decode code 1016 = .ok (.iadd, 1) by decide +kernel) (show decode code 1017 = .ok (.iaload, 1) by decide +kernel) ?_
  refine lw_push 1018 2 C G hl (by omega) (show decode code 1018 = .ok (.aload_n 0, 1) by decide +kernel) (show decode code 1019 = .ok (.iload_n 3, 1) by decide +kernel) (show decode code 1020 = .ok (.iconst 2, 1) by decide +kernel) rfl (show decode code 1021 = .ok (.iadd, 1) by decide +kernel) (show decode code 1022 = .ok (.iaload, 1) by decide +kernel) ?_
  refine lw_push 1023 3 C G hl (by omega) (show decode code 1023 = .ok (.aload_n 0, 1) by decide +kernel) (show decode code 1024 = .ok (.iload_n 3, 1) by decide +kernel) (show decode code 1025 = .ok (.iconst 3, 1) by decide +kernel) rfl (show decode code 1026 = .ok (.iadd, 1) by decide +kernel) (show decode code 1027 = .ok (.iaload, 1) by decide +kernel) ?_
  refine lw_push 1028 4 C G hl (by omega) (show decode code 1028 = .ok (.aload_n 0, 1) by decide +kernel) (show decode code 1029 = .ok (.iload_n 3, 1) by decide +kernel) (show decode code 1030 = .ok (.iconst 4, 1) by decide +kernel) rfl (show decode code 1031 = .ok (.iadd, 1) by decide +kernel) (show decode code 1032 = .ok (.iaload, 1) by decide +kernel) ?_
  refine lw_call (j := 102) (na := 4) (rid := 0) (ci := 9) (as := [.int (xs (i + 1)), .int (xs (i + 2)), .int (xs (i + 3)), .int (xs (i + 4))]) (rest := []) C G hl.1 at_102 wl_134 wl_135 wl_136 wl_3 par_102 ckX9.1 rfl (hI0 μ hI) h1 e1 e2 rfl (Nat.le_of_ble_eq_true rfl) hcells hslots (show decode code 1033 = .ok (.invokevirtual 107, 3) by decide +kernel) (fun H1 locs1 G1 => ?_)
  refine lv_aload_n hx hb (show decode code 1036 = .ok (.aload_n 2, 1) by decide +kernel) rfl (lv_at hl 2 rfl) ?_
  refine lw_push 1037 1 C G1 hl (by omega) (show decode code 1037 = .ok (.aload_n 0, 1) by decide +kernel) (show decode code 1038 = .ok (.iload_n 3, 1) by decide +kernel) (show decode code 1039 = .ok (.iconst 1, 1) by decide +kernel) rfl (show decode code 1040 = .ok (.iadd, 1) by decide +kernel) (show decode code 1041 = .ok (.iaload, 1) by decide +kernel) ?_
  refine lw_push 1042 2 C G1 hl (by omega) (show decode code 1042 = .ok (.aload_n 0, 1) by decide +kernel) (show decode code 1043 = .ok (.iload_n 3, 1) by decide +kernel) (show decode code 1044 = .ok (.iconst 2, 1) by decide +kernel) rfl (show decode code 1045 = .ok (.iadd, 1) by decide +kernel) (show decode code 1046 = .ok (.iaload, 1) by decide +kernel) ?_
  refine lw_push 1047 3 C G1 hl (by omega) (show decode code 1047 = .ok (.aload_n 0, 1) by decide +kernel) (show decode code 1048 = .ok (.iload_n 3, 1) by decide +kernel) (show decode code 1049 = .ok (.iconst 3, 1) by decide +kernel) rfl (show decode code 1050 = .ok (.iadd, 1) by decide +kernel) (show decode code 1051 = .ok (.iaload, 1) by decide +kernel) ?_
  refine lw_push 1052 4 C G1 hl (by omega) (show decode code 1052 = .ok (.aload_n 0, 1) by decide +kernel) (show decode code 1053 = .ok (.iload_n 3, 1) by decide +kernel) (show decode code 1054 = .ok (.iconst 4, 1) by decide +kernel) rfl (show decode code 1055 = .ok (.iadd, 1) by decide +kernel) (show decode code 1056 = .ok (.iaload, 1) by decide +kernel) ?_
  refine lw_call (j := 214) (na := 4) (rid := 88) (ci := 10) (as := [.int (xs (i + 1)), .int (xs (i + 2)), .int (xs (i + 3)), .int (xs (i + 4))]) (rest := [.int r]) C G1 hl.1 at_214 wl_137 wl_138 wl_139 wl_7 par_214 ckX10.1 rfl hk h2 (e3.trans e1.symm) (e4.trans e2.symm) rfl (Nat.le_of_ble_eq_true rfl) hcells hslots (show decode code 1057 = .ok (.invokevirtual 110, 3) by decide +kernel) (fun H2 locs2 G2 => ?_)
  refine lv_icmp_eq (tgt := 1672) hx hb (show decode code 1060 = .ok (.if_icmp .eq 612, 3) by decide +kernel) (by decide) (fun _ => ?_) (fun z => absurd rfl z)
  exact kk μ2 H2 locs2 h3 G2
/-- until -/
theorem lw_c23 {I : am_M → Prop} (hI0 : ∀ μ, I μ → am_is μ 0 11 = true) (hp : am_Pair I 111 6 223 5 3) (hI : I μ) (C : lw_Fx p s m c D cI cZ b L xs) (G : lw_G D cI cZ s μ H locs) (hl : lv_has ls 4 [(0, .ref b), (1, .ref (s.heap.size + 0)), (2, .ref (s.heap.size + 88)), (3, .int (nI i))]) (hik : i + 5 < L) (hcells : cells ≤ 600000) (hslots : slots ≤ 7302250)
    (kk : ∀ (μ2 : am_M) (H2 : Heap) (locs2 : List Loc), I μ2 → lw_G D cI cZ s μ2 H2 locs2 → W p l e room_1 s m #[Value.ref b] below meth c H2 locs2 cells slots Q (F0 m 1672 ls [])) : W p l e room_1 s m #[Value.ref b] below meth c H locs cells slots Q (F0 m 1065 ls []) := by
  obtain ⟨r, μ1, μ2, h1, h2, h3, e1, e2, e3, e4, hk⟩ := hp μ [xs (i + 1), xs (i + 2), xs (i + 3)] rfl hI
  obtain ⟨hx, hb, -⟩ := id C
  refine lv_aload_n hx hb (show decode code 1065 = .ok (.aload_n 1, 1) by decide +kernel) rfl (lv_at hl 1 rfl) ?_
  refine lw_push 1066 1 C G hl (by omega) (show decode code 1066 = .ok (.aload_n 0, 1) by decide +kernel) (show decode code 1067 = .ok (.iload_n 3, 1) by decide +kernel) (show decode code 1068 = .ok (.iconst 1, 1) by decide +kernel) rfl (show decode code 1069 = .ok (.iadd, 1) by decide +kernel) (show decode code 1070 = .ok (.iaload, 1) by decide +kernel) ?_
  refine lw_push 1071 2 C G hl (by omega) (show decode code 1071 = .ok (.aload_n 0, 1) by decide +kernel) (show decode code 1072 = .ok (.iload_n 3, 1) by decide +kernel) (show decode code 1073 = .ok (.iconst 2, 1) by decide +kernel) rfl (show decode code 1074 = .ok (.iadd, 1) by decide +kernel) (show decode code 1075 = .ok (.iaload, 1) by decide +kernel) ?_
  refine lw_push 1076 3 C G hl (by omega) (show decode code 1076 = .ok (.aload_n 0, 1) by decide +kernel) (show decode code 1077 = .ok (.iload_n 3, 1) by decide +kernel) (show decode code 1078 = .ok (.iconst 3, 1) by decide +kernel) rfl (show decode code 1079 = .ok (.iadd, 1) by decide +kernel) (show decode code 1080 = .ok (.iaload, 1) by decide +kernel) ?_
  refine lw_call (j := 111) (na := 3) (rid := 0) (ci := 9) (as := [.int (xs (i + 1)), .int (xs (i + 2)), .int (xs (i + 3))]) (rest := []) C G hl.1 at_111 wl_140 wl_141 wl_142 wl_3 par_111 ckX9.1 rfl (hI0 μ hI) h1 e1 e2 rfl (Nat.le_of_ble_eq_true rfl) hcells hslots (show decode code 1081 = .ok (.invokevirtual 111, 3) by decide +kernel) (fun H1 locs1 G1 => ?_)
  refine lv_aload_n hx hb (show decode code 1084 = .ok (.aload_n 2, 1) by decide +kernel) rfl (lv_at hl 2 rfl) ?_
  refine lw_push 1085 1 C G1 hl (by omega) (show decode code 1085 = .ok (.aload_n 0, 1) by decide +kernel) (show decode code 1086 = .ok (.iload_n 3, 1) by decide +kernel) (show decode code 1087 = .ok (.iconst 1, 1) by decide +kernel) rfl (show decode code 1088 = .ok (.iadd, 1) by decide +kernel) (show decode code 1089 = .ok (.iaload, 1) by decide +kernel) ?_
  refine lw_push 1090 2 C G1 hl (by omega) (show decode code 1090 = .ok (.aload_n 0, 1) by decide +kernel) (show decode code 1091 = .ok (.iload_n 3, 1) by decide +kernel) (show decode code 1092 = .ok (.iconst 2, 1) by decide +kernel) rfl (show decode code 1093 = .ok (.iadd, 1) by decide +kernel) (show decode code 1094 = .ok (.iaload, 1) by decide +kernel) ?_
  refine lw_push 1095 3 C G1 hl (by omega) (show decode code 1095 = .ok (.aload_n 0, 1) by decide +kernel) (show decode code 1096 = .ok (.iload_n 3, 1) by decide +kernel) (show decode code 1097 = .ok (.iconst 3, 1) by decide +kernel) rfl (show decode code 1098 = .ok (.iadd, 1) by decide +kernel) (show decode code 1099 = .ok (.iaload, 1) by decide +kernel) ?_
  refine lw_call (j := 223) (na := 3) (rid := 88) (ci := 10) (as := [.int (xs (i + 1)), .int (xs (i + 2)), .int (xs (i + 3))]) (rest := [.int r]) C G1 hl.1 at_223 wl_143 wl_144 wl_145 wl_7 par_223 ckX10.1 rfl hk h2 (e3.trans e1.symm) (e4.trans e2.symm) rfl (Nat.le_of_ble_eq_true rfl) hcells hslots (show decode code 1100 = .ok (.invokevirtual 114, 3) by decide +kernel) (fun H2 locs2 G2 => ?_)
  refine lv_icmp_eq (tgt := 1672) hx hb (show decode code 1103 = .ok (.if_icmp .eq 569, 3) by decide +kernel) (by decide) (fun _ => ?_) (fun z => absurd rfl z)
  exact kk μ2 H2 locs2 h3 G2
/-- lose -/
theorem lw_c24 {I : am_M → Prop} (hI0 : ∀ μ, I μ → am_is μ 0 11 = true) (hp : am_Pair I 112 6 222 5 4) (hI : I μ) (C : lw_Fx p s m c D cI cZ b L xs) (G : lw_G D cI cZ s μ H locs) (hl : lv_has ls 4 [(0, .ref b), (1, .ref (s.heap.size + 0)), (2, .ref (s.heap.size + 88)), (3, .int (nI i))]) (hik : i + 5 < L) (hcells : cells ≤ 600000) (hslots : slots ≤ 7302250)
    (kk : ∀ (μ2 : am_M) (H2 : Heap) (locs2 : List Loc), I μ2 → lw_G D cI cZ s μ2 H2 locs2 → W p l e room_1 s m #[Value.ref b] below meth c H2 locs2 cells slots Q (F0 m 1672 ls [])) : W p l e room_1 s m #[Value.ref b] below meth c H locs cells slots Q (F0 m 1108 ls []) := by
  obtain ⟨r, μ1, μ2, h1, h2, h3, e1, e2, e3, e4, hk⟩ := hp μ [xs (i + 1), xs (i + 2), xs (i + 3), xs (i + 4)] rfl hI
  obtain ⟨hx, hb, -⟩ := id C
  refine lv_aload_n hx hb (show decode code 1108 = .ok (.aload_n 1, 1) by decide +kernel) rfl (lv_at hl 1 rfl) ?_
  refine lw_push 1109 1 C G hl (by omega) (show decode code 1109 = .ok (.aload_n 0, 1) by decide +kernel) (show decode code 1110 = .ok (.iload_n 3, 1) by decide +kernel) (show decode code 1111 = .ok (.iconst 1, 1) by decide +kernel) rfl (show decode code 1112 = .ok (.iadd, 1) by decide +kernel) (show decode code 1113 = .ok (.iaload, 1) by decide +kernel) ?_
  refine lw_push 1114 2 C G hl (by omega) (show decode code 1114 = .ok (.aload_n 0, 1) by decide +kernel) (show decode code 1115 = .ok (.iload_n 3, 1) by decide +kernel) (show decode code 1116 = .ok (.iconst 2, 1) by decide +kernel) rfl (show decode code 1117 = .ok (.iadd, 1) by decide +kernel) (show decode code 1118 = .ok (.iaload, 1) by decide +kernel) ?_
  refine lw_push 1119 3 C G hl (by omega) (show decode code 1119 = .ok (.aload_n 0, 1) by decide +kernel) (show decode code 1120 = .ok (.iload_n 3, 1) by decide +kernel) (show decode code 1121 = .ok (.iconst 3, 1) by decide +kernel) rfl (show decode code 1122 = .ok (.iadd, 1) by decide +kernel) (show decode code 1123 = .ok (.iaload, 1) by decide +kernel) ?_
  refine lw_push 1124 4 C G hl (by omega) (show decode code 1124 = .ok (.aload_n 0, 1) by decide +kernel) (show decode code 1125 = .ok (.iload_n 3, 1) by decide +kernel) (show decode code 1126 = .ok (.iconst 4, 1) by decide +kernel) rfl (show decode code 1127 = .ok (.iadd, 1) by decide +kernel) (show decode code 1128 = .ok (.iaload, 1) by decide +kernel) ?_
  refine lw_call (j := 112) (na := 4) (rid := 0) (ci := 9) (as := [.int (xs (i + 1)), .int (xs (i + 2)), .int (xs (i + 3)), .int (xs (i + 4))]) (rest := []) C G hl.1 at_112 wl_146 wl_147 wl_148 wl_3 par_112 ckX9.1 rfl (hI0 μ hI) h1 e1 e2 rfl (Nat.le_of_ble_eq_true rfl) hcells hslots (show decode code 1129 = .ok (.invokevirtual 115, 3) by decide +kernel) (fun H1 locs1 G1 => ?_)
  refine lv_aload_n hx hb (show decode code 1132 = .ok (.aload_n 2, 1) by decide +kernel) rfl (lv_at hl 2 rfl) ?_
  refine lw_push 1133 1 C G1 hl (by omega) (show decode code 1133 = .ok (.aload_n 0, 1) by decide +kernel) (show decode code 1134 = .ok (.iload_n 3, 1) by decide +kernel) (show decode code 1135 = .ok (.iconst 1, 1) by decide +kernel) rfl (show decode code 1136 = .ok (.iadd, 1) by decide +kernel) (show decode code 1137 = .ok (.iaload, 1) by decide +kernel) ?_
  refine lw_push 1138 2 C G1 hl (by omega) (show decode code 1138 = .ok (.aload_n 0, 1) by decide +kernel) (show decode code 1139 = .ok (.iload_n 3, 1) by decide +kernel) (show decode code 1140 = .ok (.iconst 2, 1) by decide +kernel) rfl (show decode code 1141 = .ok (.iadd, 1) by decide +kernel) (show decode code 1142 = .ok (.iaload, 1) by decide +kernel) ?_
  refine lw_push 1143 3 C G1 hl (by omega) (show decode code 1143 = .ok (.aload_n 0, 1) by decide +kernel) (show decode code 1144 = .ok (.iload_n 3, 1) by decide +kernel) (show decode code 1145 = .ok (.iconst 3, 1) by decide +kernel) rfl (show decode code 1146 = .ok (.iadd, 1) by decide +kernel) (show decode code 1147 = .ok (.iaload, 1) by decide +kernel) ?_
  refine lw_push 1148 4 C G1 hl (by omega) (show decode code 1148 = .ok (.aload_n 0, 1) by decide +kernel) (show decode code 1149 = .ok (.iload_n 3, 1) by decide +kernel) (show decode code 1150 = .ok (.iconst 4, 1) by decide +kernel) rfl (show decode code 1151 = .ok (.iadd, 1) by decide +kernel) (show decode code 1152 = .ok (.iaload, 1) by decide +kernel) ?_
  refine lw_call (j := 222) (na := 4) (rid := 88) (ci := 10) (as := [.int (xs (i + 1)), .int (xs (i + 2)), .int (xs (i + 3)), .int (xs (i + 4))]) (rest := [.int r]) C G1 hl.1 at_222 wl_149 wl_150 wl_151 wl_7 par_222 ckX10.1 rfl hk h2 (e3.trans e1.symm) (e4.trans e2.symm) rfl (Nat.le_of_ble_eq_true rfl) hcells hslots (show decode code 1153 = .ok (.invokevirtual 118, 3) by decide +kernel) (fun H2 locs2 G2 => ?_)
  refine lv_icmp_eq (tgt := 1672) hx hb (show decode code 1156 = .ok (.if_icmp .eq 516, 3) by decide +kernel) (by decide) (fun _ => ?_) (fun z => absurd rfl z)
  exact kk μ2 H2 locs2 h3 G2
/-- changes -/
theorem lw_c25 {I : am_M → Prop} (hI0 : ∀ μ, I μ → am_is μ 0 11 = true) (hp : am_Pair I 115 9 225 7 4) (hI : I μ) (C : lw_Fx p s m c D cI cZ b L xs) (G : lw_G D cI cZ s μ H locs) (hl : lv_has ls 4 [(0, .ref b), (1, .ref (s.heap.size + 0)), (2, .ref (s.heap.size + 88)), (3, .int (nI i))]) (hik : i + 5 < L) (hcells : cells ≤ 600000) (hslots : slots ≤ 7302250)
    (kk : ∀ (μ2 : am_M) (H2 : Heap) (locs2 : List Loc), I μ2 → lw_G D cI cZ s μ2 H2 locs2 → W p l e room_1 s m #[Value.ref b] below meth c H2 locs2 cells slots Q (F0 m 1672 ls [])) : W p l e room_1 s m #[Value.ref b] below meth c H locs cells slots Q (F0 m 1161 ls []) := by
  obtain ⟨r, μ1, μ2, h1, h2, h3, e1, e2, e3, e4, hk⟩ := hp μ [xs (i + 1), xs (i + 2), xs (i + 3), xs (i + 4)] rfl hI
  obtain ⟨hx, hb, -⟩ := id C
  refine lv_aload_n hx hb (show decode code 1161 = .ok (.aload_n 1, 1) by decide +kernel) rfl (lv_at hl 1 rfl) ?_
  refine lw_push 1162 1 C G hl (by omega) (show decode code 1162 = .ok (.aload_n 0, 1) by decide +kernel) (show decode code 1163 = .ok (.iload_n 3, 1) by decide +kernel) (show decode code 1164 = .ok (.iconst 1, 1) by decide +kernel) rfl (show decode code 1165 = .ok (.iadd, 1) by decide +kernel) (show decode code 1166 = .ok (.iaload, 1) by decide +kernel) ?_
  refine lw_push 1167 2 C G hl (by omega) (show decode code 1167 = .ok (.aload_n 0, 1) by decide +kernel) (show decode code 1168 = .ok (.iload_n 3, 1) by decide +kernel) (show decode code 1169 = .ok (.iconst 2, 1) by decide +kernel) rfl (show decode code 1170 = .ok (.iadd, 1) by decide +kernel) (show decode code 1171 = .ok (.iaload, 1) by decide +kernel) ?_
  refine lw_push 1172 3 C G hl (by omega) (show decode code 1172 = .ok (.aload_n 0, 1) by decide +kernel) (show decode code 1173 = .ok (.iload_n 3, 1) by decide +kernel) (show decode code 1174 = .ok (.iconst 3, 1) by decide +kernel) rfl (show decode code 1175 = .ok (.iadd, 1) by decide +kernel) (show decode code 1176 = .ok (.iaload, 1) by decide +kernel) ?_
  refine lw_push 1177 4 C G hl (by omega) (show decode code 1177 = .ok (.aload_n 0, 1) by decide +kernel) (show decode code 1178 = .ok (.iload_n 3, 1) by decide +kernel) (show decode code 1179 = .ok (.iconst 4, 1) by decide +kernel) rfl (show decode code 1180 = .ok (.iadd, 1) by decide +kernel) (show decode code 1181 = .ok (.iaload, 1) by decide +kernel) ?_
  refine lw_call (j := 115) (na := 4) (rid := 0) (ci := 9) (as := [.int (xs (i + 1)), .int (xs (i + 2)), .int (xs (i + 3)), .int (xs (i + 4))]) (rest := []) C G hl.1 at_115 wl_152 wl_153 wl_154 wl_3 par_115 ckX9.1 rfl (hI0 μ hI) h1 e1 e2 rfl (Nat.le_of_ble_eq_true rfl) hcells hslots (show decode code 1182 = .ok (.invokevirtual 119, 3) by decide +kernel) (fun H1 locs1 G1 => ?_)
  refine lv_aload_n hx hb (show decode code 1185 = .ok (.aload_n 2, 1) by decide +kernel) rfl (lv_at hl 2 rfl) ?_
  refine lw_push 1186 1 C G1 hl (by omega) (show decode code 1186 = .ok (.aload_n 0, 1) by decide +kernel) (show decode code 1187 = .ok (.iload_n 3, 1) by decide +kernel) (show decode code 1188 = .ok (.iconst 1, 1) by decide +kernel) rfl (show decode code 1189 = .ok (.iadd, 1) by decide +kernel) (show decode code 1190 = .ok (.iaload, 1) by decide +kernel) ?_
  refine lw_push 1191 2 C G1 hl (by omega) (show decode code 1191 = .ok (.aload_n 0, 1) by decide +kernel) (show decode code 1192 = .ok (.iload_n 3, 1) by decide +kernel) (show decode code 1193 = .ok (.iconst 2, 1) by decide +kernel) rfl (show decode code 1194 = .ok (.iadd, 1) by decide +kernel) (show decode code 1195 = .ok (.iaload, 1) by decide +kernel) ?_
  refine lw_push 1196 3 C G1 hl (by omega) (show decode code 1196 = .ok (.aload_n 0, 1) by decide +kernel) (show decode code 1197 = .ok (.iload_n 3, 1) by decide +kernel) (show decode code 1198 = .ok (.iconst 3, 1) by decide +kernel) rfl (show decode code 1199 = .ok (.iadd, 1) by decide +kernel) (show decode code 1200 = .ok (.iaload, 1) by decide +kernel) ?_
  refine lw_push 1201 4 C G1 hl (by omega) (show decode code 1201 = .ok (.aload_n 0, 1) by decide +kernel) (show decode code 1202 = .ok (.iload_n 3, 1) by decide +kernel) (show decode code 1203 = .ok (.iconst 4, 1) by decide +kernel) rfl (show decode code 1204 = .ok (.iadd, 1) by decide +kernel) (show decode code 1205 = .ok (.iaload, 1) by decide +kernel) ?_
  refine lw_call (j := 225) (na := 4) (rid := 88) (ci := 10) (as := [.int (xs (i + 1)), .int (xs (i + 2)), .int (xs (i + 3)), .int (xs (i + 4))]) (rest := [.int r]) C G1 hl.1 at_225 wl_155 wl_156 wl_157 wl_7 par_225 ckX10.1 rfl hk h2 (e3.trans e1.symm) (e4.trans e2.symm) rfl (Nat.le_of_ble_eq_true rfl) hcells hslots (show decode code 1206 = .ok (.invokevirtual 122, 3) by decide +kernel) (fun H2 locs2 G2 => ?_)
  refine lv_icmp_eq (tgt := 1672) hx hb (show decode code 1209 = .ok (.if_icmp .eq 463, 3) by decide +kernel) (by decide) (fun _ => ?_) (fun z => absurd rfl z)
  exact kk μ2 H2 locs2 h3 G2
/-- ways -/
theorem lw_c26 {I : am_M → Prop} (hI0 : ∀ μ, I μ → am_is μ 0 11 = true) (hp : am_Pair I 116 5 226 5 2) (hI : I μ) (C : lw_Fx p s m c D cI cZ b L xs) (G : lw_G D cI cZ s μ H locs) (hl : lv_has ls 4 [(0, .ref b), (1, .ref (s.heap.size + 0)), (2, .ref (s.heap.size + 88)), (3, .int (nI i))]) (hik : i + 5 < L) (hcells : cells ≤ 600000) (hslots : slots ≤ 7302250)
    (kk : ∀ (μ2 : am_M) (H2 : Heap) (locs2 : List Loc), I μ2 → lw_G D cI cZ s μ2 H2 locs2 → W p l e room_1 s m #[Value.ref b] below meth c H2 locs2 cells slots Q (F0 m 1672 ls [])) : W p l e room_1 s m #[Value.ref b] below meth c H locs cells slots Q (F0 m 1214 ls []) := by
  obtain ⟨r, μ1, μ2, h1, h2, h3, e1, e2, e3, e4, hk⟩ := hp μ [xs (i + 1), xs (i + 2)] rfl hI
  obtain ⟨hx, hb, -⟩ := id C
  refine lv_aload_n hx hb (show decode code 1214 = .ok (.aload_n 1, 1) by decide +kernel) rfl (lv_at hl 1 rfl) ?_
  refine lw_push 1215 1 C G hl (by omega) (show decode code 1215 = .ok (.aload_n 0, 1) by decide +kernel) (show decode code 1216 = .ok (.iload_n 3, 1) by decide +kernel) (show decode code 1217 = .ok (.iconst 1, 1) by decide +kernel) rfl (show decode code 1218 = .ok (.iadd, 1) by decide +kernel) (show decode code 1219 = .ok (.iaload, 1) by decide +kernel) ?_
  refine lw_push 1220 2 C G hl (by omega) (show decode code 1220 = .ok (.aload_n 0, 1) by decide +kernel) (show decode code 1221 = .ok (.iload_n 3, 1) by decide +kernel) (show decode code 1222 = .ok (.iconst 2, 1) by decide +kernel) rfl (show decode code 1223 = .ok (.iadd, 1) by decide +kernel) (show decode code 1224 = .ok (.iaload, 1) by decide +kernel) ?_
  refine lw_call (j := 116) (na := 2) (rid := 0) (ci := 9) (as := [.int (xs (i + 1)), .int (xs (i + 2))]) (rest := []) C G hl.1 at_116 wl_158 wl_159 wl_160 wl_3 par_116 ckX9.1 rfl (hI0 μ hI) h1 e1 e2 rfl (Nat.le_of_ble_eq_true rfl) hcells hslots (show decode code 1225 = .ok (.invokevirtual 123, 3) by decide +kernel) (fun H1 locs1 G1 => ?_)
  refine lv_aload_n hx hb (show decode code 1228 = .ok (.aload_n 2, 1) by decide +kernel) rfl (lv_at hl 2 rfl) ?_
  refine lw_push 1229 1 C G1 hl (by omega) (show decode code 1229 = .ok (.aload_n 0, 1) by decide +kernel) (show decode code 1230 = .ok (.iload_n 3, 1) by decide +kernel) (show decode code 1231 = .ok (.iconst 1, 1) by decide +kernel) rfl (show decode code 1232 = .ok (.iadd, 1) by decide +kernel) (show decode code 1233 = .ok (.iaload, 1) by decide +kernel) ?_
  refine lw_push 1234 2 C G1 hl (by omega) (show decode code 1234 = .ok (.aload_n 0, 1) by decide +kernel) (show decode code 1235 = .ok (.iload_n 3, 1) by decide +kernel) (show decode code 1236 = .ok (.iconst 2, 1) by decide +kernel) rfl (show decode code 1237 = .ok (.iadd, 1) by decide +kernel) (show decode code 1238 = .ok (.iaload, 1) by decide +kernel) ?_
  refine lw_call (j := 226) (na := 2) (rid := 88) (ci := 10) (as := [.int (xs (i + 1)), .int (xs (i + 2))]) (rest := [.int r]) C G1 hl.1 at_226 wl_161 wl_162 wl_163 wl_7 par_226 ckX10.1 rfl hk h2 (e3.trans e1.symm) (e4.trans e2.symm) rfl (Nat.le_of_ble_eq_true rfl) hcells hslots (show decode code 1239 = .ok (.invokevirtual 126, 3) by decide +kernel) (fun H2 locs2 G2 => ?_)
  refine lv_icmp_eq (tgt := 1672) hx hb (show decode code 1242 = .ok (.if_icmp .eq 430, 3) by decide +kernel) (by decide) (fun _ => ?_) (fun z => absurd rfl z)
  exact kk μ2 H2 locs2 h3 G2
/-- idle -/
theorem lw_c27 {I : am_M → Prop} (hI0 : ∀ μ, I μ → am_is μ 0 11 = true) (hp : am_Pair I 118 5 228 4 1) (hI : I μ) (C : lw_Fx p s m c D cI cZ b L xs) (G : lw_G D cI cZ s μ H locs) (hl : lv_has ls 4 [(0, .ref b), (1, .ref (s.heap.size + 0)), (2, .ref (s.heap.size + 88)), (3, .int (nI i))]) (hik : i + 5 < L) (hcells : cells ≤ 600000) (hslots : slots ≤ 7302250)
    (kk : ∀ (μ2 : am_M) (H2 : Heap) (locs2 : List Loc), I μ2 → lw_G D cI cZ s μ2 H2 locs2 → W p l e room_1 s m #[Value.ref b] below meth c H2 locs2 cells slots Q (F0 m 1672 ls [])) : W p l e room_1 s m #[Value.ref b] below meth c H locs cells slots Q (F0 m 1247 ls []) := by
  obtain ⟨r, μ1, μ2, h1, h2, h3, e1, e2, e3, e4, hk⟩ := hp μ [xs (i + 1)] rfl hI
  obtain ⟨hx, hb, -⟩ := id C
  refine lv_aload_n hx hb (show decode code 1247 = .ok (.aload_n 1, 1) by decide +kernel) rfl (lv_at hl 1 rfl) ?_
  refine lw_push 1248 1 C G hl (by omega) (show decode code 1248 = .ok (.aload_n 0, 1) by decide +kernel) (show decode code 1249 = .ok (.iload_n 3, 1) by decide +kernel) (show decode code 1250 = .ok (.iconst 1, 1) by decide +kernel) rfl (show decode code 1251 = .ok (.iadd, 1) by decide +kernel) (show decode code 1252 = .ok (.iaload, 1) by decide +kernel) ?_
  refine lw_call (j := 118) (na := 1) (rid := 0) (ci := 9) (as := [.int (xs (i + 1))]) (rest := []) C G hl.1 at_118 wl_164 wl_165 wl_166 wl_3 par_118 ckX9.1 rfl (hI0 μ hI) h1 e1 e2 rfl (Nat.le_of_ble_eq_true rfl) hcells hslots (show decode code 1253 = .ok (.invokevirtual 127, 3) by decide +kernel) (fun H1 locs1 G1 => ?_)
  refine lv_aload_n hx hb (show decode code 1256 = .ok (.aload_n 2, 1) by decide +kernel) rfl (lv_at hl 2 rfl) ?_
  refine lw_push 1257 1 C G1 hl (by omega) (show decode code 1257 = .ok (.aload_n 0, 1) by decide +kernel) (show decode code 1258 = .ok (.iload_n 3, 1) by decide +kernel) (show decode code 1259 = .ok (.iconst 1, 1) by decide +kernel) rfl (show decode code 1260 = .ok (.iadd, 1) by decide +kernel) (show decode code 1261 = .ok (.iaload, 1) by decide +kernel) ?_
  refine lw_call (j := 228) (na := 1) (rid := 88) (ci := 10) (as := [.int (xs (i + 1))]) (rest := [.int r]) C G1 hl.1 at_228 wl_167 wl_168 wl_169 wl_7 par_228 ckX10.1 rfl hk h2 (e3.trans e1.symm) (e4.trans e2.symm) rfl (Nat.le_of_ble_eq_true rfl) hcells hslots (show decode code 1262 = .ok (.invokevirtual 130, 3) by decide +kernel) (fun H2 locs2 G2 => ?_)
  refine lv_icmp_eq (tgt := 1672) hx hb (show decode code 1265 = .ok (.if_icmp .eq 407, 3) by decide +kernel) (by decide) (fun _ => ?_) (fun z => absurd rfl z)
  exact kk μ2 H2 locs2 h3 G2
/-- unlike -/
theorem lw_c28 {I : am_M → Prop} (hI0 : ∀ μ, I μ → am_is μ 0 11 = true) (hp : am_Pair I 119 8 229 6 3) (hI : I μ) (C : lw_Fx p s m c D cI cZ b L xs) (G : lw_G D cI cZ s μ H locs) (hl : lv_has ls 4 [(0, .ref b), (1, .ref (s.heap.size + 0)), (2, .ref (s.heap.size + 88)), (3, .int (nI i))]) (hik : i + 5 < L) (hcells : cells ≤ 600000) (hslots : slots ≤ 7302250)
    (kk : ∀ (μ2 : am_M) (H2 : Heap) (locs2 : List Loc), I μ2 → lw_G D cI cZ s μ2 H2 locs2 → W p l e room_1 s m #[Value.ref b] below meth c H2 locs2 cells slots Q (F0 m 1672 ls [])) : W p l e room_1 s m #[Value.ref b] below meth c H locs cells slots Q (F0 m 1270 ls []) := by
  obtain ⟨r, μ1, μ2, h1, h2, h3, e1, e2, e3, e4, hk⟩ := hp μ [xs (i + 1), xs (i + 2), xs (i + 3)] rfl hI
  obtain ⟨hx, hb, -⟩ := id C
  refine lv_aload_n hx hb (show decode code 1270 = .ok (.aload_n 1, 1) by decide +kernel) rfl (lv_at hl 1 rfl) ?_
  refine lw_push 1271 1 C G hl (by omega) (show decode code 1271 = .ok (.aload_n 0, 1) by decide +kernel) (show decode code 1272 = .ok (.iload_n 3, 1) by decide +kernel) (show decode code 1273 = .ok (.iconst 1, 1) by decide +kernel) rfl (show decode code 1274 = .ok (.iadd, 1) by decide +kernel) (show decode code 1275 = .ok (.iaload, 1) by decide +kernel) ?_
  refine lw_push 1276 2 C G hl (by omega) (show decode code 1276 = .ok (.aload_n 0, 1) by decide +kernel) (show decode code 1277 = .ok (.iload_n 3, 1) by decide +kernel) (show decode code 1278 = .ok (.iconst 2, 1) by decide +kernel) rfl (show decode code 1279 = .ok (.iadd, 1) by decide +kernel) (show decode code 1280 = .ok (.iaload, 1) by decide +kernel) ?_
  refine lw_push 1281 3 C G hl (by omega) (show decode code 1281 = .ok (.aload_n 0, 1) by decide +kernel) (show decode code 1282 = .ok (.iload_n 3, 1) by decide +kernel) (show decode code 1283 = .ok (.iconst 3, 1) by decide +kernel) rfl (show decode code 1284 = .ok (.iadd, 1) by decide +kernel) (show decode code 1285 = .ok (.iaload, 1) by decide +kernel) ?_
  refine lw_call (j := 119) (na := 3) (rid := 0) (ci := 9) (as := [.int (xs (i + 1)), .int (xs (i + 2)), .int (xs (i + 3))]) (rest := []) C G hl.1 at_119 wl_170 wl_171 wl_172 wl_3 par_119 ckX9.1 rfl (hI0 μ hI) h1 e1 e2 rfl (Nat.le_of_ble_eq_true rfl) hcells hslots (show decode code 1286 = .ok (.invokevirtual 131, 3) by decide +kernel) (fun H1 locs1 G1 => ?_)
  refine lv_aload_n hx hb (show decode code 1289 = .ok (.aload_n 2, 1) by decide +kernel) rfl (lv_at hl 2 rfl) ?_
  refine lw_push 1290 1 C G1 hl (by omega) (show decode code 1290 = .ok (.aload_n 0, 1) by decide +kernel) (show decode code 1291 = .ok (.iload_n 3, 1) by decide +kernel) (show decode code 1292 = .ok (.iconst 1, 1) by decide +kernel) rfl (show decode code 1293 = .ok (.iadd, 1) by decide +kernel) (show decode code 1294 = .ok (.iaload, 1) by decide +kernel) ?_
  refine lw_push 1295 2 C G1 hl (by omega) (show decode code 1295 = .ok (.aload_n 0, 1) by decide +kernel) (show decode code 1296 = .ok (.iload_n 3, 1) by decide +kernel) (show decode code 1297 = .ok (.iconst 2, 1) by decide +kernel) rfl (show decode code 1298 = .ok (.iadd, 1) by decide +kernel) (show decode code 1299 = .ok (.iaload, 1) by decide +kernel) ?_
  refine lw_push 1300 3 C G1 hl (by omega) (show decode code 1300 = .ok (.aload_n 0, 1) by decide +kernel) (show decode code 1301 = .ok (.iload_n 3, 1) by decide +kernel) (show decode code 1302 = .ok (.iconst 3, 1) by decide +kernel) rfl (show decode code 1303 = .ok (.iadd, 1) by decide +kernel) (show decode code 1304 = .ok (.iaload, 1) by decide +kernel) ?_
  refine lw_call (j := 229) (na := 3) (rid := 88) (ci := 10) (as := [.int (xs (i + 1)), .int (xs (i + 2)), .int (xs (i + 3))]) (rest := [.int r]) C G1 hl.1 at_229 wl_173 wl_174 wl_175 wl_7 par_229 ckX10.1 rfl hk h2 (e3.trans e1.symm) (e4.trans e2.symm) rfl (Nat.le_of_ble_eq_true rfl) hcells hslots (show decode code 1305 = .ok (.invokevirtual 134, 3) by decide +kernel) (fun H2 locs2 G2 => ?_)
  refine lv_icmp_eq (tgt := 1672) hx hb (show decode code 1308 = .ok (.if_icmp .eq 364, 3) by decide +kernel) (by decide) (fun _ => ?_) (fun z => absurd rfl z)
  exact kk μ2 H2 locs2 h3 G2
/-- book -/
theorem lw_c29 {I : am_M → Prop} (hI0 : ∀ μ, I μ → am_is μ 0 11 = true) (hp : am_Pair I 120 3 230 3 2) (hI : I μ) (C : lw_Fx p s m c D cI cZ b L xs) (G : lw_G D cI cZ s μ H locs) (hl : lv_has ls 4 [(0, .ref b), (1, .ref (s.heap.size + 0)), (2, .ref (s.heap.size + 88)), (3, .int (nI i))]) (hik : i + 5 < L) (hcells : cells ≤ 600000) (hslots : slots ≤ 7302250)
    (kk : ∀ (μ2 : am_M) (H2 : Heap) (locs2 : List Loc), I μ2 → lw_G D cI cZ s μ2 H2 locs2 → W p l e room_1 s m #[Value.ref b] below meth c H2 locs2 cells slots Q (F0 m 1672 ls [])) : W p l e room_1 s m #[Value.ref b] below meth c H locs cells slots Q (F0 m 1313 ls []) := by
  obtain ⟨r, μ1, μ2, h1, h2, h3, e1, e2, e3, e4, hk⟩ := hp μ [xs (i + 1), xs (i + 2)] rfl hI
  obtain ⟨hx, hb, -⟩ := id C
  refine lv_aload_n hx hb (show decode code 1313 = .ok (.aload_n 1, 1) by decide +kernel) rfl (lv_at hl 1 rfl) ?_
  refine lw_push 1314 1 C G hl (by omega) (show decode code 1314 = .ok (.aload_n 0, 1) by decide +kernel) (show decode code 1315 = .ok (.iload_n 3, 1) by decide +kernel) (show decode code 1316 = .ok (.iconst 1, 1) by decide +kernel) rfl (show decode code 1317 = .ok (.iadd, 1) by decide +kernel) (show decode code 1318 = .ok (.iaload, 1) by decide +kernel) ?_
  refine lw_push 1319 2 C G hl (by omega) (show decode code 1319 = .ok (.aload_n 0, 1) by decide +kernel) (show decode code 1320 = .ok (.iload_n 3, 1) by decide +kernel) (show decode code 1321 = .ok (.iconst 2, 1) by decide +kernel) rfl (show decode code 1322 = .ok (.iadd, 1) by decide +kernel) (show decode code 1323 = .ok (.iaload, 1) by decide +kernel) ?_
  refine lw_call (j := 120) (na := 2) (rid := 0) (ci := 9) (as := [.int (xs (i + 1)), .int (xs (i + 2))]) (rest := []) C G hl.1 at_120 wl_176 wl_177 wl_178 wl_3 par_120 ckX9.1 rfl (hI0 μ hI) h1 e1 e2 rfl (Nat.le_of_ble_eq_true rfl) hcells hslots (show decode code 1324 = .ok (.invokevirtual 135, 3) by decide +kernel) (fun H1 locs1 G1 => ?_)
  refine lv_aload_n hx hb (show decode code 1327 = .ok (.aload_n 2, 1) by decide +kernel) rfl (lv_at hl 2 rfl) ?_
  refine lw_push 1328 1 C G1 hl (by omega) (show decode code 1328 = .ok (.aload_n 0, 1) by decide +kernel) (show decode code 1329 = .ok (.iload_n 3, 1) by decide +kernel) (show decode code 1330 = .ok (.iconst 1, 1) by decide +kernel) rfl (show decode code 1331 = .ok (.iadd, 1) by decide +kernel) (show decode code 1332 = .ok (.iaload, 1) by decide +kernel) ?_
  refine lw_push 1333 2 C G1 hl (by omega) (show decode code 1333 = .ok (.aload_n 0, 1) by decide +kernel) (show decode code 1334 = .ok (.iload_n 3, 1) by decide +kernel) (show decode code 1335 = .ok (.iconst 2, 1) by decide +kernel) rfl (show decode code 1336 = .ok (.iadd, 1) by decide +kernel) (show decode code 1337 = .ok (.iaload, 1) by decide +kernel) ?_
  refine lw_call (j := 230) (na := 2) (rid := 88) (ci := 10) (as := [.int (xs (i + 1)), .int (xs (i + 2))]) (rest := [.int r]) C G1 hl.1 at_230 wl_179 wl_180 wl_181 wl_7 par_230 ckX10.1 rfl hk h2 (e3.trans e1.symm) (e4.trans e2.symm) rfl (Nat.le_of_ble_eq_true rfl) hcells hslots (show decode code 1338 = .ok (.invokevirtual 138, 3) by decide +kernel) (fun H2 locs2 G2 => ?_)
  refine lv_icmp_eq (tgt := 1672) hx hb (show decode code 1341 = .ok (.if_icmp .eq 331, 3) by decide +kernel) (by decide) (fun _ => ?_) (fun z => absurd rfl z)
  exact kk μ2 H2 locs2 h3 G2
/-- shadowed -/
theorem lw_c30 {I : am_M → Prop} (hI0 : ∀ μ, I μ → am_is μ 0 11 = true) (hp : am_Pair I 121 3 231 3 1) (hI : I μ) (C : lw_Fx p s m c D cI cZ b L xs) (G : lw_G D cI cZ s μ H locs) (hl : lv_has ls 4 [(0, .ref b), (1, .ref (s.heap.size + 0)), (2, .ref (s.heap.size + 88)), (3, .int (nI i))]) (hik : i + 5 < L) (hcells : cells ≤ 600000) (hslots : slots ≤ 7302250)
    (kk : ∀ (μ2 : am_M) (H2 : Heap) (locs2 : List Loc), I μ2 → lw_G D cI cZ s μ2 H2 locs2 → W p l e room_1 s m #[Value.ref b] below meth c H2 locs2 cells slots Q (F0 m 1672 ls [])) : W p l e room_1 s m #[Value.ref b] below meth c H locs cells slots Q (F0 m 1346 ls []) := by
  obtain ⟨r, μ1, μ2, h1, h2, h3, e1, e2, e3, e4, hk⟩ := hp μ [xs (i + 1)] rfl hI
  obtain ⟨hx, hb, -⟩ := id C
  refine lv_aload_n hx hb (show decode code 1346 = .ok (.aload_n 1, 1) by decide +kernel) rfl (lv_at hl 1 rfl) ?_
  refine lw_push 1347 1 C G hl (by omega) (show decode code 1347 = .ok (.aload_n 0, 1) by decide +kernel) (show decode code 1348 = .ok (.iload_n 3, 1) by decide +kernel) (show decode code 1349 = .ok (.iconst 1, 1) by decide +kernel) rfl (show decode code 1350 = .ok (.iadd, 1) by decide +kernel) (show decode code 1351 = .ok (.iaload, 1) by decide +kernel) ?_
  refine lw_call (j := 121) (na := 1) (rid := 0) (ci := 9) (as := [.int (xs (i + 1))]) (rest := []) C G hl.1 at_121 wl_182 wl_183 wl_184 wl_3 par_121 ckX9.1 rfl (hI0 μ hI) h1 e1 e2 rfl (Nat.le_of_ble_eq_true rfl) hcells hslots (show decode code 1352 = .ok (.invokevirtual 139, 3) by decide +kernel) (fun H1 locs1 G1 => ?_)
  refine lv_aload_n hx hb (show decode code 1355 = .ok (.aload_n 2, 1) by decide +kernel) rfl (lv_at hl 2 rfl) ?_
  refine lw_push 1356 1 C G1 hl (by omega) (show decode code 1356 = .ok (.aload_n 0, 1) by decide +kernel) (show decode code 1357 = .ok (.iload_n 3, 1) by decide +kernel) (show decode code 1358 = .ok (.iconst 1, 1) by decide +kernel) rfl (show decode code 1359 = .ok (.iadd, 1) by decide +kernel) (show decode code 1360 = .ok (.iaload, 1) by decide +kernel) ?_
  refine lw_call (j := 231) (na := 1) (rid := 88) (ci := 10) (as := [.int (xs (i + 1))]) (rest := [.int r]) C G1 hl.1 at_231 wl_185 wl_186 wl_187 wl_7 par_231 ckX10.1 rfl hk h2 (e3.trans e1.symm) (e4.trans e2.symm) rfl (Nat.le_of_ble_eq_true rfl) hcells hslots (show decode code 1361 = .ok (.invokevirtual 142, 3) by decide +kernel) (fun H2 locs2 G2 => ?_)
  refine lv_icmp_eq (tgt := 1672) hx hb (show decode code 1364 = .ok (.if_icmp .eq 308, 3) by decide +kernel) (by decide) (fun _ => ?_) (fun z => absurd rfl z)
  exact kk μ2 H2 locs2 h3 G2
/-- clash -/
theorem lw_c31 {I : am_M → Prop} (hI0 : ∀ μ, I μ → am_is μ 0 11 = true) (hp : am_Pair I 123 5 234 5 2) (hI : I μ) (C : lw_Fx p s m c D cI cZ b L xs) (G : lw_G D cI cZ s μ H locs) (hl : lv_has ls 4 [(0, .ref b), (1, .ref (s.heap.size + 0)), (2, .ref (s.heap.size + 88)), (3, .int (nI i))]) (hik : i + 5 < L) (hcells : cells ≤ 600000) (hslots : slots ≤ 7302250)
    (kk : ∀ (μ2 : am_M) (H2 : Heap) (locs2 : List Loc), I μ2 → lw_G D cI cZ s μ2 H2 locs2 → W p l e room_1 s m #[Value.ref b] below meth c H2 locs2 cells slots Q (F0 m 1672 ls [])) : W p l e room_1 s m #[Value.ref b] below meth c H locs cells slots Q (F0 m 1369 ls []) := by
  obtain ⟨r, μ1, μ2, h1, h2, h3, e1, e2, e3, e4, hk⟩ := hp μ [xs (i + 1), xs (i + 2)] rfl hI
  obtain ⟨hx, hb, -⟩ := id C
  refine lv_aload_n hx hb (show decode code 1369 = .ok (.aload_n 1, 1) by decide +kernel) rfl (lv_at hl 1 rfl) ?_
  refine lw_push 1370 1 C G hl (by omega) (show decode code 1370 = .ok (.aload_n 0, 1) by decide +kernel) (show decode code 1371 = .ok (.iload_n 3, 1) by decide +kernel) (show decode code 1372 = .ok (.iconst 1, 1) by decide +kernel) rfl (show decode code 1373 = .ok (.iadd, 1) by decide +kernel) (show decode code 1374 = .ok (.iaload, 1) by decide +kernel) ?_
  refine lw_push 1375 2 C G hl (by omega) (show decode code 1375 = .ok (.aload_n 0, 1) by decide +kernel) (show decode code 1376 = .ok (.iload_n 3, 1) by decide +kernel) (show decode code 1377 = .ok (.iconst 2, 1) by decide +kernel) rfl (show decode code 1378 = .ok (.iadd, 1) by decide +kernel) (show decode code 1379 = .ok (.iaload, 1) by decide +kernel) ?_
  refine lw_call (j := 123) (na := 2) (rid := 0) (ci := 9) (as := [.int (xs (i + 1)), .int (xs (i + 2))]) (rest := []) C G hl.1 at_123 wl_188 wl_189 wl_190 wl_3 par_123 ckX9.1 rfl (hI0 μ hI) h1 e1 e2 rfl (Nat.le_of_ble_eq_true rfl) hcells hslots (show decode code 1380 = .ok (.invokevirtual 143, 3) by decide +kernel) (fun H1 locs1 G1 => ?_)
  refine lv_aload_n hx hb (show decode code 1383 = .ok (.aload_n 2, 1) by decide +kernel) rfl (lv_at hl 2 rfl) ?_
  refine lw_push 1384 1 C G1 hl (by omega) (show decode code 1384 = .ok (.aload_n 0, 1) by decide +kernel) (show decode code 1385 = .ok (.iload_n 3, 1) by decide +kernel) (show decode code 1386 = .ok (.iconst 1, 1) by decide +kernel) rfl (show decode code 1387 = .ok (.iadd, 1) by decide +kernel) (show decode code 1388 = .ok (.iaload, 1) by decide +kernel) ?_
  refine lw_push 1389 2 C G1 hl (by omega) (show decode code 1389 = .ok (.aload_n 0, 1) by decide +kernel) (show decode code 1390 = .ok (.iload_n 3, 1) by decide +kernel) (show decode code 1391 = .ok (.iconst 2, 1) by decide +kernel) rfl (show decode code 1392 = .ok (.iadd, 1) by decide +kernel) (show decode code 1393 = .ok (.iaload, 1) by decide +kernel) ?_
  refine lw_call (j := 234) (na := 2) (rid := 88) (ci := 10) (as := [.int (xs (i + 1)), .int (xs (i + 2))]) (rest := [.int r]) C G1 hl.1 at_234 wl_191 wl_192 wl_193 wl_7 par_234 ckX10.1 rfl hk h2 (e3.trans e1.symm) (e4.trans e2.symm) rfl (Nat.le_of_ble_eq_true rfl) hcells hslots (show decode code 1394 = .ok (.invokevirtual 146, 3) by decide +kernel) (fun H2 locs2 G2 => ?_)
  refine lv_icmp_eq (tgt := 1672) hx hb (show decode code 1397 = .ok (.if_icmp .eq 275, 3) by decide +kernel) (by decide) (fun _ => ?_) (fun z => absurd rfl z)
  exact kk μ2 H2 locs2 h3 G2
/-- join -/
theorem lw_c32 {I : am_M → Prop} (hI0 : ∀ μ, I μ → am_is μ 0 11 = true) (hp : am_Pair I 126 7 236 6 3) (hI : I μ) (C : lw_Fx p s m c D cI cZ b L xs) (G : lw_G D cI cZ s μ H locs) (hl : lv_has ls 4 [(0, .ref b), (1, .ref (s.heap.size + 0)), (2, .ref (s.heap.size + 88)), (3, .int (nI i))]) (hik : i + 5 < L) (hcells : cells ≤ 600000) (hslots : slots ≤ 7302250)
    (kk : ∀ (μ2 : am_M) (H2 : Heap) (locs2 : List Loc), I μ2 → lw_G D cI cZ s μ2 H2 locs2 → W p l e room_1 s m #[Value.ref b] below meth c H2 locs2 cells slots Q (F0 m 1672 ls [])) : W p l e room_1 s m #[Value.ref b] below meth c H locs cells slots Q (F0 m 1402 ls []) := by
  obtain ⟨r, μ1, μ2, h1, h2, h3, e1, e2, e3, e4, hk⟩ := hp μ [xs (i + 1), xs (i + 2), xs (i + 3)] rfl hI
  obtain ⟨hx, hb, -⟩ := id C
  refine lv_aload_n hx hb (show decode code 1402 = .ok (.aload_n 1, 1) by decide +kernel) rfl (lv_at hl 1 rfl) ?_
  refine lw_push 1403 1 C G hl (by omega) (show decode code 1403 = .ok (.aload_n 0, 1) by decide +kernel) (show decode code 1404 = .ok (.iload_n 3, 1) by decide +kernel) (show decode code 1405 = .ok (.iconst 1, 1) by decide +kernel) rfl (show decode code 1406 = .ok (.iadd, 1) by decide +kernel) (show decode code 1407 = .ok (.iaload, 1) by decide +kernel) ?_
  refine lw_push 1408 2 C G hl (by omega) (show decode code 1408 = .ok (.aload_n 0, 1) by decide +kernel) (show decode code 1409 = .ok (.iload_n 3, 1) by decide +kernel) (show decode code 1410 = .ok (.iconst 2, 1) by decide +kernel) rfl (show decode code 1411 = .ok (.iadd, 1) by decide +kernel) (show decode code 1412 = .ok (.iaload, 1) by decide +kernel) ?_
  refine lw_push 1413 3 C G hl (by omega) (show decode code 1413 = .ok (.aload_n 0, 1) by decide +kernel) (show decode code 1414 = .ok (.iload_n 3, 1) by decide +kernel) (show decode code 1415 = .ok (.iconst 3, 1) by decide +kernel) rfl (show decode code 1416 = .ok (.iadd, 1) by decide +kernel) (show decode code 1417 = .ok (.iaload, 1) by decide +kernel) ?_
  refine lw_call (j := 126) (na := 3) (rid := 0) (ci := 9) (as := [.int (xs (i + 1)), .int (xs (i + 2)), .int (xs (i + 3))]) (rest := []) C G hl.1 at_126 wl_194 wl_195 wl_196 wl_3 par_126 ckX9.1 rfl (hI0 μ hI) h1 e1 e2 rfl (Nat.le_of_ble_eq_true rfl) hcells hslots (show decode code 1418 = .ok (.invokevirtual 147, 3) by decide +kernel) (fun H1 locs1 G1 => ?_)
  refine lv_aload_n hx hb (show decode code 1421 = .ok (.aload_n 2, 1) by decide +kernel) rfl (lv_at hl 2 rfl) ?_
  refine lw_push 1422 1 C G1 hl (by omega) (show decode code 1422 = .ok (.aload_n 0, 1) by decide +kernel) (show decode code 1423 = .ok (.iload_n 3, 1) by decide +kernel) (show decode code 1424 = .ok (.iconst 1, 1) by decide +kernel) rfl (show decode code 1425 = .ok (.iadd, 1) by decide +kernel) (show decode code 1426 = .ok (.iaload, 1) by decide +kernel) ?_
  refine lw_push 1427 2 C G1 hl (by omega) (show decode code 1427 = .ok (.aload_n 0, 1) by decide +kernel) (show decode code 1428 = .ok (.iload_n 3, 1) by decide +kernel) (show decode code 1429 = .ok (.iconst 2, 1) by decide +kernel) rfl (show decode code 1430 = .ok (.iadd, 1) by decide +kernel) (show decode code 1431 = .ok (.iaload, 1) by decide +kernel) ?_
  refine lw_push 1432 3 C G1 hl (by omega) (show decode code 1432 = .ok (.aload_n 0, 1) by decide +kernel) (show decode code 1433 = .ok (.iload_n 3, 1) by decide +kernel) (show decode code 1434 = .ok (.iconst 3, 1) by decide +kernel) rfl (show decode code 1435 = .ok (.iadd, 1) by decide +kernel) (show decode code 1436 = .ok (.iaload, 1) by decide +kernel) ?_
  refine lw_call (j := 236) (na := 3) (rid := 88) (ci := 10) (as := [.int (xs (i + 1)), .int (xs (i + 2)), .int (xs (i + 3))]) (rest := [.int r]) C G1 hl.1 at_236 wl_197 wl_198 wl_199 wl_7 par_236 ckX10.1 rfl hk h2 (e3.trans e1.symm) (e4.trans e2.symm) rfl (Nat.le_of_ble_eq_true rfl) hcells hslots (show decode code 1437 = .ok (.invokevirtual 150, 3) by decide +kernel) (fun H2 locs2 G2 => ?_)
  refine lv_icmp_eq (tgt := 1672) hx hb (show decode code 1440 = .ok (.if_icmp .eq 232, 3) by decide +kernel) (by decide) (fun _ => ?_) (fun z => absurd rfl z)
  exact kk μ2 H2 locs2 h3 G2
/-- roles -/
theorem lw_c33 {I : am_M → Prop} (hI0 : ∀ μ, I μ → am_is μ 0 11 = true) (hp : am_Pair I 127 4 237 3 2) (hI : I μ) (C : lw_Fx p s m c D cI cZ b L xs) (G : lw_G D cI cZ s μ H locs) (hl : lv_has ls 4 [(0, .ref b), (1, .ref (s.heap.size + 0)), (2, .ref (s.heap.size + 88)), (3, .int (nI i))]) (hik : i + 5 < L) (hcells : cells ≤ 600000) (hslots : slots ≤ 7302250)
    (kk : ∀ (μ2 : am_M) (H2 : Heap) (locs2 : List Loc), I μ2 → lw_G D cI cZ s μ2 H2 locs2 → W p l e room_1 s m #[Value.ref b] below meth c H2 locs2 cells slots Q (F0 m 1672 ls [])) : W p l e room_1 s m #[Value.ref b] below meth c H locs cells slots Q (F0 m 1445 ls []) := by
  obtain ⟨r, μ1, μ2, h1, h2, h3, e1, e2, e3, e4, hk⟩ := hp μ [xs (i + 1), xs (i + 2)] rfl hI
  obtain ⟨hx, hb, -⟩ := id C
  refine lv_aload_n hx hb (show decode code 1445 = .ok (.aload_n 1, 1) by decide +kernel) rfl (lv_at hl 1 rfl) ?_
  refine lw_push 1446 1 C G hl (by omega) (show decode code 1446 = .ok (.aload_n 0, 1) by decide +kernel) (show decode code 1447 = .ok (.iload_n 3, 1) by decide +kernel) (show decode code 1448 = .ok (.iconst 1, 1) by decide +kernel) rfl (show decode code 1449 = .ok (.iadd, 1) by decide +kernel) (show decode code 1450 = .ok (.iaload, 1) by decide +kernel) ?_
  refine lw_push 1451 2 C G hl (by omega) (show decode code 1451 = .ok (.aload_n 0, 1) by decide +kernel) (show decode code 1452 = .ok (.iload_n 3, 1) by decide +kernel) (show decode code 1453 = .ok (.iconst 2, 1) by decide +kernel) rfl (show decode code 1454 = .ok (.iadd, 1) by decide +kernel) (show decode code 1455 = .ok (.iaload, 1) by decide +kernel) ?_
  refine lw_call (j := 127) (na := 2) (rid := 0) (ci := 9) (as := [.int (xs (i + 1)), .int (xs (i + 2))]) (rest := []) C G hl.1 at_127 wl_200 wl_201 wl_202 wl_3 par_127 ckX9.1 rfl (hI0 μ hI) h1 e1 e2 rfl (Nat.le_of_ble_eq_true rfl) hcells hslots (show decode code 1456 = .ok (.invokevirtual 151, 3) by decide +kernel) (fun H1 locs1 G1 => ?_)
  refine lv_aload_n hx hb (show decode code 1459 = .ok (.aload_n 2, 1) by decide +kernel) rfl (lv_at hl 2 rfl) ?_
  refine lw_push 1460 1 C G1 hl (by omega) (show decode code 1460 = .ok (.aload_n 0, 1) by decide +kernel) (show decode code 1461 = .ok (.iload_n 3, 1) by decide +kernel) (show decode code 1462 = .ok (.iconst 1, 1) by decide +kernel) rfl (show decode code 1463 = .ok (.iadd, 1) by decide +kernel) (show decode code 1464 = .ok (.iaload, 1) by decide +kernel) ?_
  refine lw_push 1465 2 C G1 hl (by omega) (show decode code 1465 = .ok (.aload_n 0, 1) by decide +kernel) (show decode code 1466 = .ok (.iload_n 3, 1) by decide +kernel) (show decode code 1467 = .ok (.iconst 2, 1) by decide +kernel) rfl (show decode code 1468 = .ok (.iadd, 1) by decide +kernel) (show decode code 1469 = .ok (.iaload, 1) by decide +kernel) ?_
  refine lw_call (j := 237) (na := 2) (rid := 88) (ci := 10) (as := [.int (xs (i + 1)), .int (xs (i + 2))]) (rest := [.int r]) C G1 hl.1 at_237 wl_203 wl_204 wl_205 wl_7 par_237 ckX10.1 rfl hk h2 (e3.trans e1.symm) (e4.trans e2.symm) rfl (Nat.le_of_ble_eq_true rfl) hcells hslots (show decode code 1470 = .ok (.invokevirtual 154, 3) by decide +kernel) (fun H2 locs2 G2 => ?_)
  refine lv_icmp_eq (tgt := 1672) hx hb (show decode code 1473 = .ok (.if_icmp .eq 199, 3) by decide +kernel) (by decide) (fun _ => ?_) (fun z => absurd rfl z)
  exact kk μ2 H2 locs2 h3 G2
/-- level -/
theorem lw_c34 {I : am_M → Prop} (hI0 : ∀ μ, I μ → am_is μ 0 11 = true) (hp : am_Pair I 128 2 238 2 1) (hI : I μ) (C : lw_Fx p s m c D cI cZ b L xs) (G : lw_G D cI cZ s μ H locs) (hl : lv_has ls 4 [(0, .ref b), (1, .ref (s.heap.size + 0)), (2, .ref (s.heap.size + 88)), (3, .int (nI i))]) (hik : i + 5 < L) (hcells : cells ≤ 600000) (hslots : slots ≤ 7302250)
    (kk : ∀ (μ2 : am_M) (H2 : Heap) (locs2 : List Loc), I μ2 → lw_G D cI cZ s μ2 H2 locs2 → W p l e room_1 s m #[Value.ref b] below meth c H2 locs2 cells slots Q (F0 m 1672 ls [])) : W p l e room_1 s m #[Value.ref b] below meth c H locs cells slots Q (F0 m 1478 ls []) := by
  obtain ⟨r, μ1, μ2, h1, h2, h3, e1, e2, e3, e4, hk⟩ := hp μ [xs (i + 1)] rfl hI
  obtain ⟨hx, hb, -⟩ := id C
  refine lv_aload_n hx hb (show decode code 1478 = .ok (.aload_n 1, 1) by decide +kernel) rfl (lv_at hl 1 rfl) ?_
  refine lw_push 1479 1 C G hl (by omega) (show decode code 1479 = .ok (.aload_n 0, 1) by decide +kernel) (show decode code 1480 = .ok (.iload_n 3, 1) by decide +kernel) (show decode code 1481 = .ok (.iconst 1, 1) by decide +kernel) rfl (show decode code 1482 = .ok (.iadd, 1) by decide +kernel) (show decode code 1483 = .ok (.iaload, 1) by decide +kernel) ?_
  refine lw_call (j := 128) (na := 1) (rid := 0) (ci := 9) (as := [.int (xs (i + 1))]) (rest := []) C G hl.1 at_128 wl_206 wl_207 wl_208 wl_3 par_128 ckX9.1 rfl (hI0 μ hI) h1 e1 e2 rfl (Nat.le_of_ble_eq_true rfl) hcells hslots (show decode code 1484 = .ok (.invokevirtual 155, 3) by decide +kernel) (fun H1 locs1 G1 => ?_)
  refine lv_aload_n hx hb (show decode code 1487 = .ok (.aload_n 2, 1) by decide +kernel) rfl (lv_at hl 2 rfl) ?_
  refine lw_push 1488 1 C G1 hl (by omega) (show decode code 1488 = .ok (.aload_n 0, 1) by decide +kernel) (show decode code 1489 = .ok (.iload_n 3, 1) by decide +kernel) (show decode code 1490 = .ok (.iconst 1, 1) by decide +kernel) rfl (show decode code 1491 = .ok (.iadd, 1) by decide +kernel) (show decode code 1492 = .ok (.iaload, 1) by decide +kernel) ?_
  refine lw_call (j := 238) (na := 1) (rid := 88) (ci := 10) (as := [.int (xs (i + 1))]) (rest := [.int r]) C G1 hl.1 at_238 wl_209 wl_210 wl_211 wl_7 par_238 ckX10.1 rfl hk h2 (e3.trans e1.symm) (e4.trans e2.symm) rfl (Nat.le_of_ble_eq_true rfl) hcells hslots (show decode code 1493 = .ok (.invokevirtual 158, 3) by decide +kernel) (fun H2 locs2 G2 => ?_)
  refine lv_icmp_eq (tgt := 1672) hx hb (show decode code 1496 = .ok (.if_icmp .eq 176, 3) by decide +kernel) (by decide) (fun _ => ?_) (fun z => absurd rfl z)
  exact kk μ2 H2 locs2 h3 G2
/-- chain -/
theorem lw_c35 {I : am_M → Prop} (hI0 : ∀ μ, I μ → am_is μ 0 11 = true) (hp : am_Pair I 130 5 240 6 3) (hI : I μ) (C : lw_Fx p s m c D cI cZ b L xs) (G : lw_G D cI cZ s μ H locs) (hl : lv_has ls 4 [(0, .ref b), (1, .ref (s.heap.size + 0)), (2, .ref (s.heap.size + 88)), (3, .int (nI i))]) (hik : i + 5 < L) (hcells : cells ≤ 600000) (hslots : slots ≤ 7302250)
    (kk : ∀ (μ2 : am_M) (H2 : Heap) (locs2 : List Loc), I μ2 → lw_G D cI cZ s μ2 H2 locs2 → W p l e room_1 s m #[Value.ref b] below meth c H2 locs2 cells slots Q (F0 m 1672 ls [])) : W p l e room_1 s m #[Value.ref b] below meth c H locs cells slots Q (F0 m 1501 ls []) := by
  obtain ⟨r, μ1, μ2, h1, h2, h3, e1, e2, e3, e4, hk⟩ := hp μ [xs (i + 1), xs (i + 2), xs (i + 3)] rfl hI
  obtain ⟨hx, hb, -⟩ := id C
  refine lv_aload_n hx hb (show decode code 1501 = .ok (.aload_n 1, 1) by decide +kernel) rfl (lv_at hl 1 rfl) ?_
  refine lw_push 1502 1 C G hl (by omega) (show decode code 1502 = .ok (.aload_n 0, 1) by decide +kernel) (show decode code 1503 = .ok (.iload_n 3, 1) by decide +kernel) (show decode code 1504 = .ok (.iconst 1, 1) by decide +kernel) rfl (show decode code 1505 = .ok (.iadd, 1) by decide +kernel) (show decode code 1506 = .ok (.iaload, 1) by decide +kernel) ?_
  refine lw_push 1507 2 C G hl (by omega) (show decode code 1507 = .ok (.aload_n 0, 1) by decide +kernel) (show decode code 1508 = .ok (.iload_n 3, 1) by decide +kernel) (show decode code 1509 = .ok (.iconst 2, 1) by decide +kernel) rfl (show decode code 1510 = .ok (.iadd, 1) by decide +kernel) (show decode code 1511 = .ok (.iaload, 1) by decide +kernel) ?_
  refine lw_push 1512 3 C G hl (by omega) (show decode code 1512 = .ok (.aload_n 0, 1) by decide +kernel) (show decode code 1513 = .ok (.iload_n 3, 1) by decide +kernel) (show decode code 1514 = .ok (.iconst 3, 1) by decide +kernel) rfl (show decode code 1515 = .ok (.iadd, 1) by decide +kernel) (show decode code 1516 = .ok (.iaload, 1) by decide +kernel) ?_
  refine lw_call (j := 130) (na := 3) (rid := 0) (ci := 9) (as := [.int (xs (i + 1)), .int (xs (i + 2)), .int (xs (i + 3))]) (rest := []) C G hl.1 at_130 wl_212 wl_213 wl_214 wl_3 par_130 ckX9.1 rfl (hI0 μ hI) h1 e1 e2 rfl (Nat.le_of_ble_eq_true rfl) hcells hslots (show decode code 1517 = .ok (.invokevirtual 159, 3) by decide +kernel) (fun H1 locs1 G1 => ?_)
  refine lv_aload_n hx hb (show decode code 1520 = .ok (.aload_n 2, 1) by decide +kernel) rfl (lv_at hl 2 rfl) ?_
  refine lw_push 1521 1 C G1 hl (by omega) (show decode code 1521 = .ok (.aload_n 0, 1) by decide +kernel) (show decode code 1522 = .ok (.iload_n 3, 1) by decide +kernel) (show decode code 1523 = .ok (.iconst 1, 1) by decide +kernel) rfl (show decode code 1524 = .ok (.iadd, 1) by decide +kernel) (show decode code 1525 = .ok (.iaload, 1) by decide +kernel) ?_
  refine lw_push 1526 2 C G1 hl (by omega) (show decode code 1526 = .ok (.aload_n 0, 1) by decide +kernel) (show decode code 1527 = .ok (.iload_n 3, 1) by decide +kernel) (show decode code 1528 = .ok (.iconst 2, 1) by decide +kernel) rfl (show decode code 1529 = .ok (.iadd, 1) by decide +kernel) (show decode code 1530 = .ok (.iaload, 1) by decide +kernel) ?_
  refine lw_push 1531 3 C G1 hl (by omega) (show decode code 1531 = .ok (.aload_n 0, 1) by decide +kernel) (show decode code 1532 = .ok (.iload_n 3, 1) by decide +kernel) (show decode code 1533 = .ok (.iconst 3, 1) by decide +kernel) rfl (show decode code 1534 = .ok (.iadd, 1) by decide +kernel) (show decode code 1535 = .ok (.iaload, 1) by decide +kernel) ?_
  refine lw_call (j := 240) (na := 3) (rid := 88) (ci := 10) (as := [.int (xs (i + 1)), .int (xs (i + 2)), .int (xs (i + 3))]) (rest := [.int r]) C G1 hl.1 at_240 wl_215 wl_216 wl_217 wl_7 par_240 ckX10.1 rfl hk h2 (e3.trans e1.symm) (e4.trans e2.symm) rfl (Nat.le_of_ble_eq_true rfl) hcells hslots (show decode code 1536 = .ok (.invokevirtual 162, 3) by decide +kernel) (fun H2 locs2 G2 => ?_)
  refine lv_icmp_eq (tgt := 1672) hx hb (show decode code 1539 = .ok (.if_icmp .eq 133, 3) by decide +kernel) (by decide) (fun _ => ?_) (fun z => absurd rfl z)
  exact kk μ2 H2 locs2 h3 G2
/-- under -/
theorem lw_c36 {I : am_M → Prop} (hI0 : ∀ μ, I μ → am_is μ 0 11 = true) (hp : am_Pair I 131 4 241 4 1) (hI : I μ) (C : lw_Fx p s m c D cI cZ b L xs) (G : lw_G D cI cZ s μ H locs) (hl : lv_has ls 4 [(0, .ref b), (1, .ref (s.heap.size + 0)), (2, .ref (s.heap.size + 88)), (3, .int (nI i))]) (hik : i + 5 < L) (hcells : cells ≤ 600000) (hslots : slots ≤ 7302250)
    (kk : ∀ (μ2 : am_M) (H2 : Heap) (locs2 : List Loc), I μ2 → lw_G D cI cZ s μ2 H2 locs2 → W p l e room_1 s m #[Value.ref b] below meth c H2 locs2 cells slots Q (F0 m 1672 ls [])) : W p l e room_1 s m #[Value.ref b] below meth c H locs cells slots Q (F0 m 1544 ls []) := by
  obtain ⟨r, μ1, μ2, h1, h2, h3, e1, e2, e3, e4, hk⟩ := hp μ [xs (i + 1)] rfl hI
  obtain ⟨hx, hb, -⟩ := id C
  refine lv_aload_n hx hb (show decode code 1544 = .ok (.aload_n 1, 1) by decide +kernel) rfl (lv_at hl 1 rfl) ?_
  refine lw_push 1545 1 C G hl (by omega) (show decode code 1545 = .ok (.aload_n 0, 1) by decide +kernel) (show decode code 1546 = .ok (.iload_n 3, 1) by decide +kernel) (show decode code 1547 = .ok (.iconst 1, 1) by decide +kernel) rfl (show decode code 1548 = .ok (.iadd, 1) by decide +kernel) (show decode code 1549 = .ok (.iaload, 1) by decide +kernel) ?_
  refine lw_call (j := 131) (na := 1) (rid := 0) (ci := 9) (as := [.int (xs (i + 1))]) (rest := []) C G hl.1 at_131 wl_218 wl_219 wl_220 wl_3 par_131 ckX9.1 rfl (hI0 μ hI) h1 e1 e2 rfl (Nat.le_of_ble_eq_true rfl) hcells hslots (show decode code 1550 = .ok (.invokevirtual 163, 3) by decide +kernel) (fun H1 locs1 G1 => ?_)
  refine lv_aload_n hx hb (show decode code 1553 = .ok (.aload_n 2, 1) by decide +kernel) rfl (lv_at hl 2 rfl) ?_
  refine lw_push 1554 1 C G1 hl (by omega) (show decode code 1554 = .ok (.aload_n 0, 1) by decide +kernel) (show decode code 1555 = .ok (.iload_n 3, 1) by decide +kernel) (show decode code 1556 = .ok (.iconst 1, 1) by decide +kernel) rfl (show decode code 1557 = .ok (.iadd, 1) by decide +kernel) (show decode code 1558 = .ok (.iaload, 1) by decide +kernel) ?_
  refine lw_call (j := 241) (na := 1) (rid := 88) (ci := 10) (as := [.int (xs (i + 1))]) (rest := [.int r]) C G1 hl.1 at_241 wl_221 wl_222 wl_223 wl_7 par_241 ckX10.1 rfl hk h2 (e3.trans e1.symm) (e4.trans e2.symm) rfl (Nat.le_of_ble_eq_true rfl) hcells hslots (show decode code 1559 = .ok (.invokevirtual 166, 3) by decide +kernel) (fun H2 locs2 G2 => ?_)
  refine lv_icmp_eq (tgt := 1672) hx hb (show decode code 1562 = .ok (.if_icmp .eq 110, 3) by decide +kernel) (by decide) (fun _ => ?_) (fun z => absurd rfl z)
  exact kk μ2 H2 locs2 h3 G2
/-- decides -/
theorem lw_c37 {I : am_M → Prop} (hI0 : ∀ μ, I μ → am_is μ 0 11 = true) (hp : am_Pair I 132 9 242 8 2) (hI : I μ) (C : lw_Fx p s m c D cI cZ b L xs) (G : lw_G D cI cZ s μ H locs) (hl : lv_has ls 4 [(0, .ref b), (1, .ref (s.heap.size + 0)), (2, .ref (s.heap.size + 88)), (3, .int (nI i))]) (hik : i + 5 < L) (hcells : cells ≤ 600000) (hslots : slots ≤ 7302250)
    (kk : ∀ (μ2 : am_M) (H2 : Heap) (locs2 : List Loc), I μ2 → lw_G D cI cZ s μ2 H2 locs2 → W p l e room_1 s m #[Value.ref b] below meth c H2 locs2 cells slots Q (F0 m 1672 ls [])) : W p l e room_1 s m #[Value.ref b] below meth c H locs cells slots Q (F0 m 1567 ls []) := by
  obtain ⟨r, μ1, μ2, h1, h2, h3, e1, e2, e3, e4, hk⟩ := hp μ [xs (i + 1), xs (i + 2)] rfl hI
  obtain ⟨hx, hb, -⟩ := id C
  refine lv_aload_n hx hb (show decode code 1567 = .ok (.aload_n 1, 1) by decide +kernel) rfl (lv_at hl 1 rfl) ?_
  refine lw_push 1568 1 C G hl (by omega) (show decode code 1568 = .ok (.aload_n 0, 1) by decide +kernel) (show decode code 1569 = .ok (.iload_n 3, 1) by decide +kernel) (show decode code 1570 = .ok (.iconst 1, 1) by decide +kernel) rfl (show decode code 1571 = .ok (.iadd, 1) by decide +kernel) (show decode code 1572 = .ok (.iaload, 1) by decide +kernel) ?_
  refine lw_push 1573 2 C G hl (by omega) (show decode code 1573 = .ok (.aload_n 0, 1) by decide +kernel) (show decode code 1574 = .ok (.iload_n 3, 1) by decide +kernel) (show decode code 1575 = .ok (.iconst 2, 1) by decide +kernel) rfl (show decode code 1576 = .ok (.iadd, 1) by decide +kernel) (show decode code 1577 = .ok (.iaload, 1) by decide +kernel) ?_
  refine lw_call (j := 132) (na := 2) (rid := 0) (ci := 9) (as := [.int (xs (i + 1)), .int (xs (i + 2))]) (rest := []) C G hl.1 at_132 wl_224 wl_225 wl_226 wl_3 par_132 ckX9.1 rfl (hI0 μ hI) h1 e1 e2 rfl (Nat.le_of_ble_eq_true rfl) hcells hslots (show decode code 1578 = .ok (.invokevirtual 167, 3) by decide +kernel) (fun H1 locs1 G1 => ?_)
  refine lv_aload_n hx hb (show decode code 1581 = .ok (.aload_n 2, 1) by decide +kernel) rfl (lv_at hl 2 rfl) ?_
  refine lw_push 1582 1 C G1 hl (by omega) (show decode code 1582 = .ok (.aload_n 0, 1) by decide +kernel) (show decode code 1583 = .ok (.iload_n 3, 1) by decide +kernel) (show decode code 1584 = .ok (.iconst 1, 1) by decide +kernel) rfl (show decode code 1585 = .ok (.iadd, 1) by decide +kernel) (show decode code 1586 = .ok (.iaload, 1) by decide +kernel) ?_
  refine lw_push 1587 2 C G1 hl (by omega) (show decode code 1587 = .ok (.aload_n 0, 1) by decide +kernel) (show decode code 1588 = .ok (.iload_n 3, 1) by decide +kernel) (show decode code 1589 = .ok (.iconst 2, 1) by decide +kernel) rfl (show decode code 1590 = .ok (.iadd, 1) by decide +kernel) (show decode code 1591 = .ok (.iaload, 1) by decide +kernel) ?_
  refine lw_call (j := 242) (na := 2) (rid := 88) (ci := 10) (as := [.int (xs (i + 1)), .int (xs (i + 2))]) (rest := [.int r]) C G1 hl.1 at_242 wl_227 wl_228 wl_229 wl_7 par_242 ckX10.1 rfl hk h2 (e3.trans e1.symm) (e4.trans e2.symm) rfl (Nat.le_of_ble_eq_true rfl) hcells hslots (show decode code 1592 = .ok (.invokevirtual 170, 3) by decide +kernel) (fun H2 locs2 G2 => ?_)
  refine lv_icmp_eq (tgt := 1672) hx hb (show decode code 1595 = .ok (.if_icmp .eq 77, 3) by decide +kernel) (by decide) (fun _ => ?_) (fun z => absurd rfl z)
  exact kk μ2 H2 locs2 h3 G2
/-- since -/
theorem lw_c38 {I : am_M → Prop} (hI0 : ∀ μ, I μ → am_is μ 0 11 = true) (hp : am_Pair I 134 6 243 5 1) (hI : I μ) (C : lw_Fx p s m c D cI cZ b L xs) (G : lw_G D cI cZ s μ H locs) (hl : lv_has ls 4 [(0, .ref b), (1, .ref (s.heap.size + 0)), (2, .ref (s.heap.size + 88)), (3, .int (nI i))]) (hik : i + 5 < L) (hcells : cells ≤ 600000) (hslots : slots ≤ 7302250)
    (kk : ∀ (μ2 : am_M) (H2 : Heap) (locs2 : List Loc), I μ2 → lw_G D cI cZ s μ2 H2 locs2 → W p l e room_1 s m #[Value.ref b] below meth c H2 locs2 cells slots Q (F0 m 1672 ls [])) : W p l e room_1 s m #[Value.ref b] below meth c H locs cells slots Q (F0 m 1600 ls []) := by
  obtain ⟨r, μ1, μ2, h1, h2, h3, e1, e2, e3, e4, hk⟩ := hp μ [xs (i + 1)] rfl hI
  obtain ⟨hx, hb, -⟩ := id C
  refine lv_aload_n hx hb (show decode code 1600 = .ok (.aload_n 1, 1) by decide +kernel) rfl (lv_at hl 1 rfl) ?_
  refine lw_push 1601 1 C G hl (by omega) (show decode code 1601 = .ok (.aload_n 0, 1) by decide +kernel) (show decode code 1602 = .ok (.iload_n 3, 1) by decide +kernel) (show decode code 1603 = .ok (.iconst 1, 1) by decide +kernel) rfl (show decode code 1604 = .ok (.iadd, 1) by decide +kernel) (show decode code 1605 = .ok (.iaload, 1) by decide +kernel) ?_
  refine lw_call (j := 134) (na := 1) (rid := 0) (ci := 9) (as := [.int (xs (i + 1))]) (rest := []) C G hl.1 at_134 wl_230 wl_231 wl_232 wl_3 par_134 ckX9.1 rfl (hI0 μ hI) h1 e1 e2 rfl (Nat.le_of_ble_eq_true rfl) hcells hslots (show decode code 1606 = .ok (.invokevirtual 171, 3) by decide +kernel) (fun H1 locs1 G1 => ?_)
  refine lv_aload_n hx hb (show decode code 1609 = .ok (.aload_n 2, 1) by decide +kernel) rfl (lv_at hl 2 rfl) ?_
  refine lw_push 1610 1 C G1 hl (by omega) (show decode code 1610 = .ok (.aload_n 0, 1) by decide +kernel) (show decode code 1611 = .ok (.iload_n 3, 1) by decide +kernel) (show decode code 1612 = .ok (.iconst 1, 1) by decide +kernel) rfl (show decode code 1613 = .ok (.iadd, 1) by decide +kernel) (show decode code 1614 = .ok (.iaload, 1) by decide +kernel) ?_
  refine lw_call (j := 243) (na := 1) (rid := 88) (ci := 10) (as := [.int (xs (i + 1))]) (rest := [.int r]) C G1 hl.1 at_243 wl_233 wl_234 wl_235 wl_7 par_243 ckX10.1 rfl hk h2 (e3.trans e1.symm) (e4.trans e2.symm) rfl (Nat.le_of_ble_eq_true rfl) hcells hslots (show decode code 1615 = .ok (.invokevirtual 174, 3) by decide +kernel) (fun H2 locs2 G2 => ?_)
  refine lv_icmp_eq (tgt := 1672) hx hb (show decode code 1618 = .ok (.if_icmp .eq 54, 3) by decide +kernel) (by decide) (fun _ => ?_) (fun z => absurd rfl z)
  exact kk μ2 H2 locs2 h3 G2
/-- image -/
theorem lw_c39 {I : am_M → Prop} (hI0 : ∀ μ, I μ → am_is μ 0 11 = true) (hp : am_Pair I 136 1 245 1 0) (hI : I μ) (C : lw_Fx p s m c D cI cZ b L xs) (G : lw_G D cI cZ s μ H locs) (hl : lv_has ls 4 [(0, .ref b), (1, .ref (s.heap.size + 0)), (2, .ref (s.heap.size + 88)), (3, .int (nI i))]) (hik : i + 5 < L) (hcells : cells ≤ 600000) (hslots : slots ≤ 7302250)
    (kk : ∀ (μ2 : am_M) (H2 : Heap) (locs2 : List Loc), I μ2 → lw_G D cI cZ s μ2 H2 locs2 → W p l e room_1 s m #[Value.ref b] below meth c H2 locs2 cells slots Q (F0 m 1672 ls [])) : W p l e room_1 s m #[Value.ref b] below meth c H locs cells slots Q (F0 m 1623 ls []) := by
  obtain ⟨r, μ1, μ2, h1, h2, h3, e1, e2, e3, e4, hk⟩ := hp μ [] rfl hI
  obtain ⟨hx, hb, -⟩ := id C
  refine lv_aload_n hx hb (show decode code 1623 = .ok (.aload_n 1, 1) by decide +kernel) rfl (lv_at hl 1 rfl) ?_
  refine lw_call (j := 136) (na := 0) (rid := 0) (ci := 9) (as := []) (rest := []) C G hl.1 at_136 wl_236 wl_237 wl_238 wl_3 par_136 ckX9.1 rfl (hI0 μ hI) h1 e1 e2 rfl (Nat.le_of_ble_eq_true rfl) hcells hslots (show decode code 1624 = .ok (.invokevirtual 175, 3) by decide +kernel) (fun H1 locs1 G1 => ?_)
  refine lv_aload_n hx hb (show decode code 1627 = .ok (.aload_n 2, 1) by decide +kernel) rfl (lv_at hl 2 rfl) ?_
  refine lw_call (j := 245) (na := 0) (rid := 88) (ci := 10) (as := []) (rest := [.int r]) C G1 hl.1 at_245 wl_239 wl_240 wl_241 wl_7 par_245 ckX10.1 rfl hk h2 (e3.trans e1.symm) (e4.trans e2.symm) rfl (Nat.le_of_ble_eq_true rfl) hcells hslots (show decode code 1628 = .ok (.invokevirtual 178, 3) by decide +kernel) (fun H2 locs2 G2 => ?_)
  refine lv_icmp_eq (tgt := 1672) hx hb (show decode code 1631 = .ok (.if_icmp .eq 41, 3) by decide +kernel) (by decide) (fun _ => ?_) (fun z => absurd rfl z)
  exact kk μ2 H2 locs2 h3 G2
/-- back -/
theorem lw_c40 {I : am_M → Prop} (hI0 : ∀ μ, I μ → am_is μ 0 11 = true) (hp : am_Pair I 141 1 246 1 0) (hI : I μ) (C : lw_Fx p s m c D cI cZ b L xs) (G : lw_G D cI cZ s μ H locs) (hl : lv_has ls 4 [(0, .ref b), (1, .ref (s.heap.size + 0)), (2, .ref (s.heap.size + 88)), (3, .int (nI i))]) (hik : i + 5 < L) (hcells : cells ≤ 600000) (hslots : slots ≤ 7302250)
    (kk : ∀ (μ2 : am_M) (H2 : Heap) (locs2 : List Loc), I μ2 → lw_G D cI cZ s μ2 H2 locs2 → W p l e room_1 s m #[Value.ref b] below meth c H2 locs2 cells slots Q (F0 m 1672 ls [])) : W p l e room_1 s m #[Value.ref b] below meth c H locs cells slots Q (F0 m 1636 ls []) := by
  obtain ⟨r, μ1, μ2, h1, h2, h3, e1, e2, e3, e4, hk⟩ := hp μ [] rfl hI
  obtain ⟨hx, hb, -⟩ := id C
  refine lv_aload_n hx hb (show decode code 1636 = .ok (.aload_n 1, 1) by decide +kernel) rfl (lv_at hl 1 rfl) ?_
  refine lw_call (j := 141) (na := 0) (rid := 0) (ci := 9) (as := []) (rest := []) C G hl.1 at_141 wl_242 wl_243 wl_244 wl_3 par_141 ckX9.1 rfl (hI0 μ hI) h1 e1 e2 rfl (Nat.le_of_ble_eq_true rfl) hcells hslots (show decode code 1637 = .ok (.invokevirtual 179, 3) by decide +kernel) (fun H1 locs1 G1 => ?_)
  refine lv_aload_n hx hb (show decode code 1640 = .ok (.aload_n 2, 1) by decide +kernel) rfl (lv_at hl 2 rfl) ?_
  refine lw_call (j := 246) (na := 0) (rid := 88) (ci := 10) (as := []) (rest := [.int r]) C G1 hl.1 at_246 wl_245 wl_246 wl_247 wl_7 par_246 ckX10.1 rfl hk h2 (e3.trans e1.symm) (e4.trans e2.symm) rfl (Nat.le_of_ble_eq_true rfl) hcells hslots (show decode code 1641 = .ok (.invokevirtual 182, 3) by decide +kernel) (fun H2 locs2 G2 => ?_)
  refine lv_icmp_eq (tgt := 1672) hx hb (show decode code 1644 = .ok (.if_icmp .eq 28, 3) by decide +kernel) (by decide) (fun _ => ?_) (fun z => absurd rfl z)
  exact kk μ2 H2 locs2 h3 G2
/-- count -/
theorem lw_c41 {I : am_M → Prop} (hI0 : ∀ μ, I μ → am_is μ 0 11 = true) (hp : am_Pair I 142 2 247 2 1) (hI : I μ) (C : lw_Fx p s m c D cI cZ b L xs) (G : lw_G D cI cZ s μ H locs) (hl : lv_has ls 4 [(0, .ref b), (1, .ref (s.heap.size + 0)), (2, .ref (s.heap.size + 88)), (3, .int (nI i))]) (hik : i + 5 < L) (hcells : cells ≤ 600000) (hslots : slots ≤ 7302250)
    (kk : ∀ (μ2 : am_M) (H2 : Heap) (locs2 : List Loc), I μ2 → lw_G D cI cZ s μ2 H2 locs2 → W p l e room_1 s m #[Value.ref b] below meth c H2 locs2 cells slots Q (F0 m 1672 ls [])) : W p l e room_1 s m #[Value.ref b] below meth c H locs cells slots Q (F0 m 1649 ls []) := by
  obtain ⟨r, μ1, μ2, h1, h2, h3, e1, e2, e3, e4, hk⟩ := hp μ [xs (i + 1)] rfl hI
  obtain ⟨hx, hb, -⟩ := id C
  refine lv_aload_n hx hb (show decode code 1649 = .ok (.aload_n 1, 1) by decide +kernel) rfl (lv_at hl 1 rfl) ?_
  refine lw_push 1650 1 C G hl (by omega) (show decode code 1650 = .ok (.aload_n 0, 1) by decide +kernel) (show decode code 1651 = .ok (.iload_n 3, 1) by decide +kernel) (show decode code 1652 = .ok (.iconst 1, 1) by decide +kernel) rfl (show decode code 1653 = .ok (.iadd, 1) by decide +kernel) (show decode code 1654 = .ok (.iaload, 1) by decide +kernel) ?_
  refine lw_call (j := 142) (na := 1) (rid := 0) (ci := 9) (as := [.int (xs (i + 1))]) (rest := []) C G hl.1 at_142 wl_248 wl_249 wl_250 wl_3 par_142 ckX9.1 rfl (hI0 μ hI) h1 e1 e2 rfl (Nat.le_of_ble_eq_true rfl) hcells hslots (show decode code 1655 = .ok (.invokevirtual 183, 3) by decide +kernel) (fun H1 locs1 G1 => ?_)
  refine lv_aload_n hx hb (show decode code 1658 = .ok (.aload_n 2, 1) by decide +kernel) rfl (lv_at hl 2 rfl) ?_
  refine lw_push 1659 1 C G1 hl (by omega) (show decode code 1659 = .ok (.aload_n 0, 1) by decide +kernel) (show decode code 1660 = .ok (.iload_n 3, 1) by decide +kernel) (show decode code 1661 = .ok (.iconst 1, 1) by decide +kernel) rfl (show decode code 1662 = .ok (.iadd, 1) by decide +kernel) (show decode code 1663 = .ok (.iaload, 1) by decide +kernel) ?_
  refine lw_call (j := 247) (na := 1) (rid := 88) (ci := 10) (as := [.int (xs (i + 1))]) (rest := [.int r]) C G1 hl.1 at_247 wl_251 wl_252 wl_253 wl_7 par_247 ckX10.1 rfl hk h2 (e3.trans e1.symm) (e4.trans e2.symm) rfl (Nat.le_of_ble_eq_true rfl) hcells hslots (show decode code 1664 = .ok (.invokevirtual 186, 3) by decide +kernel) (fun H2 locs2 G2 => ?_)
  refine lv_icmp_eq (tgt := 1672) hx hb (show decode code 1667 = .ok (.if_icmp .eq 5, 3) by decide +kernel) (by decide) (fun _ => ?_) (fun z => absurd rfl z)
  exact kk μ2 H2 locs2 h3 G2
end
def am_Laws (I : am_M → Prop) : Prop := am_Pair I 12 8 146 7 4 ∧ am_Pair I 16 4 149 4 2 ∧ am_Pair I 18 4 151 4 3 ∧ am_Pair I 31 5 161 4 3 ∧ am_Pair I 34 4 163 4 3 ∧ am_Pair I 36 2 164 2 1 ∧ am_Pair I 37 9 165 9 5 ∧ am_Pair I 40 3 167 3 1 ∧ am_Pair I 43 4 169 3 2 ∧ am_Pair I 44 3 170 3 2 ∧ am_Pair I 45 2 171 2 1 ∧ am_Pair I 46 12 172 9 5 ∧ am_Pair I 65 2 188 2 1 ∧ am_Pair I 67 4 192 3 2 ∧ am_Pair I 68 3 193 3 2 ∧ am_Pair I 69 3 194 2 1 ∧ am_Pair I 70 4 195 4 0 ∧ am_Pair I 74 6 196 5 3 ∧ am_Pair I 96 3 209 3 2 ∧ am_Pair I 97 4 210 4 3 ∧ am_Pair I 99 5 212 5 2 ∧ am_Pair I 101 6 213 7 3 ∧ am_Pair I 102 7 214 5 4 ∧ am_Pair I 111 6 223 5 3 ∧ am_Pair I 112 6 222 5 4 ∧ am_Pair I 115 9 225 7 4 ∧ am_Pair I 116 5 226 5 2 ∧ am_Pair I 118 5 228 4 1 ∧ am_Pair I 119 8 229 6 3 ∧ am_Pair I 120 3 230 3 2 ∧ am_Pair I 121 3 231 3 1 ∧ am_Pair I 123 5 234 5 2 ∧ am_Pair I 126 7 236 6 3 ∧ am_Pair I 127 4 237 3 2 ∧ am_Pair I 128 2 238 2 1 ∧ am_Pair I 130 5 240 6 3 ∧ am_Pair I 131 4 241 4 1 ∧ am_Pair I 132 9 242 8 2 ∧ am_Pair I 134 6 243 5 1 ∧ am_Pair I 136 1 245 1 0 ∧ am_Pair I 141 1 246 1 0 ∧ am_Pair I 142 2 247 2 1 ∧ ∀ μ, I μ → am_is μ 0 11 = true
