set_option maxRecDepth 20000 in
theorem kp_20 : Cond.selects R_LC y_LC_takeSimple y_LC_takeSimple ∈ gtbl := gmem (List.mem_append_left _ (List.mem_of_getElem? (i := 20) (by decide +kernel))) rfl
set_option maxRecDepth 20000 in
theorem kp_23 : Cond.selects R_LC y_LC_makeRoom y_LC_makeRoom ∈ gtbl := gmem (List.mem_append_left _ (List.mem_of_getElem? (i := 23) (by decide +kernel))) rfl
set_option maxRecDepth 20000 in
theorem kp_24 : Cond.selects R_LC y_LC_weighSetsOf y_LC_weighSetsOf ∈ gtbl := gmem (List.mem_append_left _ (List.mem_of_getElem? (i := 24) (by decide +kernel))) rfl
set_option maxRecDepth 20000 in
theorem kp_28 : Cond.selects R_LC y_LC_countPart y_LC_countPart ∈ gtbl := gmem (List.mem_append_left _ (List.mem_of_getElem? (i := 28) (by decide +kernel))) rfl
set_option maxRecDepth 20000 in
theorem kt_23 : Cond.methodLink R_CS 3 objectInit ∈ gtbl := gmem (List.mem_append_right _ (List.mem_of_getElem? (i := 23) (by decide +kernel))) rfl
set_option maxRecDepth 20000 in
theorem kt_24 : Cond.instanceMethod objectInit ∈ gtbl := gmem (List.mem_append_right _ (List.mem_of_getElem? (i := 24) (by decide +kernel))) rfl
set_option maxRecDepth 20000 in
theorem kt_26 : Cond.classLink R_CS 9 R_Net ∈ gtbl := gmem (List.mem_append_right _ (List.mem_of_getElem? (i := 26) (by decide +kernel))) rfl
set_option maxRecDepth 20000 in
theorem kt_27 : Cond.instantiable R_Net 6 ∈ gtbl := gmem (List.mem_append_right _ (List.mem_of_getElem? (i := 27) (by decide +kernel))) rfl
set_option maxRecDepth 20000 in
theorem kt_28 : Cond.methodLinkNest R_CS 11 y_Net_init R_CS ∈ nestw := List.mem_of_getElem? (i := 0) rfl
set_option maxRecDepth 20000 in
theorem kt_29 : Cond.instanceMethod y_Net_init ∈ gtbl := gmem (List.mem_append_right _ (List.mem_of_getElem? (i := 29) (by decide +kernel))) rfl
set_option maxRecDepth 20000 in
theorem kt_30 : Cond.code y_Net_init prog_4_method_1_code 1 none ∈ gtbl := gmem (List.mem_append_right _ (List.mem_of_getElem? (i := 30) (by decide +kernel))) rfl
set_option maxRecDepth 20000 in
theorem kt_31 : Cond.methodLink R_Net 3 objectInit ∈ gtbl := gmem (List.mem_append_right _ (List.mem_of_getElem? (i := 31) (by decide +kernel))) rfl
set_option maxRecDepth 20000 in
theorem kt_56 : Cond.fieldLink R_LC 61 "ColourSearch$Net" "version" "I" ∈ gtbl := gmem (List.mem_append_right _ (List.mem_of_getElem? (i := 56) (by decide +kernel))) rfl
set_option maxRecDepth 20000 in
theorem kt_73 : Cond.classLink R_CS 16 R_Pai ∈ gtbl := gmem (List.mem_append_right _ (List.mem_of_getElem? (i := 73) (by decide +kernel))) rfl
set_option maxRecDepth 20000 in
theorem kt_74 : Cond.instantiable R_Pai 10 ∈ gtbl := gmem (List.mem_append_right _ (List.mem_of_getElem? (i := 74) (by decide +kernel))) rfl
set_option maxRecDepth 20000 in
theorem kt_75 : Cond.methodLinkNest R_CS 18 y_Pai_init R_CS ∈ nestw := List.mem_of_getElem? (i := 1) rfl
set_option maxRecDepth 20000 in
theorem kt_76 : Cond.instanceMethod y_Pai_init ∈ gtbl := gmem (List.mem_append_right _ (List.mem_of_getElem? (i := 76) (by decide +kernel))) rfl
set_option maxRecDepth 20000 in
theorem kt_77 : Cond.code y_Pai_init prog_5_method_1_code 1 none ∈ gtbl := gmem (List.mem_append_right _ (List.mem_of_getElem? (i := 77) (by decide +kernel))) rfl
set_option maxRecDepth 20000 in
theorem kt_78 : Cond.methodLink R_Pai 3 objectInit ∈ gtbl := gmem (List.mem_append_right _ (List.mem_of_getElem? (i := 78) (by decide +kernel))) rfl
set_option maxRecDepth 20000 in
theorem kt_79 : Cond.classLink R_Pai 18 "[[I" ∈ gtbl := gmem (List.mem_append_right _ (List.mem_of_getElem? (i := 79) (by decide +kernel))) rfl
set_option maxRecDepth 20000 in
theorem kt_113 : Cond.classLink R_CS 23 R_Pol ∈ gtbl := gmem (List.mem_append_right _ (List.mem_of_getElem? (i := 113) (by decide +kernel))) rfl
set_option maxRecDepth 20000 in
theorem kt_114 : Cond.instantiable R_Pol 6 ∈ gtbl := gmem (List.mem_append_right _ (List.mem_of_getElem? (i := 114) (by decide +kernel))) rfl
set_option maxRecDepth 20000 in
theorem kt_115 : Cond.methodLinkNest R_CS 25 y_Pol_init R_CS ∈ nestw := List.mem_of_getElem? (i := 2) rfl
set_option maxRecDepth 20000 in
theorem kt_116 : Cond.instanceMethod y_Pol_init ∈ gtbl := gmem (List.mem_append_right _ (List.mem_of_getElem? (i := 116) (by decide +kernel))) rfl
set_option maxRecDepth 20000 in
theorem kt_117 : Cond.code y_Pol_init prog_6_method_1_code 1 none ∈ gtbl := gmem (List.mem_append_right _ (List.mem_of_getElem? (i := 117) (by decide +kernel))) rfl
set_option maxRecDepth 20000 in
theorem kt_118 : Cond.methodLink R_Pol 3 objectInit ∈ gtbl := gmem (List.mem_append_right _ (List.mem_of_getElem? (i := 118) (by decide +kernel))) rfl
set_option maxRecDepth 20000 in
theorem kt_119 : Cond.classLink R_Pol 11 "[[I" ∈ gtbl := gmem (List.mem_append_right _ (List.mem_of_getElem? (i := 119) (by decide +kernel))) rfl
set_option maxRecDepth 20000 in
theorem kt_140 : Cond.classLink R_CS 30 R_LC ∈ gtbl := gmem (List.mem_append_right _ (List.mem_of_getElem? (i := 140) (by decide +kernel))) rfl
set_option maxRecDepth 20000 in
theorem kt_141 : Cond.instantiable R_LC 9 ∈ gtbl := gmem (List.mem_append_right _ (List.mem_of_getElem? (i := 141) (by decide +kernel))) rfl
set_option maxRecDepth 20000 in
theorem kt_142 : Cond.methodLinkNest R_CS 32 y_LC_init R_CS ∈ nestw := List.mem_of_getElem? (i := 3) rfl
set_option maxRecDepth 20000 in
theorem kt_143 : Cond.instanceMethod y_LC_init ∈ gtbl := gmem (List.mem_append_right _ (List.mem_of_getElem? (i := 143) (by decide +kernel))) rfl
set_option maxRecDepth 20000 in
theorem kt_144 : Cond.code y_LC_init prog_3_method_1_code 1 none ∈ gtbl := gmem (List.mem_append_right _ (List.mem_of_getElem? (i := 144) (by decide +kernel))) rfl
set_option maxRecDepth 20000 in
theorem kt_145 : Cond.methodLink R_LC 3 objectInit ∈ gtbl := gmem (List.mem_append_right _ (List.mem_of_getElem? (i := 145) (by decide +kernel))) rfl
set_option maxRecDepth 20000 in
theorem kt_153 : Cond.fieldLink R_LC 31 "ColourSearch$ListCounter" "versionSeen" "I" ∈ gtbl := gmem (List.mem_append_right _ (List.mem_of_getElem? (i := 153) (by decide +kernel))) rfl
set_option maxRecDepth 20000 in
theorem kt_154 : Cond.fieldLink R_LC 64 "ColourSearch$ListCounter" "restSeen" "I" ∈ gtbl := gmem (List.mem_append_right _ (List.mem_of_getElem? (i := 154) (by decide +kernel))) rfl
set_option maxRecDepth 20000 in
theorem kt_174 : Cond.classLink R_CS 37 R_SF ∈ gtbl := gmem (List.mem_append_right _ (List.mem_of_getElem? (i := 174) (by decide +kernel))) rfl
set_option maxRecDepth 20000 in
theorem kt_175 : Cond.instantiable R_SF 2 ∈ gtbl := gmem (List.mem_append_right _ (List.mem_of_getElem? (i := 175) (by decide +kernel))) rfl
set_option maxRecDepth 20000 in
theorem kt_176 : Cond.methodLinkNest R_CS 39 y_SF_init R_CS ∈ nestw := List.mem_of_getElem? (i := 4) rfl
set_option maxRecDepth 20000 in
theorem kt_177 : Cond.instanceMethod y_SF_init ∈ gtbl := gmem (List.mem_append_right _ (List.mem_of_getElem? (i := 177) (by decide +kernel))) rfl
set_option maxRecDepth 20000 in
theorem kt_178 : Cond.code y_SF_init prog_7_method_1_code 1 none ∈ gtbl := gmem (List.mem_append_right _ (List.mem_of_getElem? (i := 178) (by decide +kernel))) rfl
set_option maxRecDepth 20000 in
theorem kt_179 : Cond.methodLink R_SF 3 objectInit ∈ gtbl := gmem (List.mem_append_right _ (List.mem_of_getElem? (i := 179) (by decide +kernel))) rfl
set_option maxRecDepth 20000 in
theorem kt_187 : Cond.classLink R_CS 44 R_TA ∈ gtbl := gmem (List.mem_append_right _ (List.mem_of_getElem? (i := 187) (by decide +kernel))) rfl
set_option maxRecDepth 20000 in
theorem kt_188 : Cond.instantiable R_TA 3 ∈ gtbl := gmem (List.mem_append_right _ (List.mem_of_getElem? (i := 188) (by decide +kernel))) rfl
set_option maxRecDepth 20000 in
theorem kt_189 : Cond.methodLinkNest R_CS 46 y_TA_init R_CS ∈ nestw := List.mem_of_getElem? (i := 5) rfl
set_option maxRecDepth 20000 in
theorem kt_190 : Cond.instanceMethod y_TA_init ∈ gtbl := gmem (List.mem_append_right _ (List.mem_of_getElem? (i := 190) (by decide +kernel))) rfl
set_option maxRecDepth 20000 in
theorem kt_191 : Cond.code y_TA_init prog_8_method_1_code 1 none ∈ gtbl := gmem (List.mem_append_right _ (List.mem_of_getElem? (i := 191) (by decide +kernel))) rfl
set_option maxRecDepth 20000 in
theorem kt_192 : Cond.methodLink R_TA 3 objectInit ∈ gtbl := gmem (List.mem_append_right _ (List.mem_of_getElem? (i := 192) (by decide +kernel))) rfl
set_option maxRecDepth 20000 in
theorem kt_206 : Cond.classLink R_CS 51 R_Gr ∈ gtbl := gmem (List.mem_append_right _ (List.mem_of_getElem? (i := 206) (by decide +kernel))) rfl
set_option maxRecDepth 20000 in
theorem kt_207 : Cond.instantiable R_Gr 2 ∈ gtbl := gmem (List.mem_append_right _ (List.mem_of_getElem? (i := 207) (by decide +kernel))) rfl
set_option maxRecDepth 20000 in
theorem kt_208 : Cond.methodLink R_CS 53 y_Gr_init ∈ gtbl := gmem (List.mem_append_right _ (List.mem_of_getElem? (i := 208) (by decide +kernel))) rfl
set_option maxRecDepth 20000 in
theorem kt_209 : Cond.instanceMethod y_Gr_init ∈ gtbl := gmem (List.mem_append_right _ (List.mem_of_getElem? (i := 209) (by decide +kernel))) rfl
set_option maxRecDepth 20000 in
theorem kt_210 : Cond.code y_Gr_init prog_2_method_1_code 1 none ∈ gtbl := gmem (List.mem_append_right _ (List.mem_of_getElem? (i := 210) (by decide +kernel))) rfl
set_option maxRecDepth 20000 in
theorem kt_211 : Cond.methodLink R_Gr 3 objectInit ∈ gtbl := gmem (List.mem_append_right _ (List.mem_of_getElem? (i := 211) (by decide +kernel))) rfl
set_option maxRecDepth 20000 in
theorem kt_227 : Cond.fieldLink R_CS 33 "ColourSearch" "listCounter" "LColourSearch$ListCounter;" ∈ gtbl := gmem (List.mem_append_right _ (List.mem_of_getElem? (i := 227) (by decide +kernel))) rfl
set_option maxRecDepth 20000 in
theorem kt_453 : Cond.methodLink R_CS 134 y_LC_count ∈ gtbl := gmem (List.mem_append_right _ (List.mem_of_getElem? (i := 453) (by decide +kernel))) rfl
set_option maxRecDepth 20000 in
theorem kt_454 : Cond.instanceMethod y_LC_count ∈ gtbl := gmem (List.mem_append_right _ (List.mem_of_getElem? (i := 454) (by decide +kernel))) rfl
set_option maxRecDepth 20000 in
theorem kt_455 : Cond.selects R_LC y_LC_count y_LC_count ∈ gtbl := gmem (List.mem_append_right _ (List.mem_of_getElem? (i := 455) (by decide +kernel))) rfl
set_option maxRecDepth 20000 in
theorem kt_456 : Cond.code y_LC_count prog_3_method_2_code 9 (some .long) ∈ gtbl := gmem (List.mem_append_right _ (List.mem_of_getElem? (i := 456) (by decide +kernel))) rfl
set_option maxRecDepth 20000 in
theorem kt_457 : Cond.methodLink R_LC 40 arraycopyName ∈ gtbl := gmem (List.mem_append_right _ (List.mem_of_getElem? (i := 457) (by decide +kernel))) rfl
set_option maxRecDepth 20000 in
theorem kt_458 : Cond.methodLink R_LC 46 y_Net_everyNode ∈ gtbl := gmem (List.mem_append_right _ (List.mem_of_getElem? (i := 458) (by decide +kernel))) rfl
set_option maxRecDepth 20000 in
theorem kt_459 : Cond.methodLink R_LC 53 y_LC_takeSimple ∈ gtbl := gmem (List.mem_append_right _ (List.mem_of_getElem? (i := 459) (by decide +kernel))) rfl
set_option maxRecDepth 20000 in
theorem kt_461 : Cond.instanceMethod y_LC_takeSimple ∈ gtbl := gmem (List.mem_append_right _ (List.mem_of_getElem? (i := 461) (by decide +kernel))) rfl
set_option maxRecDepth 20000 in
theorem kt_462 : Cond.code y_LC_takeSimple prog_3_method_4_code 8 (some .long) ∈ gtbl := gmem (List.mem_append_right _ (List.mem_of_getElem? (i := 462) (by decide +kernel))) rfl
set_option maxRecDepth 20000 in
theorem kt_476 : Cond.methodLink R_LC 57 y_LC_makeRoom ∈ gtbl := gmem (List.mem_append_right _ (List.mem_of_getElem? (i := 476) (by decide +kernel))) rfl
set_option maxRecDepth 20000 in
theorem kt_478 : Cond.instanceMethod y_LC_makeRoom ∈ gtbl := gmem (List.mem_append_right _ (List.mem_of_getElem? (i := 478) (by decide +kernel))) rfl
set_option maxRecDepth 20000 in
theorem kt_479 : Cond.code y_LC_makeRoom prog_3_method_3_code 2 none ∈ gtbl := gmem (List.mem_append_right _ (List.mem_of_getElem? (i := 479) (by decide +kernel))) rfl
set_option maxRecDepth 20000 in
theorem kt_480 : Cond.methodLink R_LC 67 y_Net_partOf ∈ gtbl := gmem (List.mem_append_right _ (List.mem_of_getElem? (i := 480) (by decide +kernel))) rfl
set_option maxRecDepth 20000 in
theorem kt_484 : Cond.methodLink R_LC 71 y_LC_weighSetsOf ∈ gtbl := gmem (List.mem_append_right _ (List.mem_of_getElem? (i := 484) (by decide +kernel))) rfl
set_option maxRecDepth 20000 in
theorem kt_486 : Cond.instanceMethod y_LC_weighSetsOf ∈ gtbl := gmem (List.mem_append_right _ (List.mem_of_getElem? (i := 486) (by decide +kernel))) rfl
set_option maxRecDepth 20000 in
theorem kt_487 : Cond.code y_LC_weighSetsOf prog_3_method_7_code 6 none ∈ gtbl := gmem (List.mem_append_right _ (List.mem_of_getElem? (i := 487) (by decide +kernel))) rfl
set_option maxRecDepth 20000 in
theorem kt_501 : Cond.methodLink R_LC 75 y_LC_countPart ∈ gtbl := gmem (List.mem_append_right _ (List.mem_of_getElem? (i := 501) (by decide +kernel))) rfl
set_option maxRecDepth 20000 in
theorem kt_503 : Cond.instanceMethod y_LC_countPart ∈ gtbl := gmem (List.mem_append_right _ (List.mem_of_getElem? (i := 503) (by decide +kernel))) rfl
set_option maxRecDepth 20000 in
theorem kt_504 : Cond.code y_LC_countPart prog_3_method_11_code 6 (some .long) ∈ gtbl := gmem (List.mem_append_right _ (List.mem_of_getElem? (i := 504) (by decide +kernel))) rfl
set_option maxRecDepth 20000 in
theorem kt_759 : Cond.methodLink R_Mo 1 objectInit ∈ gtbl := gmem (List.mem_append_right _ (List.mem_of_getElem? (i := 759) (by decide +kernel))) rfl
set_option maxRecDepth 20000 in
theorem kt_760 : Cond.constant R_Mo 48 53248 ∈ gtbl := gmem (List.mem_append_right _ (List.mem_of_getElem? (i := 760) (by decide +kernel))) rfl
set_option maxRecDepth 20000 in
theorem kt_761 : Cond.methodLink R_Mo 76 y_Mo_clear ∈ gtbl := gmem (List.mem_append_right _ (List.mem_of_getElem? (i := 761) (by decide +kernel))) rfl
set_option maxRecDepth 20000 in
theorem kt_762 : Cond.instanceMethod y_Mo_clear ∈ gtbl := gmem (List.mem_append_right _ (List.mem_of_getElem? (i := 762) (by decide +kernel))) rfl
set_option maxRecDepth 20000 in
theorem kt_763 : Cond.selects R_Mo y_Mo_clear y_Mo_clear ∈ gtbl := gmem (List.mem_append_right _ (List.mem_of_getElem? (i := 763) (by decide +kernel))) rfl
set_option maxRecDepth 20000 in
theorem kt_764 : Cond.code y_Mo_clear prog_10_method_3_code 2 none ∈ gtbl := gmem (List.mem_append_right _ (List.mem_of_getElem? (i := 764) (by decide +kernel))) rfl
set_option maxRecDepth 20000 in
theorem kt_arrI : Cond.arrayClass .int ∈ gtbl := gmem (List.mem_append_right _ (List.mem_of_getElem? (i := 72) (by decide +kernel))) rfl
set_option maxRecDepth 20000 in
theorem kt_arrJ : Cond.arrayClass .long ∈ gtbl := gmem (List.mem_append_right _ (List.mem_of_getElem? (i := 139) (by decide +kernel))) rfl
set_option maxRecDepth 20000 in
theorem kt_arrZ : Cond.arrayClass .boolean ∈ gtbl := gmem (List.mem_append_right _ (List.mem_of_getElem? (i := 854) (by decide +kernel))) rfl
set_option maxRecDepth 20000 in
theorem kt_obji : Cond.code objectInit ⟨#[0xb1]⟩ 1 none ∈ gtbl := gmem (List.mem_append_right _ (List.mem_of_getElem? (i := 25) (by decide +kernel))) rfl
