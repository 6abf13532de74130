def R_law : String := "ColourSearchLaw"
def y_law_arcs : MethodName := ⟨R_law, "arcs", "(LColourSearch;[J)I"⟩
set_option maxRecDepth 20000 in
theorem kt_20 : Cond.methodLink R_law 15 y_CS_init ∈ gtbl := gmem (List.mem_append_right _ (List.mem_of_getElem? (i := 20) (by decide +kernel))) rfl
set_option maxRecDepth 20000 in
theorem kt_21 : Cond.instanceMethod y_CS_init ∈ gtbl := gmem (List.mem_append_right _ (List.mem_of_getElem? (i := 21) (by decide +kernel))) rfl
set_option maxRecDepth 20000 in
theorem kt_22 : Cond.code y_CS_init prog_1_method_1_code 1 none ∈ gtbl := gmem (List.mem_append_right _ (List.mem_of_getElem? (i := 22) (by decide +kernel))) rfl
set_option maxRecDepth 20000 in
theorem kt_756 : Cond.methodLink R_law 18 y_Mo_init ∈ gtbl := gmem (List.mem_append_right _ (List.mem_of_getElem? (i := 756) (by decide +kernel))) rfl
set_option maxRecDepth 20000 in
theorem kt_757 : Cond.instanceMethod y_Mo_init ∈ gtbl := gmem (List.mem_append_right _ (List.mem_of_getElem? (i := 757) (by decide +kernel))) rfl
set_option maxRecDepth 20000 in
theorem kt_758 : Cond.code y_Mo_init prog_10_method_1_code 1 none ∈ gtbl := gmem (List.mem_append_right _ (List.mem_of_getElem? (i := 758) (by decide +kernel))) rfl
set_option maxRecDepth 20000 in
theorem kt_258 : Cond.methodLink R_law 19 y_CS_node ∈ gtbl := gmem (List.mem_append_right _ (List.mem_of_getElem? (i := 258) (by decide +kernel))) rfl
set_option maxRecDepth 20000 in
theorem kt_259 : Cond.instanceMethod y_CS_node ∈ gtbl := gmem (List.mem_append_right _ (List.mem_of_getElem? (i := 259) (by decide +kernel))) rfl
set_option maxRecDepth 20000 in
theorem kt_260 : Cond.selects R_CS y_CS_node y_CS_node ∈ gtbl := gmem (List.mem_append_right _ (List.mem_of_getElem? (i := 260) (by decide +kernel))) rfl
set_option maxRecDepth 20000 in
theorem kt_261 : Cond.code y_CS_node prog_1_method_2_code 1 (some .int) ∈ gtbl := gmem (List.mem_append_right _ (List.mem_of_getElem? (i := 261) (by decide +kernel))) rfl
set_option maxRecDepth 20000 in
theorem kt_860 : Cond.methodLink R_law 22 y_Mo_node ∈ gtbl := gmem (List.mem_append_right _ (List.mem_of_getElem? (i := 860) (by decide +kernel))) rfl
set_option maxRecDepth 20000 in
theorem kt_861 : Cond.instanceMethod y_Mo_node ∈ gtbl := gmem (List.mem_append_right _ (List.mem_of_getElem? (i := 861) (by decide +kernel))) rfl
set_option maxRecDepth 20000 in
theorem kt_862 : Cond.selects R_Mo y_Mo_node y_Mo_node ∈ gtbl := gmem (List.mem_append_right _ (List.mem_of_getElem? (i := 862) (by decide +kernel))) rfl
set_option maxRecDepth 20000 in
theorem kt_863 : Cond.code y_Mo_node prog_10_method_5_code 1 (some .int) ∈ gtbl := gmem (List.mem_append_right _ (List.mem_of_getElem? (i := 863) (by decide +kernel))) rfl
set_option maxRecDepth 20000 in
theorem kt_266 : Cond.methodLink R_law 23 y_CS_arc ∈ gtbl := gmem (List.mem_append_right _ (List.mem_of_getElem? (i := 266) (by decide +kernel))) rfl
set_option maxRecDepth 20000 in
theorem kt_267 : Cond.instanceMethod y_CS_arc ∈ gtbl := gmem (List.mem_append_right _ (List.mem_of_getElem? (i := 267) (by decide +kernel))) rfl
set_option maxRecDepth 20000 in
theorem kt_268 : Cond.selects R_CS y_CS_arc y_CS_arc ∈ gtbl := gmem (List.mem_append_right _ (List.mem_of_getElem? (i := 268) (by decide +kernel))) rfl
set_option maxRecDepth 20000 in
theorem kt_269 : Cond.code y_CS_arc prog_1_method_3_code 3 (some .int) ∈ gtbl := gmem (List.mem_append_right _ (List.mem_of_getElem? (i := 269) (by decide +kernel))) rfl
set_option maxRecDepth 20000 in
theorem kt_864 : Cond.methodLink R_law 27 y_Mo_arc ∈ gtbl := gmem (List.mem_append_right _ (List.mem_of_getElem? (i := 864) (by decide +kernel))) rfl
set_option maxRecDepth 20000 in
theorem kt_865 : Cond.instanceMethod y_Mo_arc ∈ gtbl := gmem (List.mem_append_right _ (List.mem_of_getElem? (i := 865) (by decide +kernel))) rfl
set_option maxRecDepth 20000 in
theorem kt_866 : Cond.selects R_Mo y_Mo_arc y_Mo_arc ∈ gtbl := gmem (List.mem_append_right _ (List.mem_of_getElem? (i := 866) (by decide +kernel))) rfl
set_option maxRecDepth 20000 in
theorem kt_867 : Cond.code y_Mo_arc prog_10_method_6_code 3 (some .int) ∈ gtbl := gmem (List.mem_append_right _ (List.mem_of_getElem? (i := 867) (by decide +kernel))) rfl
set_option maxRecDepth 20000 in
theorem kt_282 : Cond.methodLink R_law 28 y_CS_drop ∈ gtbl := gmem (List.mem_append_right _ (List.mem_of_getElem? (i := 282) (by decide +kernel))) rfl
set_option maxRecDepth 20000 in
theorem kt_283 : Cond.instanceMethod y_CS_drop ∈ gtbl := gmem (List.mem_append_right _ (List.mem_of_getElem? (i := 283) (by decide +kernel))) rfl
set_option maxRecDepth 20000 in
theorem kt_284 : Cond.selects R_CS y_CS_drop y_CS_drop ∈ gtbl := gmem (List.mem_append_right _ (List.mem_of_getElem? (i := 284) (by decide +kernel))) rfl
set_option maxRecDepth 20000 in
theorem kt_285 : Cond.code y_CS_drop prog_1_method_4_code 1 (some .boolean) ∈ gtbl := gmem (List.mem_append_right _ (List.mem_of_getElem? (i := 285) (by decide +kernel))) rfl
set_option maxRecDepth 20000 in
theorem kt_872 : Cond.methodLink R_law 32 y_Mo_drop ∈ gtbl := gmem (List.mem_append_right _ (List.mem_of_getElem? (i := 872) (by decide +kernel))) rfl
set_option maxRecDepth 20000 in
theorem kt_873 : Cond.instanceMethod y_Mo_drop ∈ gtbl := gmem (List.mem_append_right _ (List.mem_of_getElem? (i := 873) (by decide +kernel))) rfl
set_option maxRecDepth 20000 in
theorem kt_874 : Cond.selects R_Mo y_Mo_drop y_Mo_drop ∈ gtbl := gmem (List.mem_append_right _ (List.mem_of_getElem? (i := 874) (by decide +kernel))) rfl
set_option maxRecDepth 20000 in
theorem kt_875 : Cond.code y_Mo_drop prog_10_method_7_code 1 (some .boolean) ∈ gtbl := gmem (List.mem_append_right _ (List.mem_of_getElem? (i := 875) (by decide +kernel))) rfl
set_option maxRecDepth 20000 in
theorem kt_290 : Cond.methodLink R_law 33 y_CS_least ∈ gtbl := gmem (List.mem_append_right _ (List.mem_of_getElem? (i := 290) (by decide +kernel))) rfl
set_option maxRecDepth 20000 in
theorem kt_291 : Cond.instanceMethod y_CS_least ∈ gtbl := gmem (List.mem_append_right _ (List.mem_of_getElem? (i := 291) (by decide +kernel))) rfl
set_option maxRecDepth 20000 in
theorem kt_292 : Cond.selects R_CS y_CS_least y_CS_least ∈ gtbl := gmem (List.mem_append_right _ (List.mem_of_getElem? (i := 292) (by decide +kernel))) rfl
set_option maxRecDepth 20000 in
theorem kt_293 : Cond.code y_CS_least prog_1_method_5_code 2 (some .int) ∈ gtbl := gmem (List.mem_append_right _ (List.mem_of_getElem? (i := 293) (by decide +kernel))) rfl
set_option maxRecDepth 20000 in
theorem kt_876 : Cond.methodLink R_law 36 y_Mo_least ∈ gtbl := gmem (List.mem_append_right _ (List.mem_of_getElem? (i := 876) (by decide +kernel))) rfl
set_option maxRecDepth 20000 in
theorem kt_877 : Cond.instanceMethod y_Mo_least ∈ gtbl := gmem (List.mem_append_right _ (List.mem_of_getElem? (i := 877) (by decide +kernel))) rfl
set_option maxRecDepth 20000 in
theorem kt_878 : Cond.selects R_Mo y_Mo_least y_Mo_least ∈ gtbl := gmem (List.mem_append_right _ (List.mem_of_getElem? (i := 878) (by decide +kernel))) rfl
set_option maxRecDepth 20000 in
theorem kt_879 : Cond.code y_Mo_least prog_10_method_15_code 2 (some .int) ∈ gtbl := gmem (List.mem_append_right _ (List.mem_of_getElem? (i := 879) (by decide +kernel))) rfl
set_option maxRecDepth 20000 in
theorem kt_366 : Cond.methodLink R_law 37 y_CS_even ∈ gtbl := gmem (List.mem_append_right _ (List.mem_of_getElem? (i := 366) (by decide +kernel))) rfl
set_option maxRecDepth 20000 in
theorem kt_367 : Cond.instanceMethod y_CS_even ∈ gtbl := gmem (List.mem_append_right _ (List.mem_of_getElem? (i := 367) (by decide +kernel))) rfl
set_option maxRecDepth 20000 in
theorem kt_368 : Cond.selects R_CS y_CS_even y_CS_even ∈ gtbl := gmem (List.mem_append_right _ (List.mem_of_getElem? (i := 368) (by decide +kernel))) rfl
set_option maxRecDepth 20000 in
theorem kt_369 : Cond.code y_CS_even prog_1_method_6_code 2 (some .int) ∈ gtbl := gmem (List.mem_append_right _ (List.mem_of_getElem? (i := 369) (by decide +kernel))) rfl
set_option maxRecDepth 20000 in
theorem kt_900 : Cond.methodLink R_law 41 y_Mo_even ∈ gtbl := gmem (List.mem_append_right _ (List.mem_of_getElem? (i := 900) (by decide +kernel))) rfl
set_option maxRecDepth 20000 in
theorem kt_901 : Cond.instanceMethod y_Mo_even ∈ gtbl := gmem (List.mem_append_right _ (List.mem_of_getElem? (i := 901) (by decide +kernel))) rfl
set_option maxRecDepth 20000 in
theorem kt_902 : Cond.selects R_Mo y_Mo_even y_Mo_even ∈ gtbl := gmem (List.mem_append_right _ (List.mem_of_getElem? (i := 902) (by decide +kernel))) rfl
set_option maxRecDepth 20000 in
theorem kt_903 : Cond.code y_Mo_even prog_10_method_16_code 3 (some .int) ∈ gtbl := gmem (List.mem_append_right _ (List.mem_of_getElem? (i := 903) (by decide +kernel))) rfl
set_option maxRecDepth 20000 in
theorem kt_378 : Cond.methodLink R_law 42 y_CS_colour ∈ gtbl := gmem (List.mem_append_right _ (List.mem_of_getElem? (i := 378) (by decide +kernel))) rfl
set_option maxRecDepth 20000 in
theorem kt_379 : Cond.instanceMethod y_CS_colour ∈ gtbl := gmem (List.mem_append_right _ (List.mem_of_getElem? (i := 379) (by decide +kernel))) rfl
set_option maxRecDepth 20000 in
theorem kt_380 : Cond.selects R_CS y_CS_colour y_CS_colour ∈ gtbl := gmem (List.mem_append_right _ (List.mem_of_getElem? (i := 380) (by decide +kernel))) rfl
set_option maxRecDepth 20000 in
theorem kt_381 : Cond.code y_CS_colour prog_1_method_7_code 2 (some .int) ∈ gtbl := gmem (List.mem_append_right _ (List.mem_of_getElem? (i := 381) (by decide +kernel))) rfl
set_option maxRecDepth 20000 in
theorem kt_904 : Cond.methodLink R_law 45 y_Mo_colour ∈ gtbl := gmem (List.mem_append_right _ (List.mem_of_getElem? (i := 904) (by decide +kernel))) rfl
set_option maxRecDepth 20000 in
theorem kt_905 : Cond.instanceMethod y_Mo_colour ∈ gtbl := gmem (List.mem_append_right _ (List.mem_of_getElem? (i := 905) (by decide +kernel))) rfl
set_option maxRecDepth 20000 in
theorem kt_906 : Cond.selects R_Mo y_Mo_colour y_Mo_colour ∈ gtbl := gmem (List.mem_append_right _ (List.mem_of_getElem? (i := 906) (by decide +kernel))) rfl
set_option maxRecDepth 20000 in
theorem kt_907 : Cond.code y_Mo_colour prog_10_method_17_code 2 (some .int) ∈ gtbl := gmem (List.mem_append_right _ (List.mem_of_getElem? (i := 907) (by decide +kernel))) rfl
set_option maxRecDepth 20000 in
theorem kt_383 : Cond.methodLink R_law 48 y_CS_ways ∈ gtbl := gmem (List.mem_append_right _ (List.mem_of_getElem? (i := 383) (by decide +kernel))) rfl
set_option maxRecDepth 20000 in
theorem kt_384 : Cond.instanceMethod y_CS_ways ∈ gtbl := gmem (List.mem_append_right _ (List.mem_of_getElem? (i := 384) (by decide +kernel))) rfl
set_option maxRecDepth 20000 in
theorem kt_385 : Cond.selects R_CS y_CS_ways y_CS_ways ∈ gtbl := gmem (List.mem_append_right _ (List.mem_of_getElem? (i := 385) (by decide +kernel))) rfl
set_option maxRecDepth 20000 in
theorem kt_386 : Cond.code y_CS_ways prog_1_method_8_code 3 (some .long) ∈ gtbl := gmem (List.mem_append_right _ (List.mem_of_getElem? (i := 386) (by decide +kernel))) rfl
set_option maxRecDepth 20000 in
theorem kt_908 : Cond.methodLink R_law 52 y_Mo_ways ∈ gtbl := gmem (List.mem_append_right _ (List.mem_of_getElem? (i := 908) (by decide +kernel))) rfl
set_option maxRecDepth 20000 in
theorem kt_909 : Cond.instanceMethod y_Mo_ways ∈ gtbl := gmem (List.mem_append_right _ (List.mem_of_getElem? (i := 909) (by decide +kernel))) rfl
set_option maxRecDepth 20000 in
theorem kt_910 : Cond.selects R_Mo y_Mo_ways y_Mo_ways ∈ gtbl := gmem (List.mem_append_right _ (List.mem_of_getElem? (i := 910) (by decide +kernel))) rfl
set_option maxRecDepth 20000 in
theorem kt_911 : Cond.code y_Mo_ways prog_10_method_20_code 6 (some .long) ∈ gtbl := gmem (List.mem_append_right _ (List.mem_of_getElem? (i := 911) (by decide +kernel))) rfl
set_option maxRecDepth 20000 in
theorem kt_429 : Cond.methodLink R_law 53 y_CS_coefficient ∈ gtbl := gmem (List.mem_append_right _ (List.mem_of_getElem? (i := 429) (by decide +kernel))) rfl
set_option maxRecDepth 20000 in
theorem kt_430 : Cond.instanceMethod y_CS_coefficient ∈ gtbl := gmem (List.mem_append_right _ (List.mem_of_getElem? (i := 430) (by decide +kernel))) rfl
set_option maxRecDepth 20000 in
theorem kt_431 : Cond.selects R_CS y_CS_coefficient y_CS_coefficient ∈ gtbl := gmem (List.mem_append_right _ (List.mem_of_getElem? (i := 431) (by decide +kernel))) rfl
set_option maxRecDepth 20000 in
theorem kt_432 : Cond.code y_CS_coefficient prog_1_method_9_code 2 (some .long) ∈ gtbl := gmem (List.mem_append_right _ (List.mem_of_getElem? (i := 432) (by decide +kernel))) rfl
set_option maxRecDepth 20000 in
theorem kt_920 : Cond.methodLink R_law 57 y_Mo_coefficient ∈ gtbl := gmem (List.mem_append_right _ (List.mem_of_getElem? (i := 920) (by decide +kernel))) rfl
set_option maxRecDepth 20000 in
theorem kt_921 : Cond.instanceMethod y_Mo_coefficient ∈ gtbl := gmem (List.mem_append_right _ (List.mem_of_getElem? (i := 921) (by decide +kernel))) rfl
set_option maxRecDepth 20000 in
theorem kt_922 : Cond.selects R_Mo y_Mo_coefficient y_Mo_coefficient ∈ gtbl := gmem (List.mem_append_right _ (List.mem_of_getElem? (i := 922) (by decide +kernel))) rfl
set_option maxRecDepth 20000 in
theorem kt_923 : Cond.code y_Mo_coefficient prog_10_method_21_code 2 (some .long) ∈ gtbl := gmem (List.mem_append_right _ (List.mem_of_getElem? (i := 923) (by decide +kernel))) rfl
set_option maxRecDepth 20000 in
theorem kt_437 : Cond.methodLink R_law 58 y_CS_list ∈ gtbl := gmem (List.mem_append_right _ (List.mem_of_getElem? (i := 437) (by decide +kernel))) rfl
set_option maxRecDepth 20000 in
theorem kt_438 : Cond.instanceMethod y_CS_list ∈ gtbl := gmem (List.mem_append_right _ (List.mem_of_getElem? (i := 438) (by decide +kernel))) rfl
set_option maxRecDepth 20000 in
theorem kt_439 : Cond.selects R_CS y_CS_list y_CS_list ∈ gtbl := gmem (List.mem_append_right _ (List.mem_of_getElem? (i := 439) (by decide +kernel))) rfl
set_option maxRecDepth 20000 in
theorem kt_440 : Cond.code y_CS_list prog_1_method_10_code 3 (some .boolean) ∈ gtbl := gmem (List.mem_append_right _ (List.mem_of_getElem? (i := 440) (by decide +kernel))) rfl
set_option maxRecDepth 20000 in
theorem kt_924 : Cond.methodLink R_law 62 y_Mo_list ∈ gtbl := gmem (List.mem_append_right _ (List.mem_of_getElem? (i := 924) (by decide +kernel))) rfl
set_option maxRecDepth 20000 in
theorem kt_925 : Cond.instanceMethod y_Mo_list ∈ gtbl := gmem (List.mem_append_right _ (List.mem_of_getElem? (i := 925) (by decide +kernel))) rfl
set_option maxRecDepth 20000 in
theorem kt_926 : Cond.selects R_Mo y_Mo_list y_Mo_list ∈ gtbl := gmem (List.mem_append_right _ (List.mem_of_getElem? (i := 926) (by decide +kernel))) rfl
set_option maxRecDepth 20000 in
theorem kt_927 : Cond.code y_Mo_list prog_10_method_22_code 3 (some .boolean) ∈ gtbl := gmem (List.mem_append_right _ (List.mem_of_getElem? (i := 927) (by decide +kernel))) rfl
set_option maxRecDepth 20000 in
theorem kt_441 : Cond.methodLink R_law 63 y_CS_lists ∈ gtbl := gmem (List.mem_append_right _ (List.mem_of_getElem? (i := 441) (by decide +kernel))) rfl
set_option maxRecDepth 20000 in
theorem kt_442 : Cond.instanceMethod y_CS_lists ∈ gtbl := gmem (List.mem_append_right _ (List.mem_of_getElem? (i := 442) (by decide +kernel))) rfl
set_option maxRecDepth 20000 in
theorem kt_443 : Cond.selects R_CS y_CS_lists y_CS_lists ∈ gtbl := gmem (List.mem_append_right _ (List.mem_of_getElem? (i := 443) (by decide +kernel))) rfl
set_option maxRecDepth 20000 in
theorem kt_444 : Cond.code y_CS_lists prog_1_method_11_code 1 (some .int) ∈ gtbl := gmem (List.mem_append_right _ (List.mem_of_getElem? (i := 444) (by decide +kernel))) rfl
set_option maxRecDepth 20000 in
theorem kt_928 : Cond.methodLink R_law 66 y_Mo_lists ∈ gtbl := gmem (List.mem_append_right _ (List.mem_of_getElem? (i := 928) (by decide +kernel))) rfl
set_option maxRecDepth 20000 in
theorem kt_929 : Cond.instanceMethod y_Mo_lists ∈ gtbl := gmem (List.mem_append_right _ (List.mem_of_getElem? (i := 929) (by decide +kernel))) rfl
set_option maxRecDepth 20000 in
theorem kt_930 : Cond.selects R_Mo y_Mo_lists y_Mo_lists ∈ gtbl := gmem (List.mem_append_right _ (List.mem_of_getElem? (i := 930) (by decide +kernel))) rfl
set_option maxRecDepth 20000 in
theorem kt_931 : Cond.code y_Mo_lists prog_10_method_23_code 3 (some .int) ∈ gtbl := gmem (List.mem_append_right _ (List.mem_of_getElem? (i := 931) (by decide +kernel))) rfl
set_option maxRecDepth 20000 in
theorem kt_449 : Cond.methodLink R_law 67 y_CS_listed ∈ gtbl := gmem (List.mem_append_right _ (List.mem_of_getElem? (i := 449) (by decide +kernel))) rfl
set_option maxRecDepth 20000 in
theorem kt_450 : Cond.instanceMethod y_CS_listed ∈ gtbl := gmem (List.mem_append_right _ (List.mem_of_getElem? (i := 450) (by decide +kernel))) rfl
set_option maxRecDepth 20000 in
theorem kt_451 : Cond.selects R_CS y_CS_listed y_CS_listed ∈ gtbl := gmem (List.mem_append_right _ (List.mem_of_getElem? (i := 451) (by decide +kernel))) rfl
set_option maxRecDepth 20000 in
theorem kt_452 : Cond.code y_CS_listed prog_1_method_12_code 1 (some .long) ∈ gtbl := gmem (List.mem_append_right _ (List.mem_of_getElem? (i := 452) (by decide +kernel))) rfl
set_option maxRecDepth 20000 in
theorem kt_936 : Cond.methodLink R_law 71 y_Mo_listed ∈ gtbl := gmem (List.mem_append_right _ (List.mem_of_getElem? (i := 936) (by decide +kernel))) rfl
set_option maxRecDepth 20000 in
theorem kt_937 : Cond.instanceMethod y_Mo_listed ∈ gtbl := gmem (List.mem_append_right _ (List.mem_of_getElem? (i := 937) (by decide +kernel))) rfl
set_option maxRecDepth 20000 in
theorem kt_938 : Cond.selects R_Mo y_Mo_listed y_Mo_listed ∈ gtbl := gmem (List.mem_append_right _ (List.mem_of_getElem? (i := 938) (by decide +kernel))) rfl
set_option maxRecDepth 20000 in
theorem kt_939 : Cond.code y_Mo_listed prog_10_method_26_code 1 (some .long) ∈ gtbl := gmem (List.mem_append_right _ (List.mem_of_getElem? (i := 939) (by decide +kernel))) rfl
set_option maxRecDepth 20000 in
theorem kt_513 : Cond.methodLink R_law 72 y_CS_why ∈ gtbl := gmem (List.mem_append_right _ (List.mem_of_getElem? (i := 513) (by decide +kernel))) rfl
set_option maxRecDepth 20000 in
theorem kt_514 : Cond.instanceMethod y_CS_why ∈ gtbl := gmem (List.mem_append_right _ (List.mem_of_getElem? (i := 514) (by decide +kernel))) rfl
set_option maxRecDepth 20000 in
theorem kt_515 : Cond.selects R_CS y_CS_why y_CS_why ∈ gtbl := gmem (List.mem_append_right _ (List.mem_of_getElem? (i := 515) (by decide +kernel))) rfl
set_option maxRecDepth 20000 in
theorem kt_516 : Cond.code y_CS_why prog_1_method_13_code 4 (some .int) ∈ gtbl := gmem (List.mem_append_right _ (List.mem_of_getElem? (i := 516) (by decide +kernel))) rfl
set_option maxRecDepth 20000 in
theorem kt_944 : Cond.methodLink R_law 75 y_Mo_why ∈ gtbl := gmem (List.mem_append_right _ (List.mem_of_getElem? (i := 944) (by decide +kernel))) rfl
set_option maxRecDepth 20000 in
theorem kt_945 : Cond.instanceMethod y_Mo_why ∈ gtbl := gmem (List.mem_append_right _ (List.mem_of_getElem? (i := 945) (by decide +kernel))) rfl
set_option maxRecDepth 20000 in
theorem kt_946 : Cond.selects R_Mo y_Mo_why y_Mo_why ∈ gtbl := gmem (List.mem_append_right _ (List.mem_of_getElem? (i := 946) (by decide +kernel))) rfl
set_option maxRecDepth 20000 in
theorem kt_947 : Cond.code y_Mo_why prog_10_method_27_code 4 (some .int) ∈ gtbl := gmem (List.mem_append_right _ (List.mem_of_getElem? (i := 947) (by decide +kernel))) rfl
set_option maxRecDepth 20000 in
theorem kt_948 : Cond.methodLink R_law 81 y_Mo_arcs ∈ gtbl := gmem (List.mem_append_right _ (List.mem_of_getElem? (i := 948) (by decide +kernel))) rfl
set_option maxRecDepth 20000 in
theorem kt_949 : Cond.instanceMethod y_Mo_arcs ∈ gtbl := gmem (List.mem_append_right _ (List.mem_of_getElem? (i := 949) (by decide +kernel))) rfl
set_option maxRecDepth 20000 in
theorem kt_950 : Cond.selects R_Mo y_Mo_arcs y_Mo_arcs ∈ gtbl := gmem (List.mem_append_right _ (List.mem_of_getElem? (i := 950) (by decide +kernel))) rfl
set_option maxRecDepth 20000 in
theorem kt_951 : Cond.code y_Mo_arcs prog_10_method_30_code 3 (some .int) ∈ gtbl := gmem (List.mem_append_right _ (List.mem_of_getElem? (i := 951) (by decide +kernel))) rfl
set_option maxRecDepth 20000 in
theorem kt_855 : Cond.methodLink R_law 82 y_Mo_thrown ∈ gtbl := gmem (List.mem_append_right _ (List.mem_of_getElem? (i := 855) (by decide +kernel))) rfl
set_option maxRecDepth 20000 in
theorem kt_856 : Cond.instanceMethod y_Mo_thrown ∈ gtbl := gmem (List.mem_append_right _ (List.mem_of_getElem? (i := 856) (by decide +kernel))) rfl
set_option maxRecDepth 20000 in
theorem kt_857 : Cond.selects R_Mo y_Mo_thrown y_Mo_thrown ∈ gtbl := gmem (List.mem_append_right _ (List.mem_of_getElem? (i := 857) (by decide +kernel))) rfl
set_option maxRecDepth 20000 in
theorem kt_858 : Cond.code y_Mo_thrown prog_10_method_2_code 1 (some .int) ∈ gtbl := gmem (List.mem_append_right _ (List.mem_of_getElem? (i := 858) (by decide +kernel))) rfl
set_option maxRecDepth 20000 in
theorem kt_526 : Cond.methodLink R_law 85 y_CS_shade ∈ gtbl := gmem (List.mem_append_right _ (List.mem_of_getElem? (i := 526) (by decide +kernel))) rfl
set_option maxRecDepth 20000 in
theorem kt_527 : Cond.instanceMethod y_CS_shade ∈ gtbl := gmem (List.mem_append_right _ (List.mem_of_getElem? (i := 527) (by decide +kernel))) rfl
set_option maxRecDepth 20000 in
theorem kt_528 : Cond.selects R_CS y_CS_shade y_CS_shade ∈ gtbl := gmem (List.mem_append_right _ (List.mem_of_getElem? (i := 528) (by decide +kernel))) rfl
set_option maxRecDepth 20000 in
theorem kt_529 : Cond.code y_CS_shade prog_1_method_15_code 2 (some .int) ∈ gtbl := gmem (List.mem_append_right _ (List.mem_of_getElem? (i := 529) (by decide +kernel))) rfl
set_option maxRecDepth 20000 in
theorem kt_960 : Cond.methodLink R_law 88 y_Mo_shade ∈ gtbl := gmem (List.mem_append_right _ (List.mem_of_getElem? (i := 960) (by decide +kernel))) rfl
set_option maxRecDepth 20000 in
theorem kt_961 : Cond.instanceMethod y_Mo_shade ∈ gtbl := gmem (List.mem_append_right _ (List.mem_of_getElem? (i := 961) (by decide +kernel))) rfl
set_option maxRecDepth 20000 in
theorem kt_962 : Cond.selects R_Mo y_Mo_shade y_Mo_shade ∈ gtbl := gmem (List.mem_append_right _ (List.mem_of_getElem? (i := 962) (by decide +kernel))) rfl
set_option maxRecDepth 20000 in
theorem kt_963 : Cond.code y_Mo_shade prog_10_method_31_code 2 (some .int) ∈ gtbl := gmem (List.mem_append_right _ (List.mem_of_getElem? (i := 963) (by decide +kernel))) rfl
set_option maxRecDepth 20000 in
theorem kt_530 : Cond.methodLink R_law 89 y_CS_clique ∈ gtbl := gmem (List.mem_append_right _ (List.mem_of_getElem? (i := 530) (by decide +kernel))) rfl
set_option maxRecDepth 20000 in
theorem kt_531 : Cond.instanceMethod y_CS_clique ∈ gtbl := gmem (List.mem_append_right _ (List.mem_of_getElem? (i := 531) (by decide +kernel))) rfl
set_option maxRecDepth 20000 in
theorem kt_532 : Cond.selects R_CS y_CS_clique y_CS_clique ∈ gtbl := gmem (List.mem_append_right _ (List.mem_of_getElem? (i := 532) (by decide +kernel))) rfl
set_option maxRecDepth 20000 in
theorem kt_533 : Cond.code y_CS_clique prog_1_method_16_code 1 (some .int) ∈ gtbl := gmem (List.mem_append_right _ (List.mem_of_getElem? (i := 533) (by decide +kernel))) rfl
set_option maxRecDepth 20000 in
theorem kt_964 : Cond.methodLink R_law 92 y_Mo_clique ∈ gtbl := gmem (List.mem_append_right _ (List.mem_of_getElem? (i := 964) (by decide +kernel))) rfl
set_option maxRecDepth 20000 in
theorem kt_965 : Cond.instanceMethod y_Mo_clique ∈ gtbl := gmem (List.mem_append_right _ (List.mem_of_getElem? (i := 965) (by decide +kernel))) rfl
set_option maxRecDepth 20000 in
theorem kt_966 : Cond.selects R_Mo y_Mo_clique y_Mo_clique ∈ gtbl := gmem (List.mem_append_right _ (List.mem_of_getElem? (i := 966) (by decide +kernel))) rfl
set_option maxRecDepth 20000 in
theorem kt_967 : Cond.code y_Mo_clique prog_10_method_33_code 1 (some .int) ∈ gtbl := gmem (List.mem_append_right _ (List.mem_of_getElem? (i := 967) (by decide +kernel))) rfl
set_option maxRecDepth 20000 in
theorem kt_549 : Cond.methodLink R_law 93 y_CS_apart ∈ gtbl := gmem (List.mem_append_right _ (List.mem_of_getElem? (i := 549) (by decide +kernel))) rfl
set_option maxRecDepth 20000 in
theorem kt_550 : Cond.instanceMethod y_CS_apart ∈ gtbl := gmem (List.mem_append_right _ (List.mem_of_getElem? (i := 550) (by decide +kernel))) rfl
set_option maxRecDepth 20000 in
theorem kt_551 : Cond.selects R_CS y_CS_apart y_CS_apart ∈ gtbl := gmem (List.mem_append_right _ (List.mem_of_getElem? (i := 551) (by decide +kernel))) rfl
set_option maxRecDepth 20000 in
theorem kt_552 : Cond.code y_CS_apart prog_1_method_17_code 1 (some .int) ∈ gtbl := gmem (List.mem_append_right _ (List.mem_of_getElem? (i := 552) (by decide +kernel))) rfl
set_option maxRecDepth 20000 in
theorem kt_975 : Cond.methodLink R_law 96 y_Mo_apart ∈ gtbl := gmem (List.mem_append_right _ (List.mem_of_getElem? (i := 975) (by decide +kernel))) rfl
set_option maxRecDepth 20000 in
theorem kt_976 : Cond.instanceMethod y_Mo_apart ∈ gtbl := gmem (List.mem_append_right _ (List.mem_of_getElem? (i := 976) (by decide +kernel))) rfl
set_option maxRecDepth 20000 in
theorem kt_977 : Cond.selects R_Mo y_Mo_apart y_Mo_apart ∈ gtbl := gmem (List.mem_append_right _ (List.mem_of_getElem? (i := 977) (by decide +kernel))) rfl
set_option maxRecDepth 20000 in
theorem kt_978 : Cond.code y_Mo_apart prog_10_method_34_code 1 (some .int) ∈ gtbl := gmem (List.mem_append_right _ (List.mem_of_getElem? (i := 978) (by decide +kernel))) rfl
set_option maxRecDepth 20000 in
theorem kt_557 : Cond.methodLink R_law 97 y_CS_chordal ∈ gtbl := gmem (List.mem_append_right _ (List.mem_of_getElem? (i := 557) (by decide +kernel))) rfl
set_option maxRecDepth 20000 in
theorem kt_558 : Cond.instanceMethod y_CS_chordal ∈ gtbl := gmem (List.mem_append_right _ (List.mem_of_getElem? (i := 558) (by decide +kernel))) rfl
set_option maxRecDepth 20000 in
theorem kt_559 : Cond.selects R_CS y_CS_chordal y_CS_chordal ∈ gtbl := gmem (List.mem_append_right _ (List.mem_of_getElem? (i := 559) (by decide +kernel))) rfl
set_option maxRecDepth 20000 in
theorem kt_560 : Cond.code y_CS_chordal prog_1_method_18_code 1 (some .int) ∈ gtbl := gmem (List.mem_append_right _ (List.mem_of_getElem? (i := 560) (by decide +kernel))) rfl
set_option maxRecDepth 20000 in
theorem kt_979 : Cond.methodLink R_law 100 y_Mo_chordal ∈ gtbl := gmem (List.mem_append_right _ (List.mem_of_getElem? (i := 979) (by decide +kernel))) rfl
set_option maxRecDepth 20000 in
theorem kt_980 : Cond.instanceMethod y_Mo_chordal ∈ gtbl := gmem (List.mem_append_right _ (List.mem_of_getElem? (i := 980) (by decide +kernel))) rfl
set_option maxRecDepth 20000 in
theorem kt_981 : Cond.selects R_Mo y_Mo_chordal y_Mo_chordal ∈ gtbl := gmem (List.mem_append_right _ (List.mem_of_getElem? (i := 981) (by decide +kernel))) rfl
set_option maxRecDepth 20000 in
theorem kt_982 : Cond.code y_Mo_chordal prog_10_method_35_code 7 (some .int) ∈ gtbl := gmem (List.mem_append_right _ (List.mem_of_getElem? (i := 982) (by decide +kernel))) rfl
set_option maxRecDepth 20000 in
theorem kt_571 : Cond.methodLink R_law 101 y_CS_taken ∈ gtbl := gmem (List.mem_append_right _ (List.mem_of_getElem? (i := 571) (by decide +kernel))) rfl
set_option maxRecDepth 20000 in
theorem kt_572 : Cond.instanceMethod y_CS_taken ∈ gtbl := gmem (List.mem_append_right _ (List.mem_of_getElem? (i := 572) (by decide +kernel))) rfl
set_option maxRecDepth 20000 in
theorem kt_573 : Cond.selects R_CS y_CS_taken y_CS_taken ∈ gtbl := gmem (List.mem_append_right _ (List.mem_of_getElem? (i := 573) (by decide +kernel))) rfl
set_option maxRecDepth 20000 in
theorem kt_574 : Cond.code y_CS_taken prog_1_method_19_code 2 (some .int) ∈ gtbl := gmem (List.mem_append_right _ (List.mem_of_getElem? (i := 574) (by decide +kernel))) rfl
set_option maxRecDepth 20000 in
theorem kt_983 : Cond.methodLink R_law 104 y_Mo_taken ∈ gtbl := gmem (List.mem_append_right _ (List.mem_of_getElem? (i := 983) (by decide +kernel))) rfl
set_option maxRecDepth 20000 in
theorem kt_984 : Cond.instanceMethod y_Mo_taken ∈ gtbl := gmem (List.mem_append_right _ (List.mem_of_getElem? (i := 984) (by decide +kernel))) rfl
set_option maxRecDepth 20000 in
theorem kt_985 : Cond.selects R_Mo y_Mo_taken y_Mo_taken ∈ gtbl := gmem (List.mem_append_right _ (List.mem_of_getElem? (i := 985) (by decide +kernel))) rfl
set_option maxRecDepth 20000 in
theorem kt_986 : Cond.code y_Mo_taken prog_10_method_36_code 2 (some .int) ∈ gtbl := gmem (List.mem_append_right _ (List.mem_of_getElem? (i := 986) (by decide +kernel))) rfl
set_option maxRecDepth 20000 in
theorem kt_575 : Cond.methodLink R_law 105 y_CS_left ∈ gtbl := gmem (List.mem_append_right _ (List.mem_of_getElem? (i := 575) (by decide +kernel))) rfl
set_option maxRecDepth 20000 in
theorem kt_576 : Cond.instanceMethod y_CS_left ∈ gtbl := gmem (List.mem_append_right _ (List.mem_of_getElem? (i := 576) (by decide +kernel))) rfl
set_option maxRecDepth 20000 in
theorem kt_577 : Cond.selects R_CS y_CS_left y_CS_left ∈ gtbl := gmem (List.mem_append_right _ (List.mem_of_getElem? (i := 577) (by decide +kernel))) rfl
set_option maxRecDepth 20000 in
theorem kt_578 : Cond.code y_CS_left prog_1_method_20_code 1 (some .int) ∈ gtbl := gmem (List.mem_append_right _ (List.mem_of_getElem? (i := 578) (by decide +kernel))) rfl
set_option maxRecDepth 20000 in
theorem kt_987 : Cond.methodLink R_law 108 y_Mo_left ∈ gtbl := gmem (List.mem_append_right _ (List.mem_of_getElem? (i := 987) (by decide +kernel))) rfl
set_option maxRecDepth 20000 in
theorem kt_988 : Cond.instanceMethod y_Mo_left ∈ gtbl := gmem (List.mem_append_right _ (List.mem_of_getElem? (i := 988) (by decide +kernel))) rfl
set_option maxRecDepth 20000 in
theorem kt_989 : Cond.selects R_Mo y_Mo_left y_Mo_left ∈ gtbl := gmem (List.mem_append_right _ (List.mem_of_getElem? (i := 989) (by decide +kernel))) rfl
set_option maxRecDepth 20000 in
theorem kt_990 : Cond.code y_Mo_left prog_10_method_37_code 1 (some .int) ∈ gtbl := gmem (List.mem_append_right _ (List.mem_of_getElem? (i := 990) (by decide +kernel))) rfl
set_option maxRecDepth 20000 in
theorem kt_579 : Cond.methodLink R_law 109 y_CS_greedy ∈ gtbl := gmem (List.mem_append_right _ (List.mem_of_getElem? (i := 579) (by decide +kernel))) rfl
set_option maxRecDepth 20000 in
theorem kt_580 : Cond.instanceMethod y_CS_greedy ∈ gtbl := gmem (List.mem_append_right _ (List.mem_of_getElem? (i := 580) (by decide +kernel))) rfl
set_option maxRecDepth 20000 in
theorem kt_581 : Cond.selects R_CS y_CS_greedy y_CS_greedy ∈ gtbl := gmem (List.mem_append_right _ (List.mem_of_getElem? (i := 581) (by decide +kernel))) rfl
set_option maxRecDepth 20000 in
theorem kt_582 : Cond.code y_CS_greedy prog_1_method_21_code 2 (some .int) ∈ gtbl := gmem (List.mem_append_right _ (List.mem_of_getElem? (i := 582) (by decide +kernel))) rfl
set_option maxRecDepth 20000 in
theorem kt_991 : Cond.methodLink R_law 112 y_Mo_greedy ∈ gtbl := gmem (List.mem_append_right _ (List.mem_of_getElem? (i := 991) (by decide +kernel))) rfl
set_option maxRecDepth 20000 in
theorem kt_992 : Cond.instanceMethod y_Mo_greedy ∈ gtbl := gmem (List.mem_append_right _ (List.mem_of_getElem? (i := 992) (by decide +kernel))) rfl
set_option maxRecDepth 20000 in
theorem kt_993 : Cond.selects R_Mo y_Mo_greedy y_Mo_greedy ∈ gtbl := gmem (List.mem_append_right _ (List.mem_of_getElem? (i := 993) (by decide +kernel))) rfl
set_option maxRecDepth 20000 in
theorem kt_994 : Cond.code y_Mo_greedy prog_10_method_43_code 5 (some .int) ∈ gtbl := gmem (List.mem_append_right _ (List.mem_of_getElem? (i := 994) (by decide +kernel))) rfl
set_option maxRecDepth 20000 in
theorem kt_606 : Cond.methodLink R_law 113 y_CS_tint ∈ gtbl := gmem (List.mem_append_right _ (List.mem_of_getElem? (i := 606) (by decide +kernel))) rfl
set_option maxRecDepth 20000 in
theorem kt_607 : Cond.instanceMethod y_CS_tint ∈ gtbl := gmem (List.mem_append_right _ (List.mem_of_getElem? (i := 607) (by decide +kernel))) rfl
set_option maxRecDepth 20000 in
theorem kt_608 : Cond.selects R_CS y_CS_tint y_CS_tint ∈ gtbl := gmem (List.mem_append_right _ (List.mem_of_getElem? (i := 608) (by decide +kernel))) rfl
set_option maxRecDepth 20000 in
theorem kt_609 : Cond.code y_CS_tint prog_1_method_22_code 2 (some .int) ∈ gtbl := gmem (List.mem_append_right _ (List.mem_of_getElem? (i := 609) (by decide +kernel))) rfl
set_option maxRecDepth 20000 in
theorem kt_1015 : Cond.methodLink R_law 116 y_Mo_tint ∈ gtbl := gmem (List.mem_append_right _ (List.mem_of_getElem? (i := 1015) (by decide +kernel))) rfl
set_option maxRecDepth 20000 in
theorem kt_1016 : Cond.instanceMethod y_Mo_tint ∈ gtbl := gmem (List.mem_append_right _ (List.mem_of_getElem? (i := 1016) (by decide +kernel))) rfl
set_option maxRecDepth 20000 in
theorem kt_1017 : Cond.selects R_Mo y_Mo_tint y_Mo_tint ∈ gtbl := gmem (List.mem_append_right _ (List.mem_of_getElem? (i := 1017) (by decide +kernel))) rfl
set_option maxRecDepth 20000 in
theorem kt_1018 : Cond.code y_Mo_tint prog_10_method_44_code 2 (some .int) ∈ gtbl := gmem (List.mem_append_right _ (List.mem_of_getElem? (i := 1018) (by decide +kernel))) rfl
set_option maxRecDepth 20000 in
theorem kt_610 : Cond.methodLink R_law 117 y_CS_put ∈ gtbl := gmem (List.mem_append_right _ (List.mem_of_getElem? (i := 610) (by decide +kernel))) rfl
set_option maxRecDepth 20000 in
theorem kt_611 : Cond.instanceMethod y_CS_put ∈ gtbl := gmem (List.mem_append_right _ (List.mem_of_getElem? (i := 611) (by decide +kernel))) rfl
set_option maxRecDepth 20000 in
theorem kt_612 : Cond.selects R_CS y_CS_put y_CS_put ∈ gtbl := gmem (List.mem_append_right _ (List.mem_of_getElem? (i := 612) (by decide +kernel))) rfl
set_option maxRecDepth 20000 in
theorem kt_613 : Cond.code y_CS_put prog_1_method_23_code 3 (some .boolean) ∈ gtbl := gmem (List.mem_append_right _ (List.mem_of_getElem? (i := 613) (by decide +kernel))) rfl
set_option maxRecDepth 20000 in
theorem kt_1019 : Cond.methodLink R_law 120 y_Mo_put ∈ gtbl := gmem (List.mem_append_right _ (List.mem_of_getElem? (i := 1019) (by decide +kernel))) rfl
set_option maxRecDepth 20000 in
theorem kt_1020 : Cond.instanceMethod y_Mo_put ∈ gtbl := gmem (List.mem_append_right _ (List.mem_of_getElem? (i := 1020) (by decide +kernel))) rfl
set_option maxRecDepth 20000 in
theorem kt_1021 : Cond.selects R_Mo y_Mo_put y_Mo_put ∈ gtbl := gmem (List.mem_append_right _ (List.mem_of_getElem? (i := 1021) (by decide +kernel))) rfl
set_option maxRecDepth 20000 in
theorem kt_1022 : Cond.code y_Mo_put prog_10_method_45_code 3 (some .boolean) ∈ gtbl := gmem (List.mem_append_right _ (List.mem_of_getElem? (i := 1022) (by decide +kernel))) rfl
set_option maxRecDepth 20000 in
theorem kt_617 : Cond.methodLink R_law 121 y_CS_tried ∈ gtbl := gmem (List.mem_append_right _ (List.mem_of_getElem? (i := 617) (by decide +kernel))) rfl
set_option maxRecDepth 20000 in
theorem kt_618 : Cond.instanceMethod y_CS_tried ∈ gtbl := gmem (List.mem_append_right _ (List.mem_of_getElem? (i := 618) (by decide +kernel))) rfl
set_option maxRecDepth 20000 in
theorem kt_619 : Cond.selects R_CS y_CS_tried y_CS_tried ∈ gtbl := gmem (List.mem_append_right _ (List.mem_of_getElem? (i := 619) (by decide +kernel))) rfl
set_option maxRecDepth 20000 in
theorem kt_620 : Cond.code y_CS_tried prog_1_method_24_code 2 (some .int) ∈ gtbl := gmem (List.mem_append_right _ (List.mem_of_getElem? (i := 620) (by decide +kernel))) rfl
set_option maxRecDepth 20000 in
theorem kt_1023 : Cond.methodLink R_law 124 y_Mo_tried ∈ gtbl := gmem (List.mem_append_right _ (List.mem_of_getElem? (i := 1023) (by decide +kernel))) rfl
set_option maxRecDepth 20000 in
theorem kt_1024 : Cond.instanceMethod y_Mo_tried ∈ gtbl := gmem (List.mem_append_right _ (List.mem_of_getElem? (i := 1024) (by decide +kernel))) rfl
set_option maxRecDepth 20000 in
theorem kt_1025 : Cond.selects R_Mo y_Mo_tried y_Mo_tried ∈ gtbl := gmem (List.mem_append_right _ (List.mem_of_getElem? (i := 1025) (by decide +kernel))) rfl
set_option maxRecDepth 20000 in
theorem kt_1026 : Cond.code y_Mo_tried prog_10_method_46_code 2 (some .int) ∈ gtbl := gmem (List.mem_append_right _ (List.mem_of_getElem? (i := 1026) (by decide +kernel))) rfl
set_option maxRecDepth 20000 in
theorem kt_621 : Cond.methodLink R_law 125 y_CS_faults ∈ gtbl := gmem (List.mem_append_right _ (List.mem_of_getElem? (i := 621) (by decide +kernel))) rfl
set_option maxRecDepth 20000 in
theorem kt_622 : Cond.instanceMethod y_CS_faults ∈ gtbl := gmem (List.mem_append_right _ (List.mem_of_getElem? (i := 622) (by decide +kernel))) rfl
set_option maxRecDepth 20000 in
theorem kt_623 : Cond.selects R_CS y_CS_faults y_CS_faults ∈ gtbl := gmem (List.mem_append_right _ (List.mem_of_getElem? (i := 623) (by decide +kernel))) rfl
set_option maxRecDepth 20000 in
theorem kt_624 : Cond.code y_CS_faults prog_1_method_25_code 4 (some .int) ∈ gtbl := gmem (List.mem_append_right _ (List.mem_of_getElem? (i := 624) (by decide +kernel))) rfl
set_option maxRecDepth 20000 in
theorem kt_1027 : Cond.methodLink R_law 128 y_Mo_faults ∈ gtbl := gmem (List.mem_append_right _ (List.mem_of_getElem? (i := 1027) (by decide +kernel))) rfl
set_option maxRecDepth 20000 in
theorem kt_1028 : Cond.instanceMethod y_Mo_faults ∈ gtbl := gmem (List.mem_append_right _ (List.mem_of_getElem? (i := 1028) (by decide +kernel))) rfl
set_option maxRecDepth 20000 in
theorem kt_1029 : Cond.selects R_Mo y_Mo_faults y_Mo_faults ∈ gtbl := gmem (List.mem_append_right _ (List.mem_of_getElem? (i := 1029) (by decide +kernel))) rfl
set_option maxRecDepth 20000 in
theorem kt_1030 : Cond.code y_Mo_faults prog_10_method_47_code 3 (some .int) ∈ gtbl := gmem (List.mem_append_right _ (List.mem_of_getElem? (i := 1030) (by decide +kernel))) rfl
set_option maxRecDepth 20000 in
theorem kt_625 : Cond.methodLink R_law 129 y_CS_turn ∈ gtbl := gmem (List.mem_append_right _ (List.mem_of_getElem? (i := 625) (by decide +kernel))) rfl
set_option maxRecDepth 20000 in
theorem kt_626 : Cond.instanceMethod y_CS_turn ∈ gtbl := gmem (List.mem_append_right _ (List.mem_of_getElem? (i := 626) (by decide +kernel))) rfl
set_option maxRecDepth 20000 in
theorem kt_627 : Cond.selects R_CS y_CS_turn y_CS_turn ∈ gtbl := gmem (List.mem_append_right _ (List.mem_of_getElem? (i := 627) (by decide +kernel))) rfl
set_option maxRecDepth 20000 in
theorem kt_628 : Cond.code y_CS_turn prog_1_method_26_code 6 (some .int) ∈ gtbl := gmem (List.mem_append_right _ (List.mem_of_getElem? (i := 628) (by decide +kernel))) rfl
set_option maxRecDepth 20000 in
theorem kt_1031 : Cond.methodLink R_law 132 y_Mo_turn ∈ gtbl := gmem (List.mem_append_right _ (List.mem_of_getElem? (i := 1031) (by decide +kernel))) rfl
set_option maxRecDepth 20000 in
theorem kt_1032 : Cond.instanceMethod y_Mo_turn ∈ gtbl := gmem (List.mem_append_right _ (List.mem_of_getElem? (i := 1032) (by decide +kernel))) rfl
set_option maxRecDepth 20000 in
theorem kt_1033 : Cond.selects R_Mo y_Mo_turn y_Mo_turn ∈ gtbl := gmem (List.mem_append_right _ (List.mem_of_getElem? (i := 1033) (by decide +kernel))) rfl
set_option maxRecDepth 20000 in
theorem kt_1034 : Cond.code y_Mo_turn prog_10_method_48_code 9 (some .int) ∈ gtbl := gmem (List.mem_append_right _ (List.mem_of_getElem? (i := 1034) (by decide +kernel))) rfl
set_option maxRecDepth 20000 in
theorem kt_634 : Cond.methodLink R_law 133 y_CS_told ∈ gtbl := gmem (List.mem_append_right _ (List.mem_of_getElem? (i := 634) (by decide +kernel))) rfl
set_option maxRecDepth 20000 in
theorem kt_635 : Cond.instanceMethod y_CS_told ∈ gtbl := gmem (List.mem_append_right _ (List.mem_of_getElem? (i := 635) (by decide +kernel))) rfl
set_option maxRecDepth 20000 in
theorem kt_636 : Cond.selects R_CS y_CS_told y_CS_told ∈ gtbl := gmem (List.mem_append_right _ (List.mem_of_getElem? (i := 636) (by decide +kernel))) rfl
set_option maxRecDepth 20000 in
theorem kt_637 : Cond.code y_CS_told prog_1_method_27_code 2 (some .int) ∈ gtbl := gmem (List.mem_append_right _ (List.mem_of_getElem? (i := 637) (by decide +kernel))) rfl
set_option maxRecDepth 20000 in
theorem kt_1035 : Cond.methodLink R_law 136 y_Mo_told ∈ gtbl := gmem (List.mem_append_right _ (List.mem_of_getElem? (i := 1035) (by decide +kernel))) rfl
set_option maxRecDepth 20000 in
theorem kt_1036 : Cond.instanceMethod y_Mo_told ∈ gtbl := gmem (List.mem_append_right _ (List.mem_of_getElem? (i := 1036) (by decide +kernel))) rfl
set_option maxRecDepth 20000 in
theorem kt_1037 : Cond.selects R_Mo y_Mo_told y_Mo_told ∈ gtbl := gmem (List.mem_append_right _ (List.mem_of_getElem? (i := 1037) (by decide +kernel))) rfl
set_option maxRecDepth 20000 in
theorem kt_1038 : Cond.code y_Mo_told prog_10_method_49_code 5 (some .int) ∈ gtbl := gmem (List.mem_append_right _ (List.mem_of_getElem? (i := 1038) (by decide +kernel))) rfl
set_option maxRecDepth 20000 in
theorem kt_656 : Cond.methodLink R_law 137 y_CS_clear ∈ gtbl := gmem (List.mem_append_right _ (List.mem_of_getElem? (i := 656) (by decide +kernel))) rfl
set_option maxRecDepth 20000 in
theorem kt_657 : Cond.instanceMethod y_CS_clear ∈ gtbl := gmem (List.mem_append_right _ (List.mem_of_getElem? (i := 657) (by decide +kernel))) rfl
set_option maxRecDepth 20000 in
theorem kt_658 : Cond.selects R_CS y_CS_clear y_CS_clear ∈ gtbl := gmem (List.mem_append_right _ (List.mem_of_getElem? (i := 658) (by decide +kernel))) rfl
set_option maxRecDepth 20000 in
theorem kt_659 : Cond.code y_CS_clear prog_1_method_28_code 1 none ∈ gtbl := gmem (List.mem_append_right _ (List.mem_of_getElem? (i := 659) (by decide +kernel))) rfl
set_option maxRecDepth 20000 in
theorem kt_859 : Cond.methodLink R_law 140 y_Mo_clear ∈ gtbl := gmem (List.mem_append_right _ (List.mem_of_getElem? (i := 859) (by decide +kernel))) rfl
set_option maxRecDepth 20000 in
theorem kt_677 : Cond.methodLink R_law 7 y_CS_arcs ∈ gtbl := gmem (List.mem_append_right _ (List.mem_of_getElem? (i := 677) (by decide +kernel))) rfl
set_option maxRecDepth 20000 in
theorem kt_678 : Cond.instanceMethod y_CS_arcs ∈ gtbl := gmem (List.mem_append_right _ (List.mem_of_getElem? (i := 678) (by decide +kernel))) rfl
set_option maxRecDepth 20000 in
theorem kt_679 : Cond.selects R_CS y_CS_arcs y_CS_arcs ∈ gtbl := gmem (List.mem_append_right _ (List.mem_of_getElem? (i := 679) (by decide +kernel))) rfl
set_option maxRecDepth 20000 in
theorem kt_680 : Cond.code y_CS_arcs prog_1_method_14_code 2 (some .int) ∈ gtbl := gmem (List.mem_append_right _ (List.mem_of_getElem? (i := 680) (by decide +kernel))) rfl
set_option maxRecDepth 20000 in
theorem kl_arcs : Cond.methodLink R_law 76 y_law_arcs ∈ gtbl := gmem (List.mem_append_right _ (List.mem_of_getElem? (i := 673) (by decide +kernel))) rfl
set_option maxRecDepth 20000 in
theorem kl_arcs_st : Cond.static y_law_arcs ∈ gtbl := gmem (List.mem_append_right _ (List.mem_of_getElem? (i := 674) (by decide +kernel))) rfl
set_option maxRecDepth 20000 in
theorem kl_arcs_cd : Cond.codeWith y_law_arcs method_3_code 3 (some .int) [(0, 8, 11, 13)] ∈ gtbl := gmem (List.mem_append_right _ (List.mem_of_getElem? (i := 675) (by decide +kernel))) rfl
set_option maxRecDepth 20000 in
theorem kl_ise : Cond.classLink R_law 13 ISE ∈ gtbl := gmem (List.mem_append_right _ (List.mem_of_getElem? (i := 676) (by decide +kernel))) rfl
set_option maxRecDepth 20000 in
theorem kl_ini : Cond.initialized R_law ∈ gtbl := gmem (List.mem_append_right _ (List.mem_of_getElem? (i := 0) (by decide +kernel))) rfl
set_option maxRecDepth 20000 in
theorem kl_new1 : Cond.classLink R_law 8 R_CS ∈ gtbl := gmem (List.mem_append_right _ (List.mem_of_getElem? (i := 18) (by decide +kernel))) rfl
set_option maxRecDepth 20000 in
theorem kl_new2 : Cond.classLink R_law 16 R_Mo ∈ gtbl := gmem (List.mem_append_right _ (List.mem_of_getElem? (i := 754) (by decide +kernel))) rfl
set_option maxRecDepth 20000 in
theorem kl_inst1 : Cond.instantiable R_CS 11 ∈ gtbl := gmem (List.mem_append_right _ (List.mem_of_getElem? (i := 19) (by decide +kernel))) rfl
set_option maxRecDepth 20000 in
theorem kl_inst2 : Cond.instantiable R_Mo 28 ∈ gtbl := gmem (List.mem_append_right _ (List.mem_of_getElem? (i := 755) (by decide +kernel))) rfl
set_option maxRecDepth 20000 in
theorem kl_mask : Cond.constantLong R_law 46 4294967295 ∈ gtbl := gmem (List.mem_append_right _ (List.mem_of_getElem? (i := 1043) (by decide +kernel))) rfl
theorem d_la_0 : decode method_3_code 0 = .ok (.aload_n 1, 1) := by decide +kernel
theorem d_la_1 : decode method_3_code 1 = .ok (.iconst 0, 1) := by decide +kernel
theorem d_la_2 : decode method_3_code 2 = .ok (.aload_n 0, 1) := by decide +kernel
theorem d_la_3 : decode method_3_code 3 = .ok (.invokevirtual 7, 3) := by decide +kernel
theorem d_la_6 : decode method_3_code 6 = .ok (.i2l, 1) := by decide +kernel
theorem d_la_7 : decode method_3_code 7 = .ok (.lastore, 1) := by decide +kernel
theorem d_la_8 : decode method_3_code 8 = .ok (.goto 6, 3) := by decide +kernel
theorem d_la_11 : decode method_3_code 11 = .ok (.astore_n 2, 1) := by decide +kernel
theorem d_la_12 : decode method_3_code 12 = .ok (.iconst 1, 1) := by decide +kernel
theorem d_la_13 : decode method_3_code 13 = .ok (.ireturn, 1) := by decide +kernel
theorem d_la_14 : decode method_3_code 14 = .ok (.iconst 0, 1) := by decide +kernel
theorem d_la_15 : decode method_3_code 15 = .ok (.ireturn, 1) := by decide +kernel
