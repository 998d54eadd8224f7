theorem cb_X7_arms : CB yX7_arms cX7_arms 3 (some .int) 1 := ⟨(tw 280 (by decide +kernel) (by decide +kernel)), (tw 281 (by decide +kernel) (by decide +kernel)), (tw 1 (by decide +kernel) (by decide +kernel)), (tw 282 (by decide +kernel) (by decide +kernel)), by decide +kernel⟩
theorem cb_X8_arms : CB yX8_arms cX8_arms 3 (some .int) 1 := ⟨(tw 871 (by decide +kernel) (by decide +kernel)), (tw 872 (by decide +kernel) (by decide +kernel)), (tw 10 (by decide +kernel) (by decide +kernel)), (tw 873 (by decide +kernel) (by decide +kernel)), by decide +kernel⟩
theorem cb_X7_seed : CB yX7_seed cX7_seed 3 (some .int) 1 := ⟨(tw 300 (by decide +kernel) (by decide +kernel)), (tw 301 (by decide +kernel) (by decide +kernel)), (tw 1 (by decide +kernel) (by decide +kernel)), (tw 302 (by decide +kernel) (by decide +kernel)), by decide +kernel⟩
theorem cb_X8_seed : CB yX8_seed cX8_seed 3 (some .int) 1 := ⟨(tw 887 (by decide +kernel) (by decide +kernel)), (tw 888 (by decide +kernel) (by decide +kernel)), (tw 10 (by decide +kernel) (by decide +kernel)), (tw 889 (by decide +kernel) (by decide +kernel)), by decide +kernel⟩
theorem cb_X7_feed : CB yX7_feed cX7_feed 2 (some .int) 1 := ⟨(tw 304 (by decide +kernel) (by decide +kernel)), (tw 305 (by decide +kernel) (by decide +kernel)), (tw 1 (by decide +kernel) (by decide +kernel)), (tw 306 (by decide +kernel) (by decide +kernel)), by decide +kernel⟩
theorem cb_X8_feed : CB yX8_feed cX8_feed 2 (some .int) 1 := ⟨(tw 891 (by decide +kernel) (by decide +kernel)), (tw 892 (by decide +kernel) (by decide +kernel)), (tw 10 (by decide +kernel) (by decide +kernel)), (tw 893 (by decide +kernel) (by decide +kernel)), by decide +kernel⟩
theorem cb_X7_tree : CB yX7_tree cX7_tree 6 (some .int) 1 := ⟨(tw 312 (by decide +kernel) (by decide +kernel)), (tw 313 (by decide +kernel) (by decide +kernel)), (tw 1 (by decide +kernel) (by decide +kernel)), (tw 314 (by decide +kernel) (by decide +kernel)), by decide +kernel⟩
theorem cb_X8_tree : CB yX8_tree cX8_tree 5 (some .int) 1 := ⟨(tw 896 (by decide +kernel) (by decide +kernel)), (tw 897 (by decide +kernel) (by decide +kernel)), (tw 10 (by decide +kernel) (by decide +kernel)), (tw 898 (by decide +kernel) (by decide +kernel)), by decide +kernel⟩
theorem cb_X7_of : CB yX7_of cX7_of 4 (some .int) 2 := ⟨(tw 353 (by decide +kernel) (by decide +kernel)), (tw 354 (by decide +kernel) (by decide +kernel)), (tw 1 (by decide +kernel) (by decide +kernel)), (tw 355 (by decide +kernel) (by decide +kernel)), by decide +kernel⟩
theorem cb_X8_of : CB yX8_of cX8_of 3 (some .int) 2 := ⟨(tw 922 (by decide +kernel) (by decide +kernel)), (tw 923 (by decide +kernel) (by decide +kernel)), (tw 10 (by decide +kernel) (by decide +kernel)), (tw 924 (by decide +kernel) (by decide +kernel)), by decide +kernel⟩
theorem cb_X7_cause : CB yX7_cause cX7_cause 6 (some .int) 2 := ⟨(tw 392 (by decide +kernel) (by decide +kernel)), (tw 393 (by decide +kernel) (by decide +kernel)), (tw 1 (by decide +kernel) (by decide +kernel)), (tw 394 (by decide +kernel) (by decide +kernel)), by decide +kernel⟩
theorem cb_X8_cause : CB yX8_cause cX8_cause 5 (some .int) 2 := ⟨(tw 955 (by decide +kernel) (by decide +kernel)), (tw 956 (by decide +kernel) (by decide +kernel)), (tw 10 (by decide +kernel) (by decide +kernel)), (tw 957 (by decide +kernel) (by decide +kernel)), by decide +kernel⟩
theorem cb_X7_arm : CB yX7_arm cX7_arm 4 (some .int) 2 := ⟨(tw 396 (by decide +kernel) (by decide +kernel)), (tw 397 (by decide +kernel) (by decide +kernel)), (tw 1 (by decide +kernel) (by decide +kernel)), (tw 398 (by decide +kernel) (by decide +kernel)), by decide +kernel⟩
theorem cb_X8_arm : CB yX8_arm cX8_arm 3 (some .int) 2 := ⟨(tw 959 (by decide +kernel) (by decide +kernel)), (tw 960 (by decide +kernel) (by decide +kernel)), (tw 10 (by decide +kernel) (by decide +kernel)), (tw 961 (by decide +kernel) (by decide +kernel)), by decide +kernel⟩
theorem cb_X7_pass : CB yX7_pass cX7_pass 2 (some .int) 1 := ⟨(tw 404 (by decide +kernel) (by decide +kernel)), (tw 405 (by decide +kernel) (by decide +kernel)), (tw 1 (by decide +kernel) (by decide +kernel)), (tw 406 (by decide +kernel) (by decide +kernel)), by decide +kernel⟩
theorem cb_X8_pass : CB yX8_pass cX8_pass 2 (some .int) 1 := ⟨(tw 964 (by decide +kernel) (by decide +kernel)), (tw 965 (by decide +kernel) (by decide +kernel)), (tw 10 (by decide +kernel) (by decide +kernel)), (tw 966 (by decide +kernel) (by decide +kernel)), by decide +kernel⟩
theorem cb_X7_cancel : CB yX7_cancel cX7_cancel 2 (some .int) 1 := ⟨(tw 476 (by decide +kernel) (by decide +kernel)), (tw 477 (by decide +kernel) (by decide +kernel)), (tw 1 (by decide +kernel) (by decide +kernel)), (tw 478 (by decide +kernel) (by decide +kernel)), by decide +kernel⟩
theorem cb_X8_cancel : CB yX8_cancel cX8_cancel 3 (some .int) 1 := ⟨(tw 1038 (by decide +kernel) (by decide +kernel)), (tw 1039 (by decide +kernel) (by decide +kernel)), (tw 10 (by decide +kernel) (by decide +kernel)), (tw 1040 (by decide +kernel) (by decide +kernel)), by decide +kernel⟩
theorem cb_X7_told : CB yX7_told cX7_told 2 (some .int) 1 := ⟨(tw 485 (by decide +kernel) (by decide +kernel)), (tw 486 (by decide +kernel) (by decide +kernel)), (tw 1 (by decide +kernel) (by decide +kernel)), (tw 487 (by decide +kernel) (by decide +kernel)), by decide +kernel⟩
theorem cb_X8_told : CB yX8_told cX8_told 2 (some .int) 1 := ⟨(tw 1046 (by decide +kernel) (by decide +kernel)), (tw 1047 (by decide +kernel) (by decide +kernel)), (tw 10 (by decide +kernel) (by decide +kernel)), (tw 1048 (by decide +kernel) (by decide +kernel)), by decide +kernel⟩
theorem cb_X7_trace : CB yX7_trace cX7_trace 3 (some .int) 2 := ⟨(tw 531 (by decide +kernel) (by decide +kernel)), (tw 532 (by decide +kernel) (by decide +kernel)), (tw 1 (by decide +kernel) (by decide +kernel)), (tw 533 (by decide +kernel) (by decide +kernel)), by decide +kernel⟩
theorem cb_X8_trace : CB yX8_trace cX8_trace 3 (some .int) 2 := ⟨(tw 1074 (by decide +kernel) (by decide +kernel)), (tw 1075 (by decide +kernel) (by decide +kernel)), (tw 10 (by decide +kernel) (by decide +kernel)), (tw 1076 (by decide +kernel) (by decide +kernel)), by decide +kernel⟩
theorem cb_X7_on : CB yX7_on cX7_on 3 (some .int) 2 := ⟨(tw 539 (by decide +kernel) (by decide +kernel)), (tw 540 (by decide +kernel) (by decide +kernel)), (tw 1 (by decide +kernel) (by decide +kernel)), (tw 541 (by decide +kernel) (by decide +kernel)), by decide +kernel⟩
theorem cb_X8_on : CB yX8_on cX8_on 4 (some .int) 2 := ⟨(tw 1078 (by decide +kernel) (by decide +kernel)), (tw 1079 (by decide +kernel) (by decide +kernel)), (tw 10 (by decide +kernel) (by decide +kernel)), (tw 1080 (by decide +kernel) (by decide +kernel)), by decide +kernel⟩
theorem cb_X7_till : CB yX7_till cX7_till 2 (some .int) 1 := ⟨(tw 559 (by decide +kernel) (by decide +kernel)), (tw 560 (by decide +kernel) (by decide +kernel)), (tw 1 (by decide +kernel) (by decide +kernel)), (tw 561 (by decide +kernel) (by decide +kernel)), by decide +kernel⟩
theorem cb_X8_till : CB yX8_till cX8_till 2 (some .int) 1 := ⟨(tw 1094 (by decide +kernel) (by decide +kernel)), (tw 1095 (by decide +kernel) (by decide +kernel)), (tw 10 (by decide +kernel) (by decide +kernel)), (tw 1096 (by decide +kernel) (by decide +kernel)), by decide +kernel⟩
theorem cb_X7_see : CB yX7_see cX7_see 3 (some .int) 2 := ⟨(tw 563 (by decide +kernel) (by decide +kernel)), (tw 564 (by decide +kernel) (by decide +kernel)), (tw 1 (by decide +kernel) (by decide +kernel)), (tw 565 (by decide +kernel) (by decide +kernel)), by decide +kernel⟩
theorem cb_X8_see : CB yX8_see cX8_see 3 (some .int) 2 := ⟨(tw 1098 (by decide +kernel) (by decide +kernel)), (tw 1099 (by decide +kernel) (by decide +kernel)), (tw 10 (by decide +kernel) (by decide +kernel)), (tw 1100 (by decide +kernel) (by decide +kernel)), by decide +kernel⟩
theorem cb_X7_seeds : CB yX7_seeds cX7_seeds 3 (some .int) 0 := ⟨(tw 575 (by decide +kernel) (by decide +kernel)), (tw 576 (by decide +kernel) (by decide +kernel)), (tw 1 (by decide +kernel) (by decide +kernel)), (tw 577 (by decide +kernel) (by decide +kernel)), by decide +kernel⟩
theorem cb_X8_seeds : CB yX8_seeds cX8_seeds 3 (some .int) 0 := ⟨(tw 1103 (by decide +kernel) (by decide +kernel)), (tw 1104 (by decide +kernel) (by decide +kernel)), (tw 10 (by decide +kernel) (by decide +kernel)), (tw 1105 (by decide +kernel) (by decide +kernel)), by decide +kernel⟩
theorem cb_X7_odds : CB yX7_odds cX7_odds 5 (some .long) 2 := ⟨(tw 596 (by decide +kernel) (by decide +kernel)), (tw 597 (by decide +kernel) (by decide +kernel)), (tw 1 (by decide +kernel) (by decide +kernel)), (tw 598 (by decide +kernel) (by decide +kernel)), by decide +kernel⟩
theorem cb_X8_odds : CB yX8_odds cX8_odds 5 (some .long) 2 := ⟨(tw 1111 (by decide +kernel) (by decide +kernel)), (tw 1112 (by decide +kernel) (by decide +kernel)), (tw 10 (by decide +kernel) (by decide +kernel)), (tw 1113 (by decide +kernel) (by decide +kernel)), by decide +kernel⟩
theorem cb_X7_mean : CB yX7_mean cX7_mean 3 (some .long) 1 := ⟨(tw 604 (by decide +kernel) (by decide +kernel)), (tw 605 (by decide +kernel) (by decide +kernel)), (tw 1 (by decide +kernel) (by decide +kernel)), (tw 606 (by decide +kernel) (by decide +kernel)), by decide +kernel⟩
theorem cb_X8_mean : CB yX8_mean cX8_mean 2 (some .long) 1 := ⟨(tw 1123 (by decide +kernel) (by decide +kernel)), (tw 1124 (by decide +kernel) (by decide +kernel)), (tw 10 (by decide +kernel) (by decide +kernel)), (tw 1125 (by decide +kernel) (by decide +kernel)), by decide +kernel⟩
theorem cb_X7_plan : CB yX7_plan cX7_plan 3 (some .int) 2 := ⟨(tw 612 (by decide +kernel) (by decide +kernel)), (tw 613 (by decide +kernel) (by decide +kernel)), (tw 1 (by decide +kernel) (by decide +kernel)), (tw 614 (by decide +kernel) (by decide +kernel)), by decide +kernel⟩
theorem cb_X8_plan : CB yX8_plan cX8_plan 3 (some .int) 2 := ⟨(tw 1131 (by decide +kernel) (by decide +kernel)), (tw 1132 (by decide +kernel) (by decide +kernel)), (tw 10 (by decide +kernel) (by decide +kernel)), (tw 1133 (by decide +kernel) (by decide +kernel)), by decide +kernel⟩
theorem cb_X7_ends : CB yX7_ends cX7_ends 3 (some .int) 1 := ⟨(tw 616 (by decide +kernel) (by decide +kernel)), (tw 617 (by decide +kernel) (by decide +kernel)), (tw 1 (by decide +kernel) (by decide +kernel)), (tw 618 (by decide +kernel) (by decide +kernel)), by decide +kernel⟩
theorem cb_X8_ends : CB yX8_ends cX8_ends 3 (some .int) 1 := ⟨(tw 1136 (by decide +kernel) (by decide +kernel)), (tw 1137 (by decide +kernel) (by decide +kernel)), (tw 10 (by decide +kernel) (by decide +kernel)), (tw 1138 (by decide +kernel) (by decide +kernel)), by decide +kernel⟩
theorem cb_X7_book : CB yX7_book cX7_book 3 (some .int) 2 := ⟨(tw 625 (by decide +kernel) (by decide +kernel)), (tw 626 (by decide +kernel) (by decide +kernel)), (tw 1 (by decide +kernel) (by decide +kernel)), (tw 627 (by decide +kernel) (by decide +kernel)), by decide +kernel⟩
theorem cb_X8_book : CB yX8_book cX8_book 3 (some .int) 2 := ⟨(tw 1144 (by decide +kernel) (by decide +kernel)), (tw 1145 (by decide +kernel) (by decide +kernel)), (tw 10 (by decide +kernel) (by decide +kernel)), (tw 1146 (by decide +kernel) (by decide +kernel)), by decide +kernel⟩
theorem cb_X7_looked : CB yX7_looked cX7_looked 3 (some .int) 0 := ⟨(tw 629 (by decide +kernel) (by decide +kernel)), (tw 630 (by decide +kernel) (by decide +kernel)), (tw 1 (by decide +kernel) (by decide +kernel)), (tw 631 (by decide +kernel) (by decide +kernel)), by decide +kernel⟩
theorem cb_X8_looked : CB yX8_looked cX8_looked 2 (some .int) 0 := ⟨(tw 1149 (by decide +kernel) (by decide +kernel)), (tw 1150 (by decide +kernel) (by decide +kernel)), (tw 10 (by decide +kernel) (by decide +kernel)), (tw 1151 (by decide +kernel) (by decide +kernel)), by decide +kernel⟩
theorem cb_X7_judge : CB yX7_judge cX7_judge 6 (some .int) 2 := ⟨(tw 633 (by decide +kernel) (by decide +kernel)), (tw 634 (by decide +kernel) (by decide +kernel)), (tw 1 (by decide +kernel) (by decide +kernel)), (tw 635 (by decide +kernel) (by decide +kernel)), by decide +kernel⟩
theorem cb_X8_judge : CB yX8_judge cX8_judge 4 (some .int) 2 := ⟨(tw 1181 (by decide +kernel) (by decide +kernel)), (tw 1182 (by decide +kernel) (by decide +kernel)), (tw 10 (by decide +kernel) (by decide +kernel)), (tw 1183 (by decide +kernel) (by decide +kernel)), by decide +kernel⟩
theorem cb_X7_image : CB yX7_image cX7_image 1 (some .int) 0 := ⟨(tw 641 (by decide +kernel) (by decide +kernel)), (tw 642 (by decide +kernel) (by decide +kernel)), (tw 1 (by decide +kernel) (by decide +kernel)), (tw 643 (by decide +kernel) (by decide +kernel)), by decide +kernel⟩
theorem cb_X8_image : CB yX8_image cX8_image 1 (some .int) 0 := ⟨(tw 851 (by decide +kernel) (by decide +kernel)), (tw 852 (by decide +kernel) (by decide +kernel)), (tw 10 (by decide +kernel) (by decide +kernel)), (tw 853 (by decide +kernel) (by decide +kernel)), by decide +kernel⟩
theorem cb_X7_undo : CB yX7_undo cX7_undo 1 (some .int) 0 := ⟨(tw 645 (by decide +kernel) (by decide +kernel)), (tw 646 (by decide +kernel) (by decide +kernel)), (tw 1 (by decide +kernel) (by decide +kernel)), (tw 647 (by decide +kernel) (by decide +kernel)), by decide +kernel⟩
theorem cb_X8_undo : CB yX8_undo cX8_undo 1 (some .int) 0 := ⟨(tw 867 (by decide +kernel) (by decide +kernel)), (tw 868 (by decide +kernel) (by decide +kernel)), (tw 10 (by decide +kernel) (by decide +kernel)), (tw 869 (by decide +kernel) (by decide +kernel)), by decide +kernel⟩
theorem cb_X7_count : CB yX7_count cX7_count 2 (some .int) 1 := ⟨(tw 649 (by decide +kernel) (by decide +kernel)), (tw 650 (by decide +kernel) (by decide +kernel)), (tw 1 (by decide +kernel) (by decide +kernel)), (tw 651 (by decide +kernel) (by decide +kernel)), by decide +kernel⟩
theorem cb_X8_count : CB yX8_count cX8_count 2 (some .int) 1 := ⟨(tw 1153 (by decide +kernel) (by decide +kernel)), (tw 1154 (by decide +kernel) (by decide +kernel)), (tw 10 (by decide +kernel) (by decide +kernel)), (tw 1155 (by decide +kernel) (by decide +kernel)), by decide +kernel⟩
theorem cb_X7_tape : CB yX7_tape cX7_tape 4 (some .int) 3 := ⟨(tw 653 (by decide +kernel) (by decide +kernel)), (tw 654 (by decide +kernel) (by decide +kernel)), (tw 1 (by decide +kernel) (by decide +kernel)), (tw 655 (by decide +kernel) (by decide +kernel)), by decide +kernel⟩
theorem cb_X8_tape : CB yX8_tape cX8_tape 5 (some .int) 3 := ⟨(tw 1157 (by decide +kernel) (by decide +kernel)), (tw 1158 (by decide +kernel) (by decide +kernel)), (tw 10 (by decide +kernel) (by decide +kernel)), (tw 1159 (by decide +kernel) (by decide +kernel)), by decide +kernel⟩
theorem cb_X7_item : CB yX7_item cX7_item 6 (some .int) 3 := ⟨(tw 661 (by decide +kernel) (by decide +kernel)), (tw 662 (by decide +kernel) (by decide +kernel)), (tw 1 (by decide +kernel) (by decide +kernel)), (tw 663 (by decide +kernel) (by decide +kernel)), by decide +kernel⟩
theorem cb_X8_item : CB yX8_item cX8_item 5 (some .int) 3 := ⟨(tw 1166 (by decide +kernel) (by decide +kernel)), (tw 1167 (by decide +kernel) (by decide +kernel)), (tw 10 (by decide +kernel) (by decide +kernel)), (tw 1168 (by decide +kernel) (by decide +kernel)), by decide +kernel⟩
theorem cb_X7_read : CB yX7_read cX7_read 4 (some .long) 2 := ⟨(tw 669 (by decide +kernel) (by decide +kernel)), (tw 670 (by decide +kernel) (by decide +kernel)), (tw 1 (by decide +kernel) (by decide +kernel)), (tw 671 (by decide +kernel) (by decide +kernel)), by decide +kernel⟩
theorem cb_X8_read : CB yX8_read cX8_read 3 (some .long) 2 := ⟨(tw 1173 (by decide +kernel) (by decide +kernel)), (tw 1174 (by decide +kernel) (by decide +kernel)), (tw 10 (by decide +kernel) (by decide +kernel)), (tw 1175 (by decide +kernel) (by decide +kernel)), by decide +kernel⟩
theorem cb_X7_shift : CB yX7_shift cX7_shift 8 (some .int) 5 := ⟨(tw 673 (by decide +kernel) (by decide +kernel)), (tw 674 (by decide +kernel) (by decide +kernel)), (tw 1 (by decide +kernel) (by decide +kernel)), (tw 675 (by decide +kernel) (by decide +kernel)), by decide +kernel⟩
theorem cb_X8_shift : CB yX8_shift cX8_shift 7 (some .int) 5 := ⟨(tw 1177 (by decide +kernel) (by decide +kernel)), (tw 1178 (by decide +kernel) (by decide +kernel)), (tw 10 (by decide +kernel) (by decide +kernel)), (tw 1179 (by decide +kernel) (by decide +kernel)), by decide +kernel⟩
theorem mll_13 : Cond.methodLink R_law 13 yX7_arms ∈ gw_tbl := tw 279 (by decide +kernel) (by decide +kernel)
theorem mll_17 : Cond.methodLink R_law 17 yX8_arms ∈ gw_tbl := tw 870 (by decide +kernel) (by decide +kernel)
theorem mll_18 : Cond.methodLink R_law 18 yX7_seed ∈ gw_tbl := tw 299 (by decide +kernel) (by decide +kernel)
theorem mll_21 : Cond.methodLink R_law 21 yX8_seed ∈ gw_tbl := tw 886 (by decide +kernel) (by decide +kernel)
theorem mll_22 : Cond.methodLink R_law 22 yX7_feed ∈ gw_tbl := tw 303 (by decide +kernel) (by decide +kernel)
theorem mll_25 : Cond.methodLink R_law 25 yX8_feed ∈ gw_tbl := tw 890 (by decide +kernel) (by decide +kernel)
theorem mll_26 : Cond.methodLink R_law 26 yX7_tree ∈ gw_tbl := tw 311 (by decide +kernel) (by decide +kernel)
theorem mll_29 : Cond.methodLink R_law 29 yX8_tree ∈ gw_tbl := tw 895 (by decide +kernel) (by decide +kernel)
theorem mll_30 : Cond.methodLink R_law 30 yX7_of ∈ gw_tbl := tw 352 (by decide +kernel) (by decide +kernel)
theorem mll_34 : Cond.methodLink R_law 34 yX8_of ∈ gw_tbl := tw 921 (by decide +kernel) (by decide +kernel)
theorem mll_35 : Cond.methodLink R_law 35 yX7_cause ∈ gw_tbl := tw 391 (by decide +kernel) (by decide +kernel)
theorem mll_38 : Cond.methodLink R_law 38 yX8_cause ∈ gw_tbl := tw 954 (by decide +kernel) (by decide +kernel)
theorem mll_39 : Cond.methodLink R_law 39 yX7_arm ∈ gw_tbl := tw 395 (by decide +kernel) (by decide +kernel)
theorem mll_42 : Cond.methodLink R_law 42 yX8_arm ∈ gw_tbl := tw 958 (by decide +kernel) (by decide +kernel)
theorem mll_43 : Cond.methodLink R_law 43 yX7_pass ∈ gw_tbl := tw 403 (by decide +kernel) (by decide +kernel)
theorem mll_46 : Cond.methodLink R_law 46 yX8_pass ∈ gw_tbl := tw 963 (by decide +kernel) (by decide +kernel)
theorem mll_47 : Cond.methodLink R_law 47 yX7_cancel ∈ gw_tbl := tw 475 (by decide +kernel) (by decide +kernel)
theorem mll_50 : Cond.methodLink R_law 50 yX8_cancel ∈ gw_tbl := tw 1037 (by decide +kernel) (by decide +kernel)
theorem mll_51 : Cond.methodLink R_law 51 yX7_told ∈ gw_tbl := tw 484 (by decide +kernel) (by decide +kernel)
theorem mll_54 : Cond.methodLink R_law 54 yX8_told ∈ gw_tbl := tw 1045 (by decide +kernel) (by decide +kernel)
theorem mll_55 : Cond.methodLink R_law 55 yX7_trace ∈ gw_tbl := tw 530 (by decide +kernel) (by decide +kernel)
theorem mll_58 : Cond.methodLink R_law 58 yX8_trace ∈ gw_tbl := tw 1073 (by decide +kernel) (by decide +kernel)
theorem mll_59 : Cond.methodLink R_law 59 yX7_on ∈ gw_tbl := tw 538 (by decide +kernel) (by decide +kernel)
theorem mll_62 : Cond.methodLink R_law 62 yX8_on ∈ gw_tbl := tw 1077 (by decide +kernel) (by decide +kernel)
theorem mll_63 : Cond.methodLink R_law 63 yX7_till ∈ gw_tbl := tw 558 (by decide +kernel) (by decide +kernel)
theorem mll_66 : Cond.methodLink R_law 66 yX8_till ∈ gw_tbl := tw 1093 (by decide +kernel) (by decide +kernel)
theorem mll_67 : Cond.methodLink R_law 67 yX7_see ∈ gw_tbl := tw 562 (by decide +kernel) (by decide +kernel)
theorem mll_70 : Cond.methodLink R_law 70 yX8_see ∈ gw_tbl := tw 1097 (by decide +kernel) (by decide +kernel)
theorem mll_71 : Cond.methodLink R_law 71 yX7_seeds ∈ gw_tbl := tw 574 (by decide +kernel) (by decide +kernel)
theorem mll_75 : Cond.methodLink R_law 75 yX8_seeds ∈ gw_tbl := tw 1102 (by decide +kernel) (by decide +kernel)
theorem mll_76 : Cond.methodLink R_law 76 yX7_odds ∈ gw_tbl := tw 595 (by decide +kernel) (by decide +kernel)
theorem mll_80 : Cond.methodLink R_law 80 yX8_odds ∈ gw_tbl := tw 1110 (by decide +kernel) (by decide +kernel)
theorem mll_81 : Cond.methodLink R_law 81 yX7_mean ∈ gw_tbl := tw 603 (by decide +kernel) (by decide +kernel)
theorem mll_85 : Cond.methodLink R_law 85 yX8_mean ∈ gw_tbl := tw 1122 (by decide +kernel) (by decide +kernel)
theorem mll_86 : Cond.methodLink R_law 86 yX7_plan ∈ gw_tbl := tw 611 (by decide +kernel) (by decide +kernel)
theorem mll_89 : Cond.methodLink R_law 89 yX8_plan ∈ gw_tbl := tw 1130 (by decide +kernel) (by decide +kernel)
theorem mll_90 : Cond.methodLink R_law 90 yX7_ends ∈ gw_tbl := tw 615 (by decide +kernel) (by decide +kernel)
theorem mll_93 : Cond.methodLink R_law 93 yX8_ends ∈ gw_tbl := tw 1135 (by decide +kernel) (by decide +kernel)
theorem mll_94 : Cond.methodLink R_law 94 yX7_book ∈ gw_tbl := tw 624 (by decide +kernel) (by decide +kernel)
theorem mll_97 : Cond.methodLink R_law 97 yX8_book ∈ gw_tbl := tw 1143 (by decide +kernel) (by decide +kernel)
theorem mll_98 : Cond.methodLink R_law 98 yX7_looked ∈ gw_tbl := tw 628 (by decide +kernel) (by decide +kernel)
theorem mll_101 : Cond.methodLink R_law 101 yX8_looked ∈ gw_tbl := tw 1148 (by decide +kernel) (by decide +kernel)
theorem mll_102 : Cond.methodLink R_law 102 yX7_judge ∈ gw_tbl := tw 632 (by decide +kernel) (by decide +kernel)
theorem mll_105 : Cond.methodLink R_law 105 yX8_judge ∈ gw_tbl := tw 1180 (by decide +kernel) (by decide +kernel)
theorem mll_106 : Cond.methodLink R_law 106 yX7_image ∈ gw_tbl := tw 640 (by decide +kernel) (by decide +kernel)
theorem mll_109 : Cond.methodLink R_law 109 yX8_image ∈ gw_tbl := tw 850 (by decide +kernel) (by decide +kernel)
theorem mll_110 : Cond.methodLink R_law 110 yX7_undo ∈ gw_tbl := tw 644 (by decide +kernel) (by decide +kernel)
theorem mll_113 : Cond.methodLink R_law 113 yX8_undo ∈ gw_tbl := tw 866 (by decide +kernel) (by decide +kernel)
theorem mll_114 : Cond.methodLink R_law 114 yX7_count ∈ gw_tbl := tw 648 (by decide +kernel) (by decide +kernel)
theorem mll_117 : Cond.methodLink R_law 117 yX8_count ∈ gw_tbl := tw 1152 (by decide +kernel) (by decide +kernel)
theorem mll_118 : Cond.methodLink R_law 118 yX7_tape ∈ gw_tbl := tw 652 (by decide +kernel) (by decide +kernel)
theorem mll_122 : Cond.methodLink R_law 122 yX8_tape ∈ gw_tbl := tw 1156 (by decide +kernel) (by decide +kernel)
theorem kw_L_123 : Cond.constantLong R_law 123 (4294967295) ∈ gw_tbl := tw 1184 (by decide +kernel) (by decide +kernel)
theorem mll_125 : Cond.methodLink R_law 125 yX7_item ∈ gw_tbl := tw 660 (by decide +kernel) (by decide +kernel)
theorem mll_129 : Cond.methodLink R_law 129 yX8_item ∈ gw_tbl := tw 1165 (by decide +kernel) (by decide +kernel)
theorem mll_130 : Cond.methodLink R_law 130 yX7_read ∈ gw_tbl := tw 668 (by decide +kernel) (by decide +kernel)
theorem mll_133 : Cond.methodLink R_law 133 yX8_read ∈ gw_tbl := tw 1172 (by decide +kernel) (by decide +kernel)
theorem mll_134 : Cond.methodLink R_law 134 yX7_shift ∈ gw_tbl := tw 672 (by decide +kernel) (by decide +kernel)
theorem mll_138 : Cond.methodLink R_law 138 yX8_shift ∈ gw_tbl := tw 1176 (by decide +kernel) (by decide +kernel)
/-! ===== the law: two worlds side by side ===== -/
theorem gw_lw {w : Cond} (h : w ∈ gw_tbl) : w ∈ lw_tbl := (List.mem_filter.mp h).1
abbrev CTL : Type := Program × Launch × Env × State × MethodId × List Frame × Method × Code × Nat × Nat × (Nat → Int32) × va_G × (Nat → ClassId) × (Nat → Nat) × (Nat → Nat)
def AL (s : State) : Nat → Prop := fun q => s.heap.size ≤ q
def GL (z : CTL) (pc : Nat) (i : Int32) (st : List Value) (Ic : IS) (Jc : JS) (Im : IS) (Jm : JS) : Prop := match z with
  | (p, l, e, s, m, below, meth, c, b, _, _, D, cA, adC, adM) => ∀ (H : Heap) (locs : List Loc) (ls : Array Slot), va_P D vwCl (wls cA STop 123 adC Ic Jc) H → va_P D vwCl (wls cA SMod 36 adM Im Jm) H → va_S (AL s) s.heap H locs → lv_has ls 4 [(0, .ref b), (1, .ref (adC 0)), (2, .ref (adM 0)), (3, .int i)] →
    W p l e room_1 s m #[Value.ref b] below meth c H locs 600000 7302250 (lw_Z below #[Value.ref b] s) (F0 m pc ls st)
def OL (z : CTL) (b' L' : Nat) (xs' : Nat → Int32) (aC aM : Nat) : Prop := match z with
  | (p, l, e, s, m, below, meth, c, b, L, xs, D, cA, adC, adM) => lw_At p s m meth c b L xs ∧ va_K D vwCl (tysOf cA) s ∧ (∀ i j, i < 123 → j < 123 → adC i = adC j → i = j) ∧ (∀ i j, i < 36 → j < 36 → adM i = adM j → i = j) ∧ (∀ i, i < 123 → s.heap.size ≤ adC i) ∧ (∀ i, i < 36 → s.heap.size ≤ adM i) ∧ (∀ i j, i < 123 → j < 36 → adC i ≠ adM j) ∧ b = b' ∧ L = L' ∧ xs = xs' ∧ adC 0 = aC ∧ adM 0 = aM
/-- a call on one of two worlds -/
theorem two_call {p : Program} {l : Launch} {e : Env} {R : Room} {s : State} {m : MethodId} {args : Array Value} {below : List Frame} {meth : Method} {c : Code} {cc : ByteArray} {own : String} {nL kc ks : Nat} {D : va_G} {cA : Nat → ClassId} {A : Nat → Prop} {Q : State → Prop} {S1 S2 : SF} {N1 N2 : Nat} {ad1 ad2 : Nat → Nat} {I1 I2 : IS} {J1 J2 : JS} {H : Heap} {locs : List Loc} {ls : Array Slot} {st : List Value} {pc : Nat}
    (hx : p.tables.exec = Jvm.exec) (hb : c.code = cc) (hml : c.maxLocals = nL) (hown : s.vm.findClass own = some m.cls) (hts : ∀ w ∈ gw_tbl, w.before args s = true) (hK : va_K D vwCl (tysOf cA) s) (inj : ∀ i j, i < N1 → j < N1 → ad1 i = ad1 j → i = j) (hA1 : ∀ i, i < N1 → A (ad1 i)) (hAn : ∀ q, s.heap.size ≤ q → A q) (h12 : ∀ i j, i < N1 → j < N2 → ad1 i ≠ ad2 j) (hls : ls.size = nL)
    (hP1 : va_P D vwCl (wls cA S1 N1 ad1 I1 J1) H) (hP2 : va_P D vwCl (wls cA S2 N2 ad2 I2 J2) H) (hS : va_S A s.heap H locs)
    {index : Nat} (d : decode cc pc = .ok (.invokevirtual index, 3)) {y : MethodName} {cc' : ByteArray} {maxL' : Nat} {ret' : Option FieldType} {rm' : Room} {av' : List Value} {v' : Option Value} {I'' : IS} {J'' : JS}
    (hM : MC y cc' maxL' ret' rm' S1 N1 (.ref 0 :: av') I1 J1 (v', I'', J'')) (hcb : CB y cc' maxL' ret' av'.length) (hlk : Cond.methodLink own index y ∈ gw_tbl) {ci n' : Nat} {T : u_T} (hC : isC ci y.cls T n') (hO : OBJ S1 N1 0 ci) (hrm : rm'.cells = 0 ∧ rm'.slots = 0 ∧ rm'.frames + 1 ≤ R.frames ∧ 8 + (maxL' + 11) + rm'.locals ≤ R.locals) (hkc : kc ≤ R.cells ∧ ks ≤ R.slots) (hsm : (st.map fun v => v.category).sum ≤ 8) (hav : ∀ ad : Nat → Nat, av'.map (cv ad) = av') {st0 : List Value} (hst : st0 = av'.reverse ++ .ref (ad1 0) :: st)
    (K : ∀ (H1 : Heap) (locs1 : List Loc), va_P D vwCl (wls cA S1 N1 ad1 I'' J'') H1 → va_P D vwCl (wls cA S2 N2 ad2 I2 J2) H1 → va_S A s.heap H1 locs1 → W p l e R s m args below meth c H1 locs1 kc ks Q (F0 m (pc + 3) ls (v'.toList ++ st))) : W p l e R s m args below meth c H locs kc ks Q (F0 m pc ls st0) := by
  subst hst
  obtain ⟨hN0, fks, hS0⟩ := hO
  intro T hT X
  have hD1 : va_D (fun _ => True) (wls cA S1 N1 ad1 I1 J1) := dOf inj (fun _ _ => trivial)
  have hG : GoodIn gw_tbl (wsV own index y.cls y (.code y cc' maxL' ret' :: gw_tbl)) := good_cons hlk (good_cons hcb.1 (good_cons hcb.2.1 (good_cons hcb.2.2.1 (good_cons hcb.2.2.2.1 gd_all))))
  have hrun := va_runV (R := R) (locs := locs) (As := av'.map (cv ad1)) (rest := st) (g := F0 m pc ls (av'.reverse ++ .ref (ad1 0) :: st)) (cells := kc) (slots := ks) (mc := 0) (ms := 0) ⟨hx, hb, hml, hown, hts⟩ (hM l D cA ad1 H.size)
    (cwV (C := y.cls) av'.length hts hG rfl hrm.1 hrm.2.1 ⟨rfl, hcb.2.2.2.2⟩ hrm.2.2)
    ⟨fun a U g mk q => by obtain ⟨q0, q1, qP, qK, qD⟩ := q; exact ⟨q0, q1, qP, va_K.moved (u := U) (U := U.calling g mk a) (Vm.Alike.refl U.vm) qK, qD⟩, va_recv (a := ad1 0) (q0 := 0) (fs := fks.mapIdx (fun k fk => fv ad1 (I1 0) k fk)) hK hP1 hC.1 (by rw [wls_get hN0]; simp only [cel, hS0]), fun U hU hW => ⟨rfl, by rw [hU], by rw [hU]; exact hP1, va_K.moved hW.alike hK, hD1⟩⟩
    rfl (by simp) hls (by rw [hav]) (lv_room hsm) d ⟨hkc.1, hkc.2⟩ T hT X
  obtain ⟨v, st₀, t, T', Lc, g0, X', hL, e1, e2, ⟨⟨ho, hP1', hK1⟩, hF⟩, go⟩ := hrun
  have hv : v = v' := by injection ho
  subst hv
  have hz := hF.1
  have hk := hF.2
  rw [g0] at hz hk
  have hAA : ∀ q, va_A (wls cA S1 N1 ad1 I1 J1) H.size q → A q := by
    intro q hq
    rcases hq with ⟨k, e, hq⟩ | hq
    · obtain ⟨hk, e2⟩ := wls_inv hq
      cases e2
      exact hA1 _ hk
    · exact hAn q (Nat.le_trans hS.1 hq)
  have hP2' : va_P D vwCl (wls cA S2 N2 ad2 I2 J2) T'.heap := by
    intro k q hq
    have h1 := hP2 k q hq
    obtain ⟨hk2, rfl⟩ := wls_inv hq
    refine h1.kept ?_
    rw [e1]
    refine hk _ h1.lt ?_
    rintro (⟨k3, e3, h3⟩ | h3)
    · obtain ⟨hk3, e4⟩ := wls_inv h3
      exact h12 k3 k hk3 hk2 (congrArg Prod.fst e4).symm
    · exact absurd h1.lt (Nat.not_lt.mpr h3)
  have hS2 : va_S A s.heap T'.heap (locs ++ Lc) := by
    refine ⟨by rw [e1]; exact Nat.le_trans hS.1 hz, fun q h1 h2 => ?_, fun q hq => ?_⟩
    · rw [e1, hk q (Nat.lt_of_lt_of_le h1 hS.1) (fun z => h2 (hAA q z))]
      exact hS.2.1 q h1 h2
    · rcases List.mem_append.mp hq with h | h
      · exact hS.2.2 q h
      · exact hAA _ (hL q h)
  obtain ⟨t2, q1, q2⟩ := K T'.heap (locs ++ Lc) (by rw [e1]; exact hP1') hP2' hS2 T' rfl X'
  exact ⟨t2, go t2 q1, q2⟩
section GL
variable {z : CTL} {b L aC aM : Nat} {xs : Nat → Int32} {pc : Nat} {i : Int32} {st : List Value} {Ic Im : IS} {Jc Jm : JS}
theorem l_a0 (O : OL z b L xs aC aM)  (d : decode cL_law pc = .ok (.aload_n 0, 1)) (K : GL z (pc + 1) i (.ref b :: st) Ic Jc Im Jm) : GL z pc i (st) Ic Jc Im Jm := by
  obtain ⟨p, l, e, s, m, below, meth, c, b', L', xs', D, cA, adC, adM⟩ := z
  obtain ⟨⟨hx, hb, hr, hml, hown, hts, hX, hbl, hlk, hgv⟩, hK, i1, i2, a1, a2, a12, rfl, rfl, rfl, rfl, rfl⟩ := O
  intro H locs ls hP1 hP2 hS hl
  exact lv_aload_n hx hb d rfl (lv_at hl 0 rfl) (K H locs ls hP1 hP2 hS hl)
theorem l_a1 (O : OL z b L xs aC aM)  (d : decode cL_law pc = .ok (.aload_n 1, 1)) (K : GL z (pc + 1) i (.ref aC :: st) Ic Jc Im Jm) : GL z pc i (st) Ic Jc Im Jm := by
  obtain ⟨p, l, e, s, m, below, meth, c, b', L', xs', D, cA, adC, adM⟩ := z
  obtain ⟨⟨hx, hb, hr, hml, hown, hts, hX, hbl, hlk, hgv⟩, hK, i1, i2, a1, a2, a12, rfl, rfl, rfl, rfl, rfl⟩ := O
  intro H locs ls hP1 hP2 hS hl
  exact lv_aload_n hx hb d rfl (lv_at hl 1 rfl) (K H locs ls hP1 hP2 hS hl)
theorem l_a2 (O : OL z b L xs aC aM)  (d : decode cL_law pc = .ok (.aload_n 2, 1)) (K : GL z (pc + 1) i (.ref aM :: st) Ic Jc Im Jm) : GL z pc i (st) Ic Jc Im Jm := by
  obtain ⟨p, l, e, s, m, below, meth, c, b', L', xs', D, cA, adC, adM⟩ := z
  obtain ⟨⟨hx, hb, hr, hml, hown, hts, hX, hbl, hlk, hgv⟩, hK, i1, i2, a1, a2, a12, rfl, rfl, rfl, rfl, rfl⟩ := O
  intro H locs ls hP1 hP2 hS hl
  exact lv_aload_n hx hb d rfl (lv_at hl 2 rfl) (K H locs ls hP1 hP2 hS hl)
theorem l_i3 (O : OL z b L xs aC aM)  (d : decode cL_law pc = .ok (.iload_n 3, 1)) (K : GL z (pc + 1) i (.int i :: st) Ic Jc Im Jm) : GL z pc i (st) Ic Jc Im Jm := by
  obtain ⟨p, l, e, s, m, below, meth, c, b', L', xs', D, cA, adC, adM⟩ := z
  obtain ⟨⟨hx, hb, hr, hml, hown, hts, hX, hbl, hlk, hgv⟩, hK, i1, i2, a1, a2, a12, rfl, rfl, rfl, rfl, rfl⟩ := O
  intro H locs ls hP1 hP2 hS hl
  exact lv_iload_n hx hb d rfl (lv_at hl 3 rfl) (K H locs ls hP1 hP2 hS hl)
theorem l_iconst (O : OL z b L xs aC aM) {n : Int} {v : Int32} (d : decode cL_law pc = .ok (.iconst n, 1)) (hv : Int32.ofInt n = v) (K : GL z (pc + 1) i (.int v :: st) Ic Jc Im Jm) : GL z pc i (st) Ic Jc Im Jm := by
  obtain ⟨p, l, e, s, m, below, meth, c, b', L', xs', D, cA, adC, adM⟩ := z
  obtain ⟨⟨hx, hb, hr, hml, hown, hts, hX, hbl, hlk, hgv⟩, hK, i1, i2, a1, a2, a12, rfl, rfl, rfl, rfl, rfl⟩ := O
  intro H locs ls hP1 hP2 hS hl
  exact lv_iconst hx hb d hv (K H locs ls hP1 hP2 hS hl)
theorem l_bipush (O : OL z b L xs aC aM) {n : Int} {v : Int32} (d : decode cL_law pc = .ok (.bipush n, 2)) (hv : (Int8.ofInt n).toInt32 = v) (K : GL z (pc + 2) i (.int v :: st) Ic Jc Im Jm) : GL z pc i (st) Ic Jc Im Jm := by
  obtain ⟨p, l, e, s, m, below, meth, c, b', L', xs', D, cA, adC, adM⟩ := z
  obtain ⟨⟨hx, hb, hr, hml, hown, hts, hX, hbl, hlk, hgv⟩, hK, i1, i2, a1, a2, a12, rfl, rfl, rfl, rfl, rfl⟩ := O
  intro H locs ls hP1 hP2 hS hl
  exact lv_bipush hx hb d hv (K H locs ls hP1 hP2 hS hl)
theorem l_iadd (O : OL z b L xs aC aM) {x y : Int32} (d : decode cL_law pc = .ok (.iadd, 1)) (K : GL z (pc + 1) i (.int (x + y) :: st) Ic Jc Im Jm) : GL z pc i (.int y :: .int x :: st) Ic Jc Im Jm := by
  obtain ⟨p, l, e, s, m, below, meth, c, b', L', xs', D, cA, adC, adM⟩ := z
  obtain ⟨⟨hx, hb, hr, hml, hown, hts, hX, hbl, hlk, hgv⟩, hK, i1, i2, a1, a2, a12, rfl, rfl, rfl, rfl, rfl⟩ := O
  intro H locs ls hP1 hP2 hS hl
  exact lv_iadd hx hb d (K H locs ls hP1 hP2 hS hl)
theorem l_isub (O : OL z b L xs aC aM) {x y : Int32} (d : decode cL_law pc = .ok (.isub, 1)) (K : GL z (pc + 1) i (.int (x - y) :: st) Ic Jc Im Jm) : GL z pc i (.int y :: .int x :: st) Ic Jc Im Jm := by
  obtain ⟨p, l, e, s, m, below, meth, c, b', L', xs', D, cA, adC, adM⟩ := z
  obtain ⟨⟨hx, hb, hr, hml, hown, hts, hX, hbl, hlk, hgv⟩, hK, i1, i2, a1, a2, a12, rfl, rfl, rfl, rfl, rfl⟩ := O
  intro H locs ls hP1 hP2 hS hl
  exact lv_isub hx hb d (K H locs ls hP1 hP2 hS hl)
theorem l_iand (O : OL z b L xs aC aM) {x y : Int32} (d : decode cL_law pc = .ok (.iand, 1)) (K : GL z (pc + 1) i (.int (x &&& y) :: st) Ic Jc Im Jm) : GL z pc i (.int y :: .int x :: st) Ic Jc Im Jm := by
  obtain ⟨p, l, e, s, m, below, meth, c, b', L', xs', D, cA, adC, adM⟩ := z
  obtain ⟨⟨hx, hb, hr, hml, hown, hts, hX, hbl, hlk, hgv⟩, hK, i1, i2, a1, a2, a12, rfl, rfl, rfl, rfl, rfl⟩ := O
  intro H locs ls hP1 hP2 hS hl
  exact lv_iand hx hb d (K H locs ls hP1 hP2 hS hl)
theorem l_land (O : OL z b L xs aC aM) {x y : Int64} (d : decode cL_law pc = .ok (.land, 1)) (K : GL z (pc + 1) i (.long (x &&& y) :: st) Ic Jc Im Jm) : GL z pc i (.long y :: .long x :: st) Ic Jc Im Jm := by
  obtain ⟨p, l, e, s, m, below, meth, c, b', L', xs', D, cA, adC, adM⟩ := z
  obtain ⟨⟨hx, hb, hr, hml, hown, hts, hX, hbl, hlk, hgv⟩, hK, i1, i2, a1, a2, a12, rfl, rfl, rfl, rfl, rfl⟩ := O
  intro H locs ls hP1 hP2 hS hl
  exact lv_land hx hb d (K H locs ls hP1 hP2 hS hl)
theorem l_lor (O : OL z b L xs aC aM) {x y : Int64} (d : decode cL_law pc = .ok (.lor, 1)) (K : GL z (pc + 1) i (.long (x ||| y) :: st) Ic Jc Im Jm) : GL z pc i (.long y :: .long x :: st) Ic Jc Im Jm := by
  obtain ⟨p, l, e, s, m, below, meth, c, b', L', xs', D, cA, adC, adM⟩ := z
  obtain ⟨⟨hx, hb, hr, hml, hown, hts, hX, hbl, hlk, hgv⟩, hK, i1, i2, a1, a2, a12, rfl, rfl, rfl, rfl, rfl⟩ := O
  intro H locs ls hP1 hP2 hS hl
  exact lv_lor hx hb d (K H locs ls hP1 hP2 hS hl)
theorem l_i2l (O : OL z b L xs aC aM) {x : Int32} (d : decode cL_law pc = .ok (.i2l, 1)) (K : GL z (pc + 1) i (.long x.toInt64 :: st) Ic Jc Im Jm) : GL z pc i (.int x :: st) Ic Jc Im Jm := by
  obtain ⟨p, l, e, s, m, below, meth, c, b', L', xs', D, cA, adC, adM⟩ := z
  obtain ⟨⟨hx, hb, hr, hml, hown, hts, hX, hbl, hlk, hgv⟩, hK, i1, i2, a1, a2, a12, rfl, rfl, rfl, rfl, rfl⟩ := O
  intro H locs ls hP1 hP2 hS hl
  exact lv_i2l hx hb d rfl (K H locs ls hP1 hP2 hS hl)
theorem l_lshl (O : OL z b L xs aC aM) {x : Int64} {y : Int32} (d : decode cL_law pc = .ok (.lshl, 1)) (K : GL z (pc + 1) i (.long (x <<< (y.toInt64 &&& 63)) :: st) Ic Jc Im Jm) : GL z pc i (.int y :: .long x :: st) Ic Jc Im Jm := by
  obtain ⟨p, l, e, s, m, below, meth, c, b', L', xs', D, cA, adC, adM⟩ := z
  obtain ⟨⟨hx, hb, hr, hml, hown, hts, hX, hbl, hlk, hgv⟩, hK, i1, i2, a1, a2, a12, rfl, rfl, rfl, rfl, rfl⟩ := O
  intro H locs ls hP1 hP2 hS hl
  exact lv_lshl hx hb d rfl (K H locs ls hP1 hP2 hS hl)
theorem l_lcmp (O : OL z b L xs aC aM) {x y : Int64} (d : decode cL_law pc = .ok (.lcmp, 1)) (K : GL z (pc + 1) i (.int (lg_cmp x y) :: st) Ic Jc Im Jm) : GL z pc i (.long y :: .long x :: st) Ic Jc Im Jm := by
  obtain ⟨p, l, e, s, m, below, meth, c, b', L', xs', D, cA, adC, adM⟩ := z
  obtain ⟨⟨hx, hb, hr, hml, hown, hts, hX, hbl, hlk, hgv⟩, hK, i1, i2, a1, a2, a12, rfl, rfl, rfl, rfl, rfl⟩ := O
  intro H locs ls hP1 hP2 hS hl
  exact W.lcmp hx hb d (K H locs ls hP1 hP2 hS hl)
theorem l_ldc2 (O : OL z b L xs aC aM) {index : Nat} {v : Int64} (d : decode cL_law pc = .ok (.ldc2_w index, 3)) (hw : Cond.constantLong R_law index v ∈ gw_tbl) (K : GL z (pc + 3) i (.long v :: st) Ic Jc Im Jm) : GL z pc i (st) Ic Jc Im Jm := by
  obtain ⟨p, l, e, s, m, below, meth, c, b', L', xs', D, cA, adC, adM⟩ := z
  obtain ⟨⟨hx, hb, hr, hml, hown, hts, hX, hbl, hlk, hgv⟩, hK, i1, i2, a1, a2, a12, rfl, rfl, rfl, rfl, rfl⟩ := O
  intro H locs ls hP1 hP2 hS hl
  exact lv_ldc2 hx hb hown (hts _ (gw_lw hw)) d (K H locs ls hP1 hP2 hS hl)
theorem l_sld (O : OL z b L xs aC aM) {x : Int32} (d : decode cL_law pc = .ok (.iaload, 1)) (hin : vp_in x L) (K : GL z (pc + 1) i (.int (xs x.toNatClampNeg) :: st) Ic Jc Im Jm) : GL z pc i (.int x :: .ref b :: st) Ic Jc Im Jm := by
  obtain ⟨p, l, e, s, m, below, meth, c, b', L', xs', D, cA, adC, adM⟩ := z
  obtain ⟨⟨hx, hb, hr, hml, hown, hts, hX, hbl, hlk, hgv⟩, hK, i1, i2, a1, a2, a12, rfl, rfl, rfl, rfl, rfl⟩ := O
  intro H locs ls hP1 hP2 hS hl
  exact va_sld (A := AL s) hx hb hX hbl (Nat.not_le.mpr hbl) hS hin d (K H locs ls hP1 hP2 hS hl)
theorem l_slen (O : OL z b L xs aC aM)  (d : decode cL_law pc = .ok (.arraylength, 1)) (K : GL z (pc + 1) i (.int (Int32.ofNat L) :: st) Ic Jc Im Jm) : GL z pc i (.ref b :: st) Ic Jc Im Jm := by
  obtain ⟨p, l, e, s, m, below, meth, c, b', L', xs', D, cA, adC, adM⟩ := z
  obtain ⟨⟨hx, hb, hr, hml, hown, hts, hX, hbl, hlk, hgv⟩, hK, i1, i2, a1, a2, a12, rfl, rfl, rfl, rfl, rfl⟩ := O
  intro H locs ls hP1 hP2 hS hl
  exact va_slen (A := AL s) hx hb hX hbl (Nat.not_le.mpr hbl) hS d (K H locs ls hP1 hP2 hS hl)
theorem l_eqT (O : OL z b L xs aC aM) {x y : Int32} {off : Int} (tgt : Nat) (d : decode cL_law pc = .ok (.if_icmp .eq off, 3)) (ht : (pc : Int) + off = (tgt : Int)) (h : x = y) (K : GL z tgt i st Ic Jc Im Jm) : GL z pc i (.int y :: .int x :: st) Ic Jc Im Jm := by
  obtain ⟨p, l, e, s, m, below, meth, c, b', L', xs', D, cA, adC, adM⟩ := z
  obtain ⟨⟨hx, hb, hr, hml, hown, hts, hX, hbl, hlk0, hgv⟩, hK, i1, i2, a1, a2, a12, rfl, rfl, rfl, rfl, rfl⟩ := O
  intro H locs ls hP1 hP2 hS hl
  exact lv_icmp_eq hx hb d ht (fun _ => K H locs ls hP1 hP2 hS hl) (fun q => absurd h q)
theorem l_zT (O : OL z b L xs aC aM) {x : Int32} {off : Int} (tgt : Nat) (d : decode cL_law pc = .ok (.ifCond .eq off, 3)) (ht : (pc : Int) + off = (tgt : Int)) (h : x = 0) (K : GL z tgt i st Ic Jc Im Jm) : GL z pc i (.int x :: st) Ic Jc Im Jm := by
  obtain ⟨p, l, e, s, m, below, meth, c, b', L', xs', D, cA, adC, adM⟩ := z
  obtain ⟨⟨hx, hb, hr, hml, hown, hts, hX, hbl, hlk0, hgv⟩, hK, i1, i2, a1, a2, a12, rfl, rfl, rfl, rfl, rfl⟩ := O
  intro H locs ls hP1 hP2 hS hl
  exact lv_if_eq hx hb d ht (fun _ => K H locs ls hP1 hP2 hS hl) (fun q => absurd h q)
theorem l_tabIn (O : OL z b L xs aC aM) {dflt lo hi : Int} {offs : Array Int} {len : Nat} {x v : Int32} (off : Int) (tgt : Nat) (d : decode cL_law pc = .ok (.tableswitch dflt lo hi offs, len)) (hv : x = v) (h1 : ¬ v.toInt < lo) (h2 : ¬ hi < v.toInt) (ho : offs[(v.toInt - lo).toNat]? = some off) (ht : (pc : Int) + off = (tgt : Int)) (K : GL z tgt i st Ic Jc Im Jm) : GL z pc i (.int x :: st) Ic Jc Im Jm := by
  subst hv
  obtain ⟨p, l, e, s, m, below, meth, c, b', L', xs', D, cA, adC, adM⟩ := z
  obtain ⟨⟨hx, hb, hr, hml, hown, hts, hX, hbl, hlk0, hgv⟩, hK, i1, i2, a1, a2, a12, rfl, rfl, rfl, rfl, rfl⟩ := O
  intro H locs ls hP1 hP2 hS hl
  exact lv_tableIn hx hb d h1 h2 ho ht (K H locs ls hP1 hP2 hS hl)
theorem l_tabOut (O : OL z b L xs aC aM) {dflt lo hi : Int} {offs : Array Int} {len : Nat} {x : Int32} (tgt : Nat) (d : decode cL_law pc = .ok (.tableswitch dflt lo hi offs, len)) (h : x.toInt < lo ∨ hi < x.toInt) (ht : (pc : Int) + dflt = (tgt : Int)) (K : GL z tgt i st Ic Jc Im Jm) : GL z pc i (.int x :: st) Ic Jc Im Jm := by
  obtain ⟨p, l, e, s, m, below, meth, c, b', L', xs', D, cA, adC, adM⟩ := z
  obtain ⟨⟨hx, hb, hr, hml, hown, hts, hX, hbl, hlk0, hgv⟩, hK, i1, i2, a1, a2, a12, rfl, rfl, rfl, rfl, rfl⟩ := O
  intro H locs ls hP1 hP2 hS hl
  exact lv_tableOut hx hb d h ht (K H locs ls hP1 hP2 hS hl)
theorem l_gt (O : OL z b L xs aC aM) {x y : Int32} {off : Int} (tgt : Nat) (d : decode cL_law pc = .ok (.if_icmp .gt off, 3)) (ht : (pc : Int) + off = (tgt : Int)) (K : y < x → GL z tgt i st Ic Jc Im Jm) (K2 : ¬ y < x → GL z (pc + 3) i st Ic Jc Im Jm) : GL z pc i (.int y :: .int x :: st) Ic Jc Im Jm := by
  obtain ⟨p, l, e, s, m, below, meth, c, b', L', xs', D, cA, adC, adM⟩ := z
  obtain ⟨⟨hx, hb, hr, hml, hown, hts, hX, hbl, hlk0, hgv⟩, hK, i1, i2, a1, a2, a12, rfl, rfl, rfl, rfl, rfl⟩ := O
  intro H locs ls hP1 hP2 hS hl
  exact lv_icmp_gt hx hb d ht (fun q => K q H locs ls hP1 hP2 hS hl) (fun q => K2 q H locs ls hP1 hP2 hS hl)
theorem l_next (O : OL z b L xs aC aM) (K : GL z 18 (i + 6) [] Ic Jc Im Jm) : GL z 1014 i [] Ic Jc Im Jm := by
  obtain ⟨p, l, e, s, m, below, meth, c, b', L', xs', D, cA, adC, adM⟩ := z
  obtain ⟨⟨hx, hb, hr, hml, hown, hts, hX, hbl, hlk0, hgv⟩, hK, i1, i2, a1, a2, a12, rfl, rfl, rfl, rfl, rfl⟩ := O
  intro H locs ls hP1 hP2 hS hl
  refine lv_iinc (v := i + 6) (lv' := [(3, .int (i + 6)), (0, .ref b'), (1, .ref (adC 0)), (2, .ref (adM 0))]) hx hb dL_law_1014 hl (k := 3) rfl rfl (by decide) rfl (fun ls hl => ?_)
  refine lv_goto (tgt := 18) hx hb dL_law_1017 (by decide) ?_
  exact K H locs ls hP1 hP2 hS (lv_sub hl [1, 2, 3, 0] rfl)
theorem l_end (O : OL z b L xs aC aM) : GL z 1020 i [] Ic Jc Im Jm := by
  obtain ⟨p, l, e, s, m, below, meth, c, b', L', xs', D, cA, adC, adM⟩ := z
  obtain ⟨⟨hx, hb, hr, hml, hown, hts, hX, hbl, hlk0, hgv⟩, hK, i1, i2, a1, a2, a12, rfl, rfl, rfl, rfl, rfl⟩ := O
  intro H locs ls hP1 hP2 hS hl
  refine lv_iconst (v := 1) hx hb dL_law_1020 (by decide) ?_
  refine va_forget (fun q hq => hS.2.2 q hq) ?_
  exact lw_ret hx hb hr hlk0 dL_law_1021
theorem l_Ci (O : OL z b L xs aC aM) {x : Int32} {index : Nat} (d : decode cL_law pc = .ok (.invokevirtual index, 3)) {y : MethodName} {cc' : ByteArray} {maxL' : Nat} {ret' : Option FieldType} {rm' : Room} {av' : List Value} {I'' : IS} {J'' : JS} (hM : MC y cc' maxL' ret' rm' STop 123 (.ref 0 :: av') Ic Jc (some (.int x), I'', J'')) (hcb : CB y cc' maxL' ret' av'.length) (hlk : Cond.methodLink R_law index y ∈ gw_tbl) (hC : isC 7 y.cls TX7 6) (hrm : rm'.cells = 0 ∧ rm'.slots = 0 ∧ rm'.frames + 1 ≤ room_1.frames ∧ 8 + (maxL' + 11) + rm'.locals ≤ room_1.locals) (hsm : (st.map fun v => v.category).sum ≤ 8) (hav : ∀ ad : Nat → Nat, av'.map (cv ad) = av') {st0 : List Value} (hst : st0 = av'.reverse ++ .ref aC :: st) (K : GL z (pc + 3) i (.int x :: st) I'' J'' Im Jm) : GL z pc i st0 Ic Jc Im Jm := by
  obtain ⟨p, l, e, s, m, below, meth, c, b', L', xs', D, cA, adC, adM⟩ := z
  obtain ⟨⟨hx, hb, hr, hml, hown, hts, hX, hbl, hlk0, hgv⟩, hK, i1, i2, a1, a2, a12, rfl, rfl, rfl, rfl, rfl⟩ := O
  intro H locs ls hP1 hP2 hS hl
  exact two_call (A := AL s) hx hb hml hown (fun w hw => hts w (gw_lw hw)) hK i1 a1 (fun q h => h) a12 hl.1 hP1 hP2 hS d hM hcb hlk hC ob_STop hrm ⟨Nat.le_refl _, Nat.le_refl _⟩ hsm hav hst (fun H1 locs1 q1 q2 q3 => K H1 locs1 ls q1 q2 q3 hl)
theorem l_Cl (O : OL z b L xs aC aM) {x : Int64} {index : Nat} (d : decode cL_law pc = .ok (.invokevirtual index, 3)) {y : MethodName} {cc' : ByteArray} {maxL' : Nat} {ret' : Option FieldType} {rm' : Room} {av' : List Value} {I'' : IS} {J'' : JS} (hM : MC y cc' maxL' ret' rm' STop 123 (.ref 0 :: av') Ic Jc (some (.long x), I'', J'')) (hcb : CB y cc' maxL' ret' av'.length) (hlk : Cond.methodLink R_law index y ∈ gw_tbl) (hC : isC 7 y.cls TX7 6) (hrm : rm'.cells = 0 ∧ rm'.slots = 0 ∧ rm'.frames + 1 ≤ room_1.frames ∧ 8 + (maxL' + 11) + rm'.locals ≤ room_1.locals) (hsm : (st.map fun v => v.category).sum ≤ 8) (hav : ∀ ad : Nat → Nat, av'.map (cv ad) = av') {st0 : List Value} (hst : st0 = av'.reverse ++ .ref aC :: st) (K : GL z (pc + 3) i (.long x :: st) I'' J'' Im Jm) : GL z pc i st0 Ic Jc Im Jm := by
  obtain ⟨p, l, e, s, m, below, meth, c, b', L', xs', D, cA, adC, adM⟩ := z
  obtain ⟨⟨hx, hb, hr, hml, hown, hts, hX, hbl, hlk0, hgv⟩, hK, i1, i2, a1, a2, a12, rfl, rfl, rfl, rfl, rfl⟩ := O
  intro H locs ls hP1 hP2 hS hl
  exact two_call (A := AL s) hx hb hml hown (fun w hw => hts w (gw_lw hw)) hK i1 a1 (fun q h => h) a12 hl.1 hP1 hP2 hS d hM hcb hlk hC ob_STop hrm ⟨Nat.le_refl _, Nat.le_refl _⟩ hsm hav hst (fun H1 locs1 q1 q2 q3 => K H1 locs1 ls q1 q2 q3 hl)
theorem l_Mi (O : OL z b L xs aC aM) {x : Int32} {index : Nat} (d : decode cL_law pc = .ok (.invokevirtual index, 3)) {y : MethodName} {cc' : ByteArray} {maxL' : Nat} {ret' : Option FieldType} {rm' : Room} {av' : List Value} {I'' : IS} {J'' : JS} (hM : MC y cc' maxL' ret' rm' SMod 36 (.ref 0 :: av') Im Jm (some (.int x), I'', J'')) (hcb : CB y cc' maxL' ret' av'.length) (hlk : Cond.methodLink R_law index y ∈ gw_tbl) (hC : isC 8 y.cls TX8 55) (hrm : rm'.cells = 0 ∧ rm'.slots = 0 ∧ rm'.frames + 1 ≤ room_1.frames ∧ 8 + (maxL' + 11) + rm'.locals ≤ room_1.locals) (hsm : (st.map fun v => v.category).sum ≤ 8) (hav : ∀ ad : Nat → Nat, av'.map (cv ad) = av') {st0 : List Value} (hst : st0 = av'.reverse ++ .ref aM :: st) (K : GL z (pc + 3) i (.int x :: st) Ic Jc I'' J'') : GL z pc i st0 Ic Jc Im Jm := by
  obtain ⟨p, l, e, s, m, below, meth, c, b', L', xs', D, cA, adC, adM⟩ := z
  obtain ⟨⟨hx, hb, hr, hml, hown, hts, hX, hbl, hlk0, hgv⟩, hK, i1, i2, a1, a2, a12, rfl, rfl, rfl, rfl, rfl⟩ := O
  intro H locs ls hP1 hP2 hS hl
  exact two_call (A := AL s) hx hb hml hown (fun w hw => hts w (gw_lw hw)) hK i2 a2 (fun q h => h) (fun i j hi hj => (a12 j i hj hi).symm) hl.1 hP2 hP1 hS d hM hcb hlk hC ob_SMod hrm ⟨Nat.le_refl _, Nat.le_refl _⟩ hsm hav hst (fun H1 locs1 q1 q2 q3 => K H1 locs1 ls q2 q1 q3 hl)
theorem l_Ml (O : OL z b L xs aC aM) {x : Int64} {index : Nat} (d : decode cL_law pc = .ok (.invokevirtual index, 3)) {y : MethodName} {cc' : ByteArray} {maxL' : Nat} {ret' : Option FieldType} {rm' : Room} {av' : List Value} {I'' : IS} {J'' : JS} (hM : MC y cc' maxL' ret' rm' SMod 36 (.ref 0 :: av') Im Jm (some (.long x), I'', J'')) (hcb : CB y cc' maxL' ret' av'.length) (hlk : Cond.methodLink R_law index y ∈ gw_tbl) (hC : isC 8 y.cls TX8 55) (hrm : rm'.cells = 0 ∧ rm'.slots = 0 ∧ rm'.frames + 1 ≤ room_1.frames ∧ 8 + (maxL' + 11) + rm'.locals ≤ room_1.locals) (hsm : (st.map fun v => v.category).sum ≤ 8) (hav : ∀ ad : Nat → Nat, av'.map (cv ad) = av') {st0 : List Value} (hst : st0 = av'.reverse ++ .ref aM :: st) (K : GL z (pc + 3) i (.long x :: st) Ic Jc I'' J'') : GL z pc i st0 Ic Jc Im Jm := by
  obtain ⟨p, l, e, s, m, below, meth, c, b', L', xs', D, cA, adC, adM⟩ := z
  obtain ⟨⟨hx, hb, hr, hml, hown, hts, hX, hbl, hlk0, hgv⟩, hK, i1, i2, a1, a2, a12, rfl, rfl, rfl, rfl, rfl⟩ := O
  intro H locs ls hP1 hP2 hS hl
  exact two_call (A := AL s) hx hb hml hown (fun w hw => hts w (gw_lw hw)) hK i2 a2 (fun q h => h) (fun i j hi hj => (a12 j i hj hi).symm) hl.1 hP2 hP1 hS d hM hcb hlk hC ob_SMod hrm ⟨Nat.le_refl _, Nat.le_refl _⟩ hsm hav hst (fun H1 locs1 q1 q2 q3 => K H1 locs1 ls q2 q1 q3 hl)
end GL
theorem lgc {x y : Int64} (h : x = y) : lg_cmp x y = 0 := by
  subst h
  simp [lg_cmp]
def SC_arms (Inv : IS → JS → IS → JS → Prop) : Prop := ∀ (Ic : IS) (Jc : JS) (Im : IS) (Jm : JS), Inv Ic Jc Im Jm → ∀ (x1 : Int32), ∃ (qc : Int32 × IS) (qm : Int32 × IS), f_X7_arms x1 Ic = some qc ∧ f_X8_arms x1 Im = some qm ∧ qc.1 = qm.1 ∧ Inv qc.2 Jc qm.2 Jm
def SC_seed (Inv : IS → JS → IS → JS → Prop) : Prop := ∀ (Ic : IS) (Jc : JS) (Im : IS) (Jm : JS), Inv Ic Jc Im Jm → ∀ (x1 : Int32), ∃ (qc : Int32 × IS) (qm : Int32 × IS), f_X7_seed x1 Ic = some qc ∧ f_X8_seed x1 Im = some qm ∧ qc.1 = qm.1 ∧ Inv qc.2 Jc qm.2 Jm
def SC_feed (Inv : IS → JS → IS → JS → Prop) : Prop := ∀ (Ic : IS) (Jc : JS) (Im : IS) (Jm : JS), Inv Ic Jc Im Jm → ∀ (x1 : Int32), ∃ (qc : Int32 × IS) (qm : Int32 × IS), f_X7_feed x1 Ic = some qc ∧ f_X8_feed x1 Im = some qm ∧ qc.1 = qm.1 ∧ Inv qc.2 Jc qm.2 Jm
def SC_tree (Inv : IS → JS → IS → JS → Prop) : Prop := ∀ (Ic : IS) (Jc : JS) (Im : IS) (Jm : JS), Inv Ic Jc Im Jm → ∀ (x1 : Int32), ∃ (qc : Int32 × IS) (qm : Int32 × IS), f_X7_tree x1 Ic = some qc ∧ f_X8_tree x1 Im = some qm ∧ qc.1 = qm.1 ∧ Inv qc.2 Jc qm.2 Jm
def SC_of (Inv : IS → JS → IS → JS → Prop) : Prop := ∀ (Ic : IS) (Jc : JS) (Im : IS) (Jm : JS), Inv Ic Jc Im Jm → ∀ (x1 : Int32) (x2 : Int32), ∃ (qc : Int32 × IS) (qm : Int32 × IS), f_X7_of x1 x2 Ic = some qc ∧ f_X8_of x1 x2 Im = some qm ∧ qc.1 = qm.1 ∧ Inv qc.2 Jc qm.2 Jm
def SC_cause (Inv : IS → JS → IS → JS → Prop) : Prop := ∀ (Ic : IS) (Jc : JS) (Im : IS) (Jm : JS), Inv Ic Jc Im Jm → ∀ (x1 : Int32) (x2 : Int32), ∃ (qc : Int32) (qm : Int32 × IS), f_X7_cause x1 x2 Ic = some qc ∧ f_X8_cause x1 x2 Im = some qm ∧ qc = qm.1 ∧ Inv Ic Jc qm.2 Jm
def SC_arm (Inv : IS → JS → IS → JS → Prop) : Prop := ∀ (Ic : IS) (Jc : JS) (Im : IS) (Jm : JS), Inv Ic Jc Im Jm → ∀ (x1 : Int32) (x2 : Int32), ∃ (qc : Int32) (qm : Int32 × IS), f_X7_arm x1 x2 Ic = some qc ∧ f_X8_arm x1 x2 Im = some qm ∧ qc = qm.1 ∧ Inv Ic Jc qm.2 Jm
def SC_pass (Inv : IS → JS → IS → JS → Prop) : Prop := ∀ (Ic : IS) (Jc : JS) (Im : IS) (Jm : JS), Inv Ic Jc Im Jm → ∀ (x1 : Int32), ∃ (qc : Int32 × IS) (qm : Int32 × IS), f_X7_pass x1 Ic = some qc ∧ f_X8_pass x1 Im = some qm ∧ qc.1 = qm.1 ∧ Inv qc.2 Jc qm.2 Jm
def SC_cancel (Inv : IS → JS → IS → JS → Prop) : Prop := ∀ (Ic : IS) (Jc : JS) (Im : IS) (Jm : JS), Inv Ic Jc Im Jm → ∀ (x1 : Int32), ∃ (qc : Int32 × IS) (qm : Int32 × IS), f_X7_cancel x1 Ic = some qc ∧ f_X8_cancel x1 Im = some qm ∧ qc.1 = qm.1 ∧ Inv qc.2 Jc qm.2 Jm
def SC_told (Inv : IS → JS → IS → JS → Prop) : Prop := ∀ (Ic : IS) (Jc : JS) (Im : IS) (Jm : JS), Inv Ic Jc Im Jm → ∀ (x1 : Int32), ∃ (qc : Int32 × IS) (qm : Int32 × IS), f_X7_told x1 Ic = some qc ∧ f_X8_told x1 Im = some qm ∧ qc.1 = qm.1 ∧ Inv qc.2 Jc qm.2 Jm
def SC_trace (Inv : IS → JS → IS → JS → Prop) : Prop := ∀ (Ic : IS) (Jc : JS) (Im : IS) (Jm : JS), Inv Ic Jc Im Jm → ∀ (x1 : Int32) (x2 : Int32), ∃ (qc : Int32) (qm : Int32 × IS), f_X7_trace x1 x2 Ic = some qc ∧ f_X8_trace x1 x2 Im = some qm ∧ qc = qm.1 ∧ Inv Ic Jc qm.2 Jm
def SC_on (Inv : IS → JS → IS → JS → Prop) : Prop := ∀ (Ic : IS) (Jc : JS) (Im : IS) (Jm : JS), Inv Ic Jc Im Jm → ∀ (x1 : Int32) (x2 : Int32), ∃ (qc : Int32 × IS) (qm : Int32 × IS), f_X7_on x1 x2 Ic = some qc ∧ f_X8_on x1 x2 Im = some qm ∧ qc.1 = qm.1 ∧ Inv qc.2 Jc qm.2 Jm
def SC_till (Inv : IS → JS → IS → JS → Prop) : Prop := ∀ (Ic : IS) (Jc : JS) (Im : IS) (Jm : JS), Inv Ic Jc Im Jm → ∀ (x1 : Int32), ∃ (qc : Int32 × IS) (qm : Int32 × IS), f_X7_till x1 Ic = some qc ∧ f_X8_till x1 Im = some qm ∧ qc.1 = qm.1 ∧ Inv qc.2 Jc qm.2 Jm
def SC_see (Inv : IS → JS → IS → JS → Prop) : Prop := ∀ (Ic : IS) (Jc : JS) (Im : IS) (Jm : JS), Inv Ic Jc Im Jm → ∀ (x1 : Int32) (x2 : Int32), ∃ (qc : Int32 × IS) (qm : Int32 × IS), f_X7_see x1 x2 Ic = some qc ∧ f_X8_see x1 x2 Im = some qm ∧ qc.1 = qm.1 ∧ Inv qc.2 Jc qm.2 Jm
def SC_seeds (Inv : IS → JS → IS → JS → Prop) : Prop := ∀ (Ic : IS) (Jc : JS) (Im : IS) (Jm : JS), Inv Ic Jc Im Jm → ∀ (_ : Unit), ∃ (qc : Int32 × IS) (qm : Int32 × IS), f_X7_seeds Ic = some qc ∧ f_X8_seeds Im = some qm ∧ qc.1 = qm.1 ∧ Inv qc.2 Jc qm.2 Jm
def SC_odds (Inv : IS → JS → IS → JS → Prop) : Prop := ∀ (Ic : IS) (Jc : JS) (Im : IS) (Jm : JS), Inv Ic Jc Im Jm → ∀ (x1 : Int32) (x2 : Int32), ∃ (qc : Int64 × IS) (qm : Int64 × IS), f_X7_odds x1 x2 Ic = some qc ∧ f_X8_odds x1 x2 Im = some qm ∧ qc.1 = qm.1 ∧ Inv qc.2 Jc qm.2 Jm
def SC_mean (Inv : IS → JS → IS → JS → Prop) : Prop := ∀ (Ic : IS) (Jc : JS) (Im : IS) (Jm : JS), Inv Ic Jc Im Jm → ∀ (x1 : Int32), ∃ (qc : Int64) (qm : Int64 × IS), f_X7_mean x1 Ic = some qc ∧ f_X8_mean x1 Im = some qm ∧ qc = qm.1 ∧ Inv Ic Jc qm.2 Jm
def SC_plan (Inv : IS → JS → IS → JS → Prop) : Prop := ∀ (Ic : IS) (Jc : JS) (Im : IS) (Jm : JS), Inv Ic Jc Im Jm → ∀ (x1 : Int32) (x2 : Int32), ∃ (qc : Int32 × IS) (qm : Int32 × IS), f_X7_plan x1 x2 Ic = some qc ∧ f_X8_plan x1 x2 Im = some qm ∧ qc.1 = qm.1 ∧ Inv qc.2 Jc qm.2 Jm
def SC_ends (Inv : IS → JS → IS → JS → Prop) : Prop := ∀ (Ic : IS) (Jc : JS) (Im : IS) (Jm : JS), Inv Ic Jc Im Jm → ∀ (x1 : Int32), ∃ (qc : Int32 × IS) (qm : Int32 × IS), f_X7_ends x1 Ic = some qc ∧ f_X8_ends x1 Im = some qm ∧ qc.1 = qm.1 ∧ Inv qc.2 Jc qm.2 Jm
def SC_book (Inv : IS → JS → IS → JS → Prop) : Prop := ∀ (Ic : IS) (Jc : JS) (Im : IS) (Jm : JS), Inv Ic Jc Im Jm → ∀ (x1 : Int32) (x2 : Int32), ∃ (qc : Int32 × IS) (qm : Int32 × IS), f_X7_book x1 x2 Ic = some qc ∧ f_X8_book x1 x2 Im = some qm ∧ qc.1 = qm.1 ∧ Inv qc.2 Jc qm.2 Jm
def SC_looked (Inv : IS → JS → IS → JS → Prop) : Prop := ∀ (Ic : IS) (Jc : JS) (Im : IS) (Jm : JS), Inv Ic Jc Im Jm → ∀ (_ : Unit), ∃ (qc : Int32) (qm : Int32 × IS), f_X7_looked Ic = some qc ∧ f_X8_looked Im = some qm ∧ qc = qm.1 ∧ Inv Ic Jc qm.2 Jm
def SC_judge (Inv : IS → JS → IS → JS → Prop) : Prop := ∀ (Ic : IS) (Jc : JS) (Im : IS) (Jm : JS), Inv Ic Jc Im Jm → ∀ (x1 : Int32) (x2 : Int32), ∃ (qc : Int32) (qm : Int32 × IS), f_X7_judge x1 x2 Ic Jc = some qc ∧ f_X8_judge x1 x2 Im Jm = some qm ∧ qc = qm.1 ∧ Inv Ic Jc qm.2 Jm
def SC_image (Inv : IS → JS → IS → JS → Prop) : Prop := ∀ (Ic : IS) (Jc : JS) (Im : IS) (Jm : JS), Inv Ic Jc Im Jm → ∀ (_ : Unit), ∃ (qc : Int32 × IS) (qm : Int32 × IS), f_X7_image Ic = some qc ∧ f_X8_image Im = some qm ∧ qc.1 = qm.1 ∧ Inv qc.2 Jc qm.2 Jm
def SC_undo (Inv : IS → JS → IS → JS → Prop) : Prop := ∀ (Ic : IS) (Jc : JS) (Im : IS) (Jm : JS), Inv Ic Jc Im Jm → ∀ (_ : Unit), ∃ (qc : Int32 × IS) (qm : Int32 × IS), f_X7_undo Ic = some qc ∧ f_X8_undo Im = some qm ∧ qc.1 = qm.1 ∧ Inv qc.2 Jc qm.2 Jm
def SC_count (Inv : IS → JS → IS → JS → Prop) : Prop := ∀ (Ic : IS) (Jc : JS) (Im : IS) (Jm : JS), Inv Ic Jc Im Jm → ∀ (x1 : Int32), ∃ (qc : Int32) (qm : Int32 × IS), f_X7_count x1 Ic = some qc ∧ f_X8_count x1 Im = some qm ∧ qc = qm.1 ∧ Inv Ic Jc qm.2 Jm
def SC_tape (Inv : IS → JS → IS → JS → Prop) : Prop := ∀ (Ic : IS) (Jc : JS) (Im : IS) (Jm : JS), Inv Ic Jc Im Jm → ∀ (x1 : Int32) (x2 : Int32) (x3 : Int32), ∃ (qc : Int32 × IS × JS) (qm : Int32 × IS × JS), f_X7_tape x1 x2 x3 Ic Jc = some qc ∧ f_X8_tape x1 x2 x3 Im Jm = some qm ∧ qc.1 = qm.1 ∧ Inv qc.2.1 qc.2.2 qm.2.1 qm.2.2
def SC_item (Inv : IS → JS → IS → JS → Prop) : Prop := ∀ (Ic : IS) (Jc : JS) (Im : IS) (Jm : JS), Inv Ic Jc Im Jm → ∀ (x1 : Int32) (x2 : Int32) (w3 : Int64), ∃ (qc : Int32 × JS) (qm : Int32 × IS × JS), f_X7_item x1 x2 w3 Ic Jc = some qc ∧ f_X8_item x1 x2 w3 Im Jm = some qm ∧ qc.1 = qm.1 ∧ Inv Ic qc.2 qm.2.1 qm.2.2
def SC_read (Inv : IS → JS → IS → JS → Prop) : Prop := ∀ (Ic : IS) (Jc : JS) (Im : IS) (Jm : JS), Inv Ic Jc Im Jm → ∀ (x1 : Int32) (x2 : Int32), ∃ (qc : Int64) (qm : Int64 × IS), f_X7_read x1 x2 Ic Jc = some qc ∧ f_X8_read x1 x2 Im Jm = some qm ∧ qc = qm.1 ∧ Inv Ic Jc qm.2 Jm
def SC_shift (Inv : IS → JS → IS → JS → Prop) : Prop := ∀ (Ic : IS) (Jc : JS) (Im : IS) (Jm : JS), Inv Ic Jc Im Jm → ∀ (x1 : Int32) (x2 : Int32) (x3 : Int32) (x4 : Int32) (x5 : Int32), ∃ (qc : Int32 × JS) (qm : Int32 × IS × JS), f_X7_shift x1 x2 x3 x4 x5 Ic Jc = some qc ∧ f_X8_shift x1 x2 x3 x4 x5 Im Jm = some qm ∧ qc.1 = qm.1 ∧ Inv Ic qc.2 qm.2.1 qm.2.2
def SCALL (Inv : IS → JS → IS → JS → Prop) : Prop := SC_arms Inv ∧ SC_seed Inv ∧ SC_feed Inv ∧ SC_tree Inv ∧ SC_of Inv ∧ SC_cause Inv ∧ SC_arm Inv ∧ SC_pass Inv ∧ SC_cancel Inv ∧ SC_told Inv ∧ SC_trace Inv ∧ SC_on Inv ∧ SC_till Inv ∧ SC_see Inv ∧ SC_seeds Inv ∧ SC_odds Inv ∧ SC_mean Inv ∧ SC_plan Inv ∧ SC_ends Inv ∧ SC_book Inv ∧ SC_looked Inv ∧ SC_judge Inv ∧ SC_image Inv ∧ SC_undo Inv ∧ SC_count Inv ∧ SC_tape Inv ∧ SC_item Inv ∧ SC_read Inv ∧ SC_shift Inv
set_option maxHeartbeats 1000000 in
theorem case_arms {z : CTL} {b L aC aM : Nat} {xs : Nat → Int32} {i : Int32} {Inv : IS → JS → IS → JS → Prop} (HS : SC_arms Inv) (O : OL z b L xs aC aM) (h1 : vp_in (i + 1) L) (h2 : vp_in (i + 2) L) (h3 : vp_in (i + 3) L) (h4 : vp_in (i + 4) L) (h5 : vp_in (i + 5) L) {Ic : IS} {Jc : JS} {Im : IS} {Jm : JS} (hI : Inv Ic Jc Im Jm) (K : ∀ (Ic : IS) (Jc : JS) (Im : IS) (Jm : JS), Inv Ic Jc Im Jm → GL z 1014 i [] Ic Jc Im Jm) : GL z 164 i [] Ic Jc Im Jm := by
  obtain ⟨qc, qm, e1, e2, er, hI2⟩ := HS Ic Jc Im Jm hI (xs (i + 1).toNatClampNeg)
  refine l_a1 O (pc := 164) dL_law_164 ?_
  refine l_a0 O (pc := 165) dL_law_165 ?_
  refine l_i3 O (pc := 166) dL_law_166 ?_
  refine l_iconst O (pc := 167) dL_law_167 (ic_1) ?_
  refine l_iadd O (pc := 168) dL_law_168 ?_
  refine l_sld O (pc := 169) dL_law_169 h1 ?_
  refine l_Ci O (pc := 170) (st := []) dL_law_170 (mc_X7_arms Jc e1) cb_X7_arms mll_13 isC_X7 (rmok (Nat.le_of_ble_eq_true rfl) (Nat.le_of_ble_eq_true rfl)) (Nat.le_of_ble_eq_true rfl) (fun _ => rfl) rfl ?_
  refine l_a2 O (pc := 173) dL_law_173 ?_
  refine l_a0 O (pc := 174) dL_law_174 ?_
  refine l_i3 O (pc := 175) dL_law_175 ?_
  refine l_iconst O (pc := 176) dL_law_176 (ic_1) ?_
  refine l_iadd O (pc := 177) dL_law_177 ?_
  refine l_sld O (pc := 178) dL_law_178 h1 ?_
  refine l_Mi O (pc := 179) (st := [.int qc.1]) dL_law_179 (mc_X8_arms Jm e2) cb_X8_arms mll_17 isC_X8 (rmok (Nat.le_of_ble_eq_true rfl) (Nat.le_of_ble_eq_true rfl)) (Nat.le_of_ble_eq_true rfl) (fun _ => rfl) rfl ?_
  refine l_eqT O (pc := 182) 1014 dL_law_182 (by decide) er ?_
  exact K _ _ _ _ hI2
set_option maxHeartbeats 1000000 in
theorem case_seed {z : CTL} {b L aC aM : Nat} {xs : Nat → Int32} {i : Int32} {Inv : IS → JS → IS → JS → Prop} (HS : SC_seed Inv) (O : OL z b L xs aC aM) (h1 : vp_in (i + 1) L) (h2 : vp_in (i + 2) L) (h3 : vp_in (i + 3) L) (h4 : vp_in (i + 4) L) (h5 : vp_in (i + 5) L) {Ic : IS} {Jc : JS} {Im : IS} {Jm : JS} (hI : Inv Ic Jc Im Jm) (K : ∀ (Ic : IS) (Jc : JS) (Im : IS) (Jm : JS), Inv Ic Jc Im Jm → GL z 1014 i [] Ic Jc Im Jm) : GL z 187 i [] Ic Jc Im Jm := by
  obtain ⟨qc, qm, e1, e2, er, hI2⟩ := HS Ic Jc Im Jm hI (xs (i + 1).toNatClampNeg)
  refine l_a1 O (pc := 187) dL_law_187 ?_
  refine l_a0 O (pc := 188) dL_law_188 ?_
  refine l_i3 O (pc := 189) dL_law_189 ?_
  refine l_iconst O (pc := 190) dL_law_190 (ic_1) ?_
  refine l_iadd O (pc := 191) dL_law_191 ?_
  refine l_sld O (pc := 192) dL_law_192 h1 ?_
  refine l_Ci O (pc := 193) (st := []) dL_law_193 (mc_X7_seed Jc e1) cb_X7_seed mll_18 isC_X7 (rmok (Nat.le_of_ble_eq_true rfl) (Nat.le_of_ble_eq_true rfl)) (Nat.le_of_ble_eq_true rfl) (fun _ => rfl) rfl ?_
  refine l_a2 O (pc := 196) dL_law_196 ?_
  refine l_a0 O (pc := 197) dL_law_197 ?_
  refine l_i3 O (pc := 198) dL_law_198 ?_
  refine l_iconst O (pc := 199) dL_law_199 (ic_1) ?_
  refine l_iadd O (pc := 200) dL_law_200 ?_
  refine l_sld O (pc := 201) dL_law_201 h1 ?_
  refine l_Mi O (pc := 202) (st := [.int qc.1]) dL_law_202 (mc_X8_seed Jm e2) cb_X8_seed mll_21 isC_X8 (rmok (Nat.le_of_ble_eq_true rfl) (Nat.le_of_ble_eq_true rfl)) (Nat.le_of_ble_eq_true rfl) (fun _ => rfl) rfl ?_
  refine l_eqT O (pc := 205) 1014 dL_law_205 (by decide) er ?_
  exact K _ _ _ _ hI2
set_option maxHeartbeats 1000000 in
theorem case_feed {z : CTL} {b L aC aM : Nat} {xs : Nat → Int32} {i : Int32} {Inv : IS → JS → IS → JS → Prop} (HS : SC_feed Inv) (O : OL z b L xs aC aM) (h1 : vp_in (i + 1) L) (h2 : vp_in (i + 2) L) (h3 : vp_in (i + 3) L) (h4 : vp_in (i + 4) L) (h5 : vp_in (i + 5) L) {Ic : IS} {Jc : JS} {Im : IS} {Jm : JS} (hI : Inv Ic Jc Im Jm) (K : ∀ (Ic : IS) (Jc : JS) (Im : IS) (Jm : JS), Inv Ic Jc Im Jm → GL z 1014 i [] Ic Jc Im Jm) : GL z 210 i [] Ic Jc Im Jm := by
  obtain ⟨qc, qm, e1, e2, er, hI2⟩ := HS Ic Jc Im Jm hI (xs (i + 1).toNatClampNeg)
  refine l_a1 O (pc := 210) dL_law_210 ?_
  refine l_a0 O (pc := 211) dL_law_211 ?_
  refine l_i3 O (pc := 212) dL_law_212 ?_
  refine l_iconst O (pc := 213) dL_law_213 (ic_1) ?_
  refine l_iadd O (pc := 214) dL_law_214 ?_
  refine l_sld O (pc := 215) dL_law_215 h1 ?_
  refine l_Ci O (pc := 216) (st := []) dL_law_216 (mc_X7_feed Jc e1) cb_X7_feed mll_22 isC_X7 (rmok (Nat.le_of_ble_eq_true rfl) (Nat.le_of_ble_eq_true rfl)) (Nat.le_of_ble_eq_true rfl) (fun _ => rfl) rfl ?_
  refine l_a2 O (pc := 219) dL_law_219 ?_
  refine l_a0 O (pc := 220) dL_law_220 ?_
  refine l_i3 O (pc := 221) dL_law_221 ?_
  refine l_iconst O (pc := 222) dL_law_222 (ic_1) ?_
  refine l_iadd O (pc := 223) dL_law_223 ?_
  refine l_sld O (pc := 224) dL_law_224 h1 ?_
  refine l_Mi O (pc := 225) (st := [.int qc.1]) dL_law_225 (mc_X8_feed Jm e2) cb_X8_feed mll_25 isC_X8 (rmok (Nat.le_of_ble_eq_true rfl) (Nat.le_of_ble_eq_true rfl)) (Nat.le_of_ble_eq_true rfl) (fun _ => rfl) rfl ?_
  refine l_eqT O (pc := 228) 1014 dL_law_228 (by decide) er ?_
  exact K _ _ _ _ hI2
set_option maxHeartbeats 1000000 in
theorem case_tree {z : CTL} {b L aC aM : Nat} {xs : Nat → Int32} {i : Int32} {Inv : IS → JS → IS → JS → Prop} (HS : SC_tree Inv) (O : OL z b L xs aC aM) (h1 : vp_in (i + 1) L) (h2 : vp_in (i + 2) L) (h3 : vp_in (i + 3) L) (h4 : vp_in (i + 4) L) (h5 : vp_in (i + 5) L) {Ic : IS} {Jc : JS} {Im : IS} {Jm : JS} (hI : Inv Ic Jc Im Jm) (K : ∀ (Ic : IS) (Jc : JS) (Im : IS) (Jm : JS), Inv Ic Jc Im Jm → GL z 1014 i [] Ic Jc Im Jm) : GL z 233 i [] Ic Jc Im Jm := by
  obtain ⟨qc, qm, e1, e2, er, hI2⟩ := HS Ic Jc Im Jm hI (xs (i + 1).toNatClampNeg)
  refine l_a1 O (pc := 233) dL_law_233 ?_
  refine l_a0 O (pc := 234) dL_law_234 ?_
  refine l_i3 O (pc := 235) dL_law_235 ?_
  refine l_iconst O (pc := 236) dL_law_236 (ic_1) ?_
  refine l_iadd O (pc := 237) dL_law_237 ?_
  refine l_sld O (pc := 238) dL_law_238 h1 ?_
  refine l_Ci O (pc := 239) (st := []) dL_law_239 (mc_X7_tree Jc e1) cb_X7_tree mll_26 isC_X7 (rmok (Nat.le_of_ble_eq_true rfl) (Nat.le_of_ble_eq_true rfl)) (Nat.le_of_ble_eq_true rfl) (fun _ => rfl) rfl ?_
  refine l_a2 O (pc := 242) dL_law_242 ?_
  refine l_a0 O (pc := 243) dL_law_243 ?_
  refine l_i3 O (pc := 244) dL_law_244 ?_
  refine l_iconst O (pc := 245) dL_law_245 (ic_1) ?_
  refine l_iadd O (pc := 246) dL_law_246 ?_
  refine l_sld O (pc := 247) dL_law_247 h1 ?_
  refine l_Mi O (pc := 248) (st := [.int qc.1]) dL_law_248 (mc_X8_tree Jm e2) cb_X8_tree mll_29 isC_X8 (rmok (Nat.le_of_ble_eq_true rfl) (Nat.le_of_ble_eq_true rfl)) (Nat.le_of_ble_eq_true rfl) (fun _ => rfl) rfl ?_
  refine l_eqT O (pc := 251) 1014 dL_law_251 (by decide) er ?_
  exact K _ _ _ _ hI2
set_option maxHeartbeats 1000000 in
theorem case_of {z : CTL} {b L aC aM : Nat} {xs : Nat → Int32} {i : Int32} {Inv : IS → JS → IS → JS → Prop} (HS : SC_of Inv) (O : OL z b L xs aC aM) (h1 : vp_in (i + 1) L) (h2 : vp_in (i + 2) L) (h3 : vp_in (i + 3) L) (h4 : vp_in (i + 4) L) (h5 : vp_in (i + 5) L) {Ic : IS} {Jc : JS} {Im : IS} {Jm : JS} (hI : Inv Ic Jc Im Jm) (K : ∀ (Ic : IS) (Jc : JS) (Im : IS) (Jm : JS), Inv Ic Jc Im Jm → GL z 1014 i [] Ic Jc Im Jm) : GL z 256 i [] Ic Jc Im Jm := by
  obtain ⟨qc, qm, e1, e2, er, hI2⟩ := HS Ic Jc Im Jm hI (xs (i + 1).toNatClampNeg) (xs (i + 2).toNatClampNeg)
  refine l_a1 O (pc := 256) dL_law_256 ?_
  refine l_a0 O (pc := 257) dL_law_257 ?_
  refine l_i3 O (pc := 258) dL_law_258 ?_
  refine l_iconst O (pc := 259) dL_law_259 (ic_1) ?_
  refine l_iadd O (pc := 260) dL_law_260 ?_
  refine l_sld O (pc := 261) dL_law_261 h1 ?_
  refine l_a0 O (pc := 262) dL_law_262 ?_
  refine l_i3 O (pc := 263) dL_law_263 ?_
  refine l_iconst O (pc := 264) dL_law_264 (ic_2) ?_
  refine l_iadd O (pc := 265) dL_law_265 ?_
  refine l_sld O (pc := 266) dL_law_266 h2 ?_
  refine l_Ci O (pc := 267) (st := []) dL_law_267 (mc_X7_of Jc e1) cb_X7_of mll_30 isC_X7 (rmok (Nat.le_of_ble_eq_true rfl) (Nat.le_of_ble_eq_true rfl)) (Nat.le_of_ble_eq_true rfl) (fun _ => rfl) rfl ?_
  refine l_a2 O (pc := 270) dL_law_270 ?_
  refine l_a0 O (pc := 271) dL_law_271 ?_
  refine l_i3 O (pc := 272) dL_law_272 ?_
  refine l_iconst O (pc := 273) dL_law_273 (ic_1) ?_
  refine l_iadd O (pc := 274) dL_law_274 ?_
  refine l_sld O (pc := 275) dL_law_275 h1 ?_
  refine l_a0 O (pc := 276) dL_law_276 ?_
  refine l_i3 O (pc := 277) dL_law_277 ?_
  refine l_iconst O (pc := 278) dL_law_278 (ic_2) ?_
  refine l_iadd O (pc := 279) dL_law_279 ?_
  refine l_sld O (pc := 280) dL_law_280 h2 ?_
  refine l_Mi O (pc := 281) (st := [.int qc.1]) dL_law_281 (mc_X8_of Jm e2) cb_X8_of mll_34 isC_X8 (rmok (Nat.le_of_ble_eq_true rfl) (Nat.le_of_ble_eq_true rfl)) (Nat.le_of_ble_eq_true rfl) (fun _ => rfl) rfl ?_
  refine l_eqT O (pc := 284) 1014 dL_law_284 (by decide) er ?_
  exact K _ _ _ _ hI2
set_option maxHeartbeats 1000000 in
theorem case_cause {z : CTL} {b L aC aM : Nat} {xs : Nat → Int32} {i : Int32} {Inv : IS → JS → IS → JS → Prop} (HS : SC_cause Inv) (O : OL z b L xs aC aM) (h1 : vp_in (i + 1) L) (h2 : vp_in (i + 2) L) (h3 : vp_in (i + 3) L) (h4 : vp_in (i + 4) L) (h5 : vp_in (i + 5) L) {Ic : IS} {Jc : JS} {Im : IS} {Jm : JS} (hI : Inv Ic Jc Im Jm) (K : ∀ (Ic : IS) (Jc : JS) (Im : IS) (Jm : JS), Inv Ic Jc Im Jm → GL z 1014 i [] Ic Jc Im Jm) : GL z 289 i [] Ic Jc Im Jm := by
  obtain ⟨qc, qm, e1, e2, er, hI2⟩ := HS Ic Jc Im Jm hI (xs (i + 1).toNatClampNeg) (xs (i + 2).toNatClampNeg)
  refine l_a1 O (pc := 289) dL_law_289 ?_
  refine l_a0 O (pc := 290) dL_law_290 ?_
  refine l_i3 O (pc := 291) dL_law_291 ?_
  refine l_iconst O (pc := 292) dL_law_292 (ic_1) ?_
  refine l_iadd O (pc := 293) dL_law_293 ?_
  refine l_sld O (pc := 294) dL_law_294 h1 ?_
  refine l_a0 O (pc := 295) dL_law_295 ?_
  refine l_i3 O (pc := 296) dL_law_296 ?_
  refine l_iconst O (pc := 297) dL_law_297 (ic_2) ?_
  refine l_iadd O (pc := 298) dL_law_298 ?_
  refine l_sld O (pc := 299) dL_law_299 h2 ?_
  refine l_Ci O (pc := 300) (st := []) dL_law_300 (mc_X7_cause Jc e1) cb_X7_cause mll_35 isC_X7 (rmok (Nat.le_of_ble_eq_true rfl) (Nat.le_of_ble_eq_true rfl)) (Nat.le_of_ble_eq_true rfl) (fun _ => rfl) rfl ?_
  refine l_a2 O (pc := 303) dL_law_303 ?_
  refine l_a0 O (pc := 304) dL_law_304 ?_
  refine l_i3 O (pc := 305) dL_law_305 ?_
  refine l_iconst O (pc := 306) dL_law_306 (ic_1) ?_
  refine l_iadd O (pc := 307) dL_law_307 ?_
  refine l_sld O (pc := 308) dL_law_308 h1 ?_
  refine l_a0 O (pc := 309) dL_law_309 ?_
  refine l_i3 O (pc := 310) dL_law_310 ?_
  refine l_iconst O (pc := 311) dL_law_311 (ic_2) ?_
  refine l_iadd O (pc := 312) dL_law_312 ?_
  refine l_sld O (pc := 313) dL_law_313 h2 ?_
  refine l_Mi O (pc := 314) (st := [.int qc]) dL_law_314 (mc_X8_cause Jm e2) cb_X8_cause mll_38 isC_X8 (rmok (Nat.le_of_ble_eq_true rfl) (Nat.le_of_ble_eq_true rfl)) (Nat.le_of_ble_eq_true rfl) (fun _ => rfl) rfl ?_
  refine l_eqT O (pc := 317) 1014 dL_law_317 (by decide) er ?_
  exact K _ _ _ _ hI2
set_option maxHeartbeats 1000000 in
theorem case_arm {z : CTL} {b L aC aM : Nat} {xs : Nat → Int32} {i : Int32} {Inv : IS → JS → IS → JS → Prop} (HS : SC_arm Inv) (O : OL z b L xs aC aM) (h1 : vp_in (i + 1) L) (h2 : vp_in (i + 2) L) (h3 : vp_in (i + 3) L) (h4 : vp_in (i + 4) L) (h5 : vp_in (i + 5) L) {Ic : IS} {Jc : JS} {Im : IS} {Jm : JS} (hI : Inv Ic Jc Im Jm) (K : ∀ (Ic : IS) (Jc : JS) (Im : IS) (Jm : JS), Inv Ic Jc Im Jm → GL z 1014 i [] Ic Jc Im Jm) : GL z 322 i [] Ic Jc Im Jm := by
  obtain ⟨qc, qm, e1, e2, er, hI2⟩ := HS Ic Jc Im Jm hI (xs (i + 1).toNatClampNeg) (xs (i + 2).toNatClampNeg)
  refine l_a1 O (pc := 322) dL_law_322 ?_
  refine l_a0 O (pc := 323) dL_law_323 ?_
  refine l_i3 O (pc := 324) dL_law_324 ?_
  refine l_iconst O (pc := 325) dL_law_325 (ic_1) ?_
  refine l_iadd O (pc := 326) dL_law_326 ?_
  refine l_sld O (pc := 327) dL_law_327 h1 ?_
  refine l_a0 O (pc := 328) dL_law_328 ?_
  refine l_i3 O (pc := 329) dL_law_329 ?_
  refine l_iconst O (pc := 330) dL_law_330 (ic_2) ?_
  refine l_iadd O (pc := 331) dL_law_331 ?_
  refine l_sld O (pc := 332) dL_law_332 h2 ?_
  refine l_Ci O (pc := 333) (st := []) dL_law_333 (mc_X7_arm Jc e1) cb_X7_arm mll_39 isC_X7 (rmok (Nat.le_of_ble_eq_true rfl) (Nat.le_of_ble_eq_true rfl)) (Nat.le_of_ble_eq_true rfl) (fun _ => rfl) rfl ?_
  refine l_a2 O (pc := 336) dL_law_336 ?_
  refine l_a0 O (pc := 337) dL_law_337 ?_
  refine l_i3 O (pc := 338) dL_law_338 ?_
  refine l_iconst O (pc := 339) dL_law_339 (ic_1) ?_
  refine l_iadd O (pc := 340) dL_law_340 ?_
  refine l_sld O (pc := 341) dL_law_341 h1 ?_
  refine l_a0 O (pc := 342) dL_law_342 ?_
  refine l_i3 O (pc := 343) dL_law_343 ?_
  refine l_iconst O (pc := 344) dL_law_344 (ic_2) ?_
  refine l_iadd O (pc := 345) dL_law_345 ?_
  refine l_sld O (pc := 346) dL_law_346 h2 ?_
  refine l_Mi O (pc := 347) (st := [.int qc]) dL_law_347 (mc_X8_arm Jm e2) cb_X8_arm mll_42 isC_X8 (rmok (Nat.le_of_ble_eq_true rfl) (Nat.le_of_ble_eq_true rfl)) (Nat.le_of_ble_eq_true rfl) (fun _ => rfl) rfl ?_
  refine l_eqT O (pc := 350) 1014 dL_law_350 (by decide) er ?_
  exact K _ _ _ _ hI2
set_option maxHeartbeats 1000000 in
theorem case_pass {z : CTL} {b L aC aM : Nat} {xs : Nat → Int32} {i : Int32} {Inv : IS → JS → IS → JS → Prop} (HS : SC_pass Inv) (O : OL z b L xs aC aM) (h1 : vp_in (i + 1) L) (h2 : vp_in (i + 2) L) (h3 : vp_in (i + 3) L) (h4 : vp_in (i + 4) L) (h5 : vp_in (i + 5) L) {Ic : IS} {Jc : JS} {Im : IS} {Jm : JS} (hI : Inv Ic Jc Im Jm) (K : ∀ (Ic : IS) (Jc : JS) (Im : IS) (Jm : JS), Inv Ic Jc Im Jm → GL z 1014 i [] Ic Jc Im Jm) : GL z 355 i [] Ic Jc Im Jm := by
  obtain ⟨qc, qm, e1, e2, er, hI2⟩ := HS Ic Jc Im Jm hI (xs (i + 1).toNatClampNeg)
  refine l_a1 O (pc := 355) dL_law_355 ?_
  refine l_a0 O (pc := 356) dL_law_356 ?_
  refine l_i3 O (pc := 357) dL_law_357 ?_
  refine l_iconst O (pc := 358) dL_law_358 (ic_1) ?_
  refine l_iadd O (pc := 359) dL_law_359 ?_
  refine l_sld O (pc := 360) dL_law_360 h1 ?_
  refine l_Ci O (pc := 361) (st := []) dL_law_361 (mc_X7_pass Jc e1) cb_X7_pass mll_43 isC_X7 (rmok (Nat.le_of_ble_eq_true rfl) (Nat.le_of_ble_eq_true rfl)) (Nat.le_of_ble_eq_true rfl) (fun _ => rfl) rfl ?_
  refine l_a2 O (pc := 364) dL_law_364 ?_
  refine l_a0 O (pc := 365) dL_law_365 ?_
  refine l_i3 O (pc := 366) dL_law_366 ?_
  refine l_iconst O (pc := 367) dL_law_367 (ic_1) ?_
  refine l_iadd O (pc := 368) dL_law_368 ?_
  refine l_sld O (pc := 369) dL_law_369 h1 ?_
  refine l_Mi O (pc := 370) (st := [.int qc.1]) dL_law_370 (mc_X8_pass Jm e2) cb_X8_pass mll_46 isC_X8 (rmok (Nat.le_of_ble_eq_true rfl) (Nat.le_of_ble_eq_true rfl)) (Nat.le_of_ble_eq_true rfl) (fun _ => rfl) rfl ?_
  refine l_eqT O (pc := 373) 1014 dL_law_373 (by decide) er ?_
  exact K _ _ _ _ hI2
set_option maxHeartbeats 1000000 in
theorem case_cancel {z : CTL} {b L aC aM : Nat} {xs : Nat → Int32} {i : Int32} {Inv : IS → JS → IS → JS → Prop} (HS : SC_cancel Inv) (O : OL z b L xs aC aM) (h1 : vp_in (i + 1) L) (h2 : vp_in (i + 2) L) (h3 : vp_in (i + 3) L) (h4 : vp_in (i + 4) L) (h5 : vp_in (i + 5) L) {Ic : IS} {Jc : JS} {Im : IS} {Jm : JS} (hI : Inv Ic Jc Im Jm) (K : ∀ (Ic : IS) (Jc : JS) (Im : IS) (Jm : JS), Inv Ic Jc Im Jm → GL z 1014 i [] Ic Jc Im Jm) : GL z 378 i [] Ic Jc Im Jm := by
  obtain ⟨qc, qm, e1, e2, er, hI2⟩ := HS Ic Jc Im Jm hI (xs (i + 1).toNatClampNeg)
  refine l_a1 O (pc := 378) dL_law_378 ?_
  refine l_a0 O (pc := 379) dL_law_379 ?_
  refine l_i3 O (pc := 380) dL_law_380 ?_
  refine l_iconst O (pc := 381) dL_law_381 (ic_1) ?_
  refine l_iadd O (pc := 382) dL_law_382 ?_
  refine l_sld O (pc := 383) dL_law_383 h1 ?_
  refine l_Ci O (pc := 384) (st := []) dL_law_384 (mc_X7_cancel Jc e1) cb_X7_cancel mll_47 isC_X7 (rmok (Nat.le_of_ble_eq_true rfl) (Nat.le_of_ble_eq_true rfl)) (Nat.le_of_ble_eq_true rfl) (fun _ => rfl) rfl ?_
  refine l_a2 O (pc := 387) dL_law_387 ?_
  refine l_a0 O (pc := 388) dL_law_388 ?_
  refine l_i3 O (pc := 389) dL_law_389 ?_
  refine l_iconst O (pc := 390) dL_law_390 (ic_1) ?_
  refine l_iadd O (pc := 391) dL_law_391 ?_
  refine l_sld O (pc := 392) dL_law_392 h1 ?_
  refine l_Mi O (pc := 393) (st := [.int qc.1]) dL_law_393 (mc_X8_cancel Jm e2) cb_X8_cancel mll_50 isC_X8 (rmok (Nat.le_of_ble_eq_true rfl) (Nat.le_of_ble_eq_true rfl)) (Nat.le_of_ble_eq_true rfl) (fun _ => rfl) rfl ?_
  refine l_eqT O (pc := 396) 1014 dL_law_396 (by decide) er ?_
  exact K _ _ _ _ hI2
set_option maxHeartbeats 1000000 in
theorem case_told {z : CTL} {b L aC aM : Nat} {xs : Nat → Int32} {i : Int32} {Inv : IS → JS → IS → JS → Prop} (HS : SC_told Inv) (O : OL z b L xs aC aM) (h1 : vp_in (i + 1) L) (h2 : vp_in (i + 2) L) (h3 : vp_in (i + 3) L) (h4 : vp_in (i + 4) L) (h5 : vp_in (i + 5) L) {Ic : IS} {Jc : JS} {Im : IS} {Jm : JS} (hI : Inv Ic Jc Im Jm) (K : ∀ (Ic : IS) (Jc : JS) (Im : IS) (Jm : JS), Inv Ic Jc Im Jm → GL z 1014 i [] Ic Jc Im Jm) : GL z 401 i [] Ic Jc Im Jm := by
  obtain ⟨qc, qm, e1, e2, er, hI2⟩ := HS Ic Jc Im Jm hI (xs (i + 1).toNatClampNeg)
  refine l_a1 O (pc := 401) dL_law_401 ?_
  refine l_a0 O (pc := 402) dL_law_402 ?_
  refine l_i3 O (pc := 403) dL_law_403 ?_
  refine l_iconst O (pc := 404) dL_law_404 (ic_1) ?_
  refine l_iadd O (pc := 405) dL_law_405 ?_
  refine l_sld O (pc := 406) dL_law_406 h1 ?_
  refine l_Ci O (pc := 407) (st := []) dL_law_407 (mc_X7_told Jc e1) cb_X7_told mll_51 isC_X7 (rmok (Nat.le_of_ble_eq_true rfl) (Nat.le_of_ble_eq_true rfl)) (Nat.le_of_ble_eq_true rfl) (fun _ => rfl) rfl ?_
  refine l_a2 O (pc := 410) dL_law_410 ?_
  refine l_a0 O (pc := 411) dL_law_411 ?_
  refine l_i3 O (pc := 412) dL_law_412 ?_
  refine l_iconst O (pc := 413) dL_law_413 (ic_1) ?_
  refine l_iadd O (pc := 414) dL_law_414 ?_
  refine l_sld O (pc := 415) dL_law_415 h1 ?_
  refine l_Mi O (pc := 416) (st := [.int qc.1]) dL_law_416 (mc_X8_told Jm e2) cb_X8_told mll_54 isC_X8 (rmok (Nat.le_of_ble_eq_true rfl) (Nat.le_of_ble_eq_true rfl)) (Nat.le_of_ble_eq_true rfl) (fun _ => rfl) rfl ?_
  refine l_eqT O (pc := 419) 1014 dL_law_419 (by decide) er ?_
  exact K _ _ _ _ hI2
set_option maxHeartbeats 1000000 in
theorem case_trace {z : CTL} {b L aC aM : Nat} {xs : Nat → Int32} {i : Int32} {Inv : IS → JS → IS → JS → Prop} (HS : SC_trace Inv) (O : OL z b L xs aC aM) (h1 : vp_in (i + 1) L) (h2 : vp_in (i + 2) L) (h3 : vp_in (i + 3) L) (h4 : vp_in (i + 4) L) (h5 : vp_in (i + 5) L) {Ic : IS} {Jc : JS} {Im : IS} {Jm : JS} (hI : Inv Ic Jc Im Jm) (K : ∀ (Ic : IS) (Jc : JS) (Im : IS) (Jm : JS), Inv Ic Jc Im Jm → GL z 1014 i [] Ic Jc Im Jm) : GL z 424 i [] Ic Jc Im Jm := by
  obtain ⟨qc, qm, e1, e2, er, hI2⟩ := HS Ic Jc Im Jm hI (xs (i + 1).toNatClampNeg) (xs (i + 2).toNatClampNeg)
  refine l_a1 O (pc := 424) dL_law_424 ?_
  refine l_a0 O (pc := 425) dL_law_425 ?_
  refine l_i3 O (pc := 426) dL_law_426 ?_
  refine l_iconst O (pc := 427) dL_law_427 (ic_1) ?_
  refine l_iadd O (pc := 428) dL_law_428 ?_
  refine l_sld O (pc := 429) dL_law_429 h1 ?_
  refine l_a0 O (pc := 430) dL_law_430 ?_
  refine l_i3 O (pc := 431) dL_law_431 ?_
  refine l_iconst O (pc := 432) dL_law_432 (ic_2) ?_
  refine l_iadd O (pc := 433) dL_law_433 ?_
  refine l_sld O (pc := 434) dL_law_434 h2 ?_
  refine l_Ci O (pc := 435) (st := []) dL_law_435 (mc_X7_trace Jc e1) cb_X7_trace mll_55 isC_X7 (rmok (Nat.le_of_ble_eq_true rfl) (Nat.le_of_ble_eq_true rfl)) (Nat.le_of_ble_eq_true rfl) (fun _ => rfl) rfl ?_
  refine l_a2 O (pc := 438) dL_law_438 ?_
  refine l_a0 O (pc := 439) dL_law_439 ?_
  refine l_i3 O (pc := 440) dL_law_440 ?_
  refine l_iconst O (pc := 441) dL_law_441 (ic_1) ?_
  refine l_iadd O (pc := 442) dL_law_442 ?_
  refine l_sld O (pc := 443) dL_law_443 h1 ?_
  refine l_a0 O (pc := 444) dL_law_444 ?_
  refine l_i3 O (pc := 445) dL_law_445 ?_
  refine l_iconst O (pc := 446) dL_law_446 (ic_2) ?_
  refine l_iadd O (pc := 447) dL_law_447 ?_
  refine l_sld O (pc := 448) dL_law_448 h2 ?_
  refine l_Mi O (pc := 449) (st := [.int qc]) dL_law_449 (mc_X8_trace Jm e2) cb_X8_trace mll_58 isC_X8 (rmok (Nat.le_of_ble_eq_true rfl) (Nat.le_of_ble_eq_true rfl)) (Nat.le_of_ble_eq_true rfl) (fun _ => rfl) rfl ?_
  refine l_eqT O (pc := 452) 1014 dL_law_452 (by decide) er ?_
  exact K _ _ _ _ hI2
set_option maxHeartbeats 1000000 in
theorem case_on {z : CTL} {b L aC aM : Nat} {xs : Nat → Int32} {i : Int32} {Inv : IS → JS → IS → JS → Prop} (HS : SC_on Inv) (O : OL z b L xs aC aM) (h1 : vp_in (i + 1) L) (h2 : vp_in (i + 2) L) (h3 : vp_in (i + 3) L) (h4 : vp_in (i + 4) L) (h5 : vp_in (i + 5) L) {Ic : IS} {Jc : JS} {Im : IS} {Jm : JS} (hI : Inv Ic Jc Im Jm) (K : ∀ (Ic : IS) (Jc : JS) (Im : IS) (Jm : JS), Inv Ic Jc Im Jm → GL z 1014 i [] Ic Jc Im Jm) : GL z 457 i [] Ic Jc Im Jm := by
  obtain ⟨qc, qm, e1, e2, er, hI2⟩ := HS Ic Jc Im Jm hI (xs (i + 1).toNatClampNeg) (xs (i + 2).toNatClampNeg)
  refine l_a1 O (pc := 457) dL_law_457 ?_
  refine l_a0 O (pc := 458) dL_law_458 ?_
  refine l_i3 O (pc := 459) dL_law_459 ?_
  refine l_iconst O (pc := 460) dL_law_460 (ic_1) ?_
  refine l_iadd O (pc := 461) dL_law_461 ?_
  refine l_sld O (pc := 462) dL_law_462 h1 ?_
  refine l_a0 O (pc := 463) dL_law_463 ?_
  refine l_i3 O (pc := 464) dL_law_464 ?_
  refine l_iconst O (pc := 465) dL_law_465 (ic_2) ?_
  refine l_iadd O (pc := 466) dL_law_466 ?_
  refine l_sld O (pc := 467) dL_law_467 h2 ?_
  refine l_Ci O (pc := 468) (st := []) dL_law_468 (mc_X7_on Jc e1) cb_X7_on mll_59 isC_X7 (rmok (Nat.le_of_ble_eq_true rfl) (Nat.le_of_ble_eq_true rfl)) (Nat.le_of_ble_eq_true rfl) (fun _ => rfl) rfl ?_
  refine l_a2 O (pc := 471) dL_law_471 ?_
  refine l_a0 O (pc := 472) dL_law_472 ?_
  refine l_i3 O (pc := 473) dL_law_473 ?_
  refine l_iconst O (pc := 474) dL_law_474 (ic_1) ?_
  refine l_iadd O (pc := 475) dL_law_475 ?_
  refine l_sld O (pc := 476) dL_law_476 h1 ?_
  refine l_a0 O (pc := 477) dL_law_477 ?_
  refine l_i3 O (pc := 478) dL_law_478 ?_
  refine l_iconst O (pc := 479) dL_law_479 (ic_2) ?_
  refine l_iadd O (pc := 480) dL_law_480 ?_
  refine l_sld O (pc := 481) dL_law_481 h2 ?_
  refine l_Mi O (pc := 482) (st := [.int qc.1]) dL_law_482 (mc_X8_on Jm e2) cb_X8_on mll_62 isC_X8 (rmok (Nat.le_of_ble_eq_true rfl) (Nat.le_of_ble_eq_true rfl)) (Nat.le_of_ble_eq_true rfl) (fun _ => rfl) rfl ?_
  refine l_eqT O (pc := 485) 1014 dL_law_485 (by decide) er ?_
  exact K _ _ _ _ hI2
set_option maxHeartbeats 1000000 in
theorem case_till {z : CTL} {b L aC aM : Nat} {xs : Nat → Int32} {i : Int32} {Inv : IS → JS → IS → JS → Prop} (HS : SC_till Inv) (O : OL z b L xs aC aM) (h1 : vp_in (i + 1) L) (h2 : vp_in (i + 2) L) (h3 : vp_in (i + 3) L) (h4 : vp_in (i + 4) L) (h5 : vp_in (i + 5) L) {Ic : IS} {Jc : JS} {Im : IS} {Jm : JS} (hI : Inv Ic Jc Im Jm) (K : ∀ (Ic : IS) (Jc : JS) (Im : IS) (Jm : JS), Inv Ic Jc Im Jm → GL z 1014 i [] Ic Jc Im Jm) : GL z 490 i [] Ic Jc Im Jm := by
  obtain ⟨qc, qm, e1, e2, er, hI2⟩ := HS Ic Jc Im Jm hI (xs (i + 1).toNatClampNeg)
  refine l_a1 O (pc := 490) dL_law_490 ?_
  refine l_a0 O (pc := 491) dL_law_491 ?_
  refine l_i3 O (pc := 492) dL_law_492 ?_
  refine l_iconst O (pc := 493) dL_law_493 (ic_1) ?_
  refine l_iadd O (pc := 494) dL_law_494 ?_
  refine l_sld O (pc := 495) dL_law_495 h1 ?_
  refine l_Ci O (pc := 496) (st := []) dL_law_496 (mc_X7_till Jc e1) cb_X7_till mll_63 isC_X7 (rmok (Nat.le_of_ble_eq_true rfl) (Nat.le_of_ble_eq_true rfl)) (Nat.le_of_ble_eq_true rfl) (fun _ => rfl) rfl ?_
  refine l_a2 O (pc := 499) dL_law_499 ?_
  refine l_a0 O (pc := 500) dL_law_500 ?_
  refine l_i3 O (pc := 501) dL_law_501 ?_
  refine l_iconst O (pc := 502) dL_law_502 (ic_1) ?_
  refine l_iadd O (pc := 503) dL_law_503 ?_
  refine l_sld O (pc := 504) dL_law_504 h1 ?_
  refine l_Mi O (pc := 505) (st := [.int qc.1]) dL_law_505 (mc_X8_till Jm e2) cb_X8_till mll_66 isC_X8 (rmok (Nat.le_of_ble_eq_true rfl) (Nat.le_of_ble_eq_true rfl)) (Nat.le_of_ble_eq_true rfl) (fun _ => rfl) rfl ?_
  refine l_eqT O (pc := 508) 1014 dL_law_508 (by decide) er ?_
  exact K _ _ _ _ hI2
set_option maxHeartbeats 1000000 in
theorem case_see {z : CTL} {b L aC aM : Nat} {xs : Nat → Int32} {i : Int32} {Inv : IS → JS → IS → JS → Prop} (HS : SC_see Inv) (O : OL z b L xs aC aM) (h1 : vp_in (i + 1) L) (h2 : vp_in (i + 2) L) (h3 : vp_in (i + 3) L) (h4 : vp_in (i + 4) L) (h5 : vp_in (i + 5) L) {Ic : IS} {Jc : JS} {Im : IS} {Jm : JS} (hI : Inv Ic Jc Im Jm) (K : ∀ (Ic : IS) (Jc : JS) (Im : IS) (Jm : JS), Inv Ic Jc Im Jm → GL z 1014 i [] Ic Jc Im Jm) : GL z 513 i [] Ic Jc Im Jm := by
  obtain ⟨qc, qm, e1, e2, er, hI2⟩ := HS Ic Jc Im Jm hI (xs (i + 1).toNatClampNeg) (xs (i + 2).toNatClampNeg)
  refine l_a1 O (pc := 513) dL_law_513 ?_
  refine l_a0 O (pc := 514) dL_law_514 ?_
  refine l_i3 O (pc := 515) dL_law_515 ?_
  refine l_iconst O (pc := 516) dL_law_516 (ic_1) ?_
  refine l_iadd O (pc := 517) dL_law_517 ?_
  refine l_sld O (pc := 518) dL_law_518 h1 ?_
  refine l_a0 O (pc := 519) dL_law_519 ?_
  refine l_i3 O (pc := 520) dL_law_520 ?_
  refine l_iconst O (pc := 521) dL_law_521 (ic_2) ?_
  refine l_iadd O (pc := 522) dL_law_522 ?_
  refine l_sld O (pc := 523) dL_law_523 h2 ?_
  refine l_Ci O (pc := 524) (st := []) dL_law_524 (mc_X7_see Jc e1) cb_X7_see mll_67 isC_X7 (rmok (Nat.le_of_ble_eq_true rfl) (Nat.le_of_ble_eq_true rfl)) (Nat.le_of_ble_eq_true rfl) (fun _ => rfl) rfl ?_
  refine l_a2 O (pc := 527) dL_law_527 ?_
  refine l_a0 O (pc := 528) dL_law_528 ?_
  refine l_i3 O (pc := 529) dL_law_529 ?_
  refine l_iconst O (pc := 530) dL_law_530 (ic_1) ?_
  refine l_iadd O (pc := 531) dL_law_531 ?_
  refine l_sld O (pc := 532) dL_law_532 h1 ?_
  refine l_a0 O (pc := 533) dL_law_533 ?_
  refine l_i3 O (pc := 534) dL_law_534 ?_
  refine l_iconst O (pc := 535) dL_law_535 (ic_2) ?_
  refine l_iadd O (pc := 536) dL_law_536 ?_
  refine l_sld O (pc := 537) dL_law_537 h2 ?_
  refine l_Mi O (pc := 538) (st := [.int qc.1]) dL_law_538 (mc_X8_see Jm e2) cb_X8_see mll_70 isC_X8 (rmok (Nat.le_of_ble_eq_true rfl) (Nat.le_of_ble_eq_true rfl)) (Nat.le_of_ble_eq_true rfl) (fun _ => rfl) rfl ?_
  refine l_eqT O (pc := 541) 1014 dL_law_541 (by decide) er ?_
  exact K _ _ _ _ hI2
set_option maxHeartbeats 1000000 in
theorem case_seeds {z : CTL} {b L aC aM : Nat} {xs : Nat → Int32} {i : Int32} {Inv : IS → JS → IS → JS → Prop} (HS : SC_seeds Inv) (O : OL z b L xs aC aM) (h1 : vp_in (i + 1) L) (h2 : vp_in (i + 2) L) (h3 : vp_in (i + 3) L) (h4 : vp_in (i + 4) L) (h5 : vp_in (i + 5) L) {Ic : IS} {Jc : JS} {Im : IS} {Jm : JS} (hI : Inv Ic Jc Im Jm) (K : ∀ (Ic : IS) (Jc : JS) (Im : IS) (Jm : JS), Inv Ic Jc Im Jm → GL z 1014 i [] Ic Jc Im Jm) : GL z 546 i [] Ic Jc Im Jm := by
  obtain ⟨qc, qm, e1, e2, er, hI2⟩ := HS Ic Jc Im Jm hI ()
  refine l_a1 O (pc := 546) dL_law_546 ?_
  refine l_Ci O (pc := 547) (st := []) dL_law_547 (mc_X7_seeds Jc e1) cb_X7_seeds mll_71 isC_X7 (rmok (Nat.le_of_ble_eq_true rfl) (Nat.le_of_ble_eq_true rfl)) (Nat.le_of_ble_eq_true rfl) (fun _ => rfl) rfl ?_
  refine l_a2 O (pc := 550) dL_law_550 ?_
  refine l_Mi O (pc := 551) (st := [.int qc.1]) dL_law_551 (mc_X8_seeds Jm e2) cb_X8_seeds mll_75 isC_X8 (rmok (Nat.le_of_ble_eq_true rfl) (Nat.le_of_ble_eq_true rfl)) (Nat.le_of_ble_eq_true rfl) (fun _ => rfl) rfl ?_
  refine l_eqT O (pc := 554) 1014 dL_law_554 (by decide) er ?_
  exact K _ _ _ _ hI2
set_option maxHeartbeats 1000000 in
theorem case_odds {z : CTL} {b L aC aM : Nat} {xs : Nat → Int32} {i : Int32} {Inv : IS → JS → IS → JS → Prop} (HS : SC_odds Inv) (O : OL z b L xs aC aM) (h1 : vp_in (i + 1) L) (h2 : vp_in (i + 2) L) (h3 : vp_in (i + 3) L) (h4 : vp_in (i + 4) L) (h5 : vp_in (i + 5) L) {Ic : IS} {Jc : JS} {Im : IS} {Jm : JS} (hI : Inv Ic Jc Im Jm) (K : ∀ (Ic : IS) (Jc : JS) (Im : IS) (Jm : JS), Inv Ic Jc Im Jm → GL z 1014 i [] Ic Jc Im Jm) : GL z 559 i [] Ic Jc Im Jm := by
  obtain ⟨qc, qm, e1, e2, er, hI2⟩ := HS Ic Jc Im Jm hI (xs (i + 1).toNatClampNeg) (xs (i + 2).toNatClampNeg)
  refine l_a1 O (pc := 559) dL_law_559 ?_
  refine l_a0 O (pc := 560) dL_law_560 ?_
  refine l_i3 O (pc := 561) dL_law_561 ?_
  refine l_iconst O (pc := 562) dL_law_562 (ic_1) ?_
  refine l_iadd O (pc := 563) dL_law_563 ?_
  refine l_sld O (pc := 564) dL_law_564 h1 ?_
  refine l_a0 O (pc := 565) dL_law_565 ?_
  refine l_i3 O (pc := 566) dL_law_566 ?_
  refine l_iconst O (pc := 567) dL_law_567 (ic_2) ?_
  refine l_iadd O (pc := 568) dL_law_568 ?_
  refine l_sld O (pc := 569) dL_law_569 h2 ?_
  refine l_Cl O (pc := 570) (st := []) dL_law_570 (mc_X7_odds Jc e1) cb_X7_odds mll_76 isC_X7 (rmok (Nat.le_of_ble_eq_true rfl) (Nat.le_of_ble_eq_true rfl)) (Nat.le_of_ble_eq_true rfl) (fun _ => rfl) rfl ?_
  refine l_a2 O (pc := 573) dL_law_573 ?_
  refine l_a0 O (pc := 574) dL_law_574 ?_
  refine l_i3 O (pc := 575) dL_law_575 ?_
  refine l_iconst O (pc := 576) dL_law_576 (ic_1) ?_
  refine l_iadd O (pc := 577) dL_law_577 ?_
  refine l_sld O (pc := 578) dL_law_578 h1 ?_
  refine l_a0 O (pc := 579) dL_law_579 ?_
  refine l_i3 O (pc := 580) dL_law_580 ?_
  refine l_iconst O (pc := 581) dL_law_581 (ic_2) ?_
  refine l_iadd O (pc := 582) dL_law_582 ?_
  refine l_sld O (pc := 583) dL_law_583 h2 ?_
  refine l_Ml O (pc := 584) (st := [.long qc.1]) dL_law_584 (mc_X8_odds Jm e2) cb_X8_odds mll_80 isC_X8 (rmok (Nat.le_of_ble_eq_true rfl) (Nat.le_of_ble_eq_true rfl)) (Nat.le_of_ble_eq_true rfl) (fun _ => rfl) rfl ?_
  refine l_lcmp O (pc := 587) dL_law_587 ?_
  refine l_zT O (pc := 588) 1014 dL_law_588 (by decide) (lgc er) ?_
  exact K _ _ _ _ hI2
set_option maxHeartbeats 1000000 in
theorem case_mean {z : CTL} {b L aC aM : Nat} {xs : Nat → Int32} {i : Int32} {Inv : IS → JS → IS → JS → Prop} (HS : SC_mean Inv) (O : OL z b L xs aC aM) (h1 : vp_in (i + 1) L) (h2 : vp_in (i + 2) L) (h3 : vp_in (i + 3) L) (h4 : vp_in (i + 4) L) (h5 : vp_in (i + 5) L) {Ic : IS} {Jc : JS} {Im : IS} {Jm : JS} (hI : Inv Ic Jc Im Jm) (K : ∀ (Ic : IS) (Jc : JS) (Im : IS) (Jm : JS), Inv Ic Jc Im Jm → GL z 1014 i [] Ic Jc Im Jm) : GL z 593 i [] Ic Jc Im Jm := by
  obtain ⟨qc, qm, e1, e2, er, hI2⟩ := HS Ic Jc Im Jm hI (xs (i + 1).toNatClampNeg)
  refine l_a1 O (pc := 593) dL_law_593 ?_
  refine l_a0 O (pc := 594) dL_law_594 ?_
  refine l_i3 O (pc := 595) dL_law_595 ?_
  refine l_iconst O (pc := 596) dL_law_596 (ic_1) ?_
  refine l_iadd O (pc := 597) dL_law_597 ?_
  refine l_sld O (pc := 598) dL_law_598 h1 ?_
  refine l_Cl O (pc := 599) (st := []) dL_law_599 (mc_X7_mean Jc e1) cb_X7_mean mll_81 isC_X7 (rmok (Nat.le_of_ble_eq_true rfl) (Nat.le_of_ble_eq_true rfl)) (Nat.le_of_ble_eq_true rfl) (fun _ => rfl) rfl ?_
  refine l_a2 O (pc := 602) dL_law_602 ?_
  refine l_a0 O (pc := 603) dL_law_603 ?_
  refine l_i3 O (pc := 604) dL_law_604 ?_
  refine l_iconst O (pc := 605) dL_law_605 (ic_1) ?_
  refine l_iadd O (pc := 606) dL_law_606 ?_
  refine l_sld O (pc := 607) dL_law_607 h1 ?_
  refine l_Ml O (pc := 608) (st := [.long qc]) dL_law_608 (mc_X8_mean Jm e2) cb_X8_mean mll_85 isC_X8 (rmok (Nat.le_of_ble_eq_true rfl) (Nat.le_of_ble_eq_true rfl)) (Nat.le_of_ble_eq_true rfl) (fun _ => rfl) rfl ?_
  refine l_lcmp O (pc := 611) dL_law_611 ?_
  refine l_zT O (pc := 612) 1014 dL_law_612 (by decide) (lgc er) ?_
  exact K _ _ _ _ hI2
set_option maxHeartbeats 1000000 in
theorem case_plan {z : CTL} {b L aC aM : Nat} {xs : Nat → Int32} {i : Int32} {Inv : IS → JS → IS → JS → Prop} (HS : SC_plan Inv) (O : OL z b L xs aC aM) (h1 : vp_in (i + 1) L) (h2 : vp_in (i + 2) L) (h3 : vp_in (i + 3) L) (h4 : vp_in (i + 4) L) (h5 : vp_in (i + 5) L) {Ic : IS} {Jc : JS} {Im : IS} {Jm : JS} (hI : Inv Ic Jc Im Jm) (K : ∀ (Ic : IS) (Jc : JS) (Im : IS) (Jm : JS), Inv Ic Jc Im Jm → GL z 1014 i [] Ic Jc Im Jm) : GL z 617 i [] Ic Jc Im Jm := by
  obtain ⟨qc, qm, e1, e2, er, hI2⟩ := HS Ic Jc Im Jm hI (xs (i + 1).toNatClampNeg) (xs (i + 2).toNatClampNeg)
  refine l_a1 O (pc := 617) dL_law_617 ?_
  refine l_a0 O (pc := 618) dL_law_618 ?_
  refine l_i3 O (pc := 619) dL_law_619 ?_
  refine l_iconst O (pc := 620) dL_law_620 (ic_1) ?_
  refine l_iadd O (pc := 621) dL_law_621 ?_
  refine l_sld O (pc := 622) dL_law_622 h1 ?_
  refine l_a0 O (pc := 623) dL_law_623 ?_
  refine l_i3 O (pc := 624) dL_law_624 ?_
  refine l_iconst O (pc := 625) dL_law_625 (ic_2) ?_
  refine l_iadd O (pc := 626) dL_law_626 ?_
  refine l_sld O (pc := 627) dL_law_627 h2 ?_
  refine l_Ci O (pc := 628) (st := []) dL_law_628 (mc_X7_plan Jc e1) cb_X7_plan mll_86 isC_X7 (rmok (Nat.le_of_ble_eq_true rfl) (Nat.le_of_ble_eq_true rfl)) (Nat.le_of_ble_eq_true rfl) (fun _ => rfl) rfl ?_
  refine l_a2 O (pc := 631) dL_law_631 ?_
  refine l_a0 O (pc := 632) dL_law_632 ?_
  refine l_i3 O (pc := 633) dL_law_633 ?_
  refine l_iconst O (pc := 634) dL_law_634 (ic_1) ?_
  refine l_iadd O (pc := 635) dL_law_635 ?_
  refine l_sld O (pc := 636) dL_law_636 h1 ?_
  refine l_a0 O (pc := 637) dL_law_637 ?_
  refine l_i3 O (pc := 638) dL_law_638 ?_
  refine l_iconst O (pc := 639) dL_law_639 (ic_2) ?_
  refine l_iadd O (pc := 640) dL_law_640 ?_
  refine l_sld O (pc := 641) dL_law_641 h2 ?_
  refine l_Mi O (pc := 642) (st := [.int qc.1]) dL_law_642 (mc_X8_plan Jm e2) cb_X8_plan mll_89 isC_X8 (rmok (Nat.le_of_ble_eq_true rfl) (Nat.le_of_ble_eq_true rfl)) (Nat.le_of_ble_eq_true rfl) (fun _ => rfl) rfl ?_
  refine l_eqT O (pc := 645) 1014 dL_law_645 (by decide) er ?_
  exact K _ _ _ _ hI2
set_option maxHeartbeats 1000000 in
theorem case_ends {z : CTL} {b L aC aM : Nat} {xs : Nat → Int32} {i : Int32} {Inv : IS → JS → IS → JS → Prop} (HS : SC_ends Inv) (O : OL z b L xs aC aM) (h1 : vp_in (i + 1) L) (h2 : vp_in (i + 2) L) (h3 : vp_in (i + 3) L) (h4 : vp_in (i + 4) L) (h5 : vp_in (i + 5) L) {Ic : IS} {Jc : JS} {Im : IS} {Jm : JS} (hI : Inv Ic Jc Im Jm) (K : ∀ (Ic : IS) (Jc : JS) (Im : IS) (Jm : JS), Inv Ic Jc Im Jm → GL z 1014 i [] Ic Jc Im Jm) : GL z 650 i [] Ic Jc Im Jm := by
  obtain ⟨qc, qm, e1, e2, er, hI2⟩ := HS Ic Jc Im Jm hI (xs (i + 1).toNatClampNeg)
  refine l_a1 O (pc := 650) dL_law_650 ?_
  refine l_a0 O (pc := 651) dL_law_651 ?_
  refine l_i3 O (pc := 652) dL_law_652 ?_
  refine l_iconst O (pc := 653) dL_law_653 (ic_1) ?_
  refine l_iadd O (pc := 654) dL_law_654 ?_
  refine l_sld O (pc := 655) dL_law_655 h1 ?_
  refine l_Ci O (pc := 656) (st := []) dL_law_656 (mc_X7_ends Jc e1) cb_X7_ends mll_90 isC_X7 (rmok (Nat.le_of_ble_eq_true rfl) (Nat.le_of_ble_eq_true rfl)) (Nat.le_of_ble_eq_true rfl) (fun _ => rfl) rfl ?_
  refine l_a2 O (pc := 659) dL_law_659 ?_
  refine l_a0 O (pc := 660) dL_law_660 ?_
  refine l_i3 O (pc := 661) dL_law_661 ?_
  refine l_iconst O (pc := 662) dL_law_662 (ic_1) ?_
  refine l_iadd O (pc := 663) dL_law_663 ?_
  refine l_sld O (pc := 664) dL_law_664 h1 ?_
  refine l_Mi O (pc := 665) (st := [.int qc.1]) dL_law_665 (mc_X8_ends Jm e2) cb_X8_ends mll_93 isC_X8 (rmok (Nat.le_of_ble_eq_true rfl) (Nat.le_of_ble_eq_true rfl)) (Nat.le_of_ble_eq_true rfl) (fun _ => rfl) rfl ?_
  refine l_eqT O (pc := 668) 1014 dL_law_668 (by decide) er ?_
  exact K _ _ _ _ hI2
set_option maxHeartbeats 1000000 in
theorem case_book {z : CTL} {b L aC aM : Nat} {xs : Nat → Int32} {i : Int32} {Inv : IS → JS → IS → JS → Prop} (HS : SC_book Inv) (O : OL z b L xs aC aM) (h1 : vp_in (i + 1) L) (h2 : vp_in (i + 2) L) (h3 : vp_in (i + 3) L) (h4 : vp_in (i + 4) L) (h5 : vp_in (i + 5) L) {Ic : IS} {Jc : JS} {Im : IS} {Jm : JS} (hI : Inv Ic Jc Im Jm) (K : ∀ (Ic : IS) (Jc : JS) (Im : IS) (Jm : JS), Inv Ic Jc Im Jm → GL z 1014 i [] Ic Jc Im Jm) : GL z 673 i [] Ic Jc Im Jm := by
  obtain ⟨qc, qm, e1, e2, er, hI2⟩ := HS Ic Jc Im Jm hI (xs (i + 1).toNatClampNeg) (xs (i + 2).toNatClampNeg)
  refine l_a1 O (pc := 673) dL_law_673 ?_
  refine l_a0 O (pc := 674) dL_law_674 ?_
  refine l_i3 O (pc := 675) dL_law_675 ?_
  refine l_iconst O (pc := 676) dL_law_676 (ic_1) ?_
  refine l_iadd O (pc := 677) dL_law_677 ?_
  refine l_sld O (pc := 678) dL_law_678 h1 ?_
  refine l_a0 O (pc := 679) dL_law_679 ?_
  refine l_i3 O (pc := 680) dL_law_680 ?_
  refine l_iconst O (pc := 681) dL_law_681 (ic_2) ?_
  refine l_iadd O (pc := 682) dL_law_682 ?_
  refine l_sld O (pc := 683) dL_law_683 h2 ?_
  refine l_Ci O (pc := 684) (st := []) dL_law_684 (mc_X7_book Jc e1) cb_X7_book mll_94 isC_X7 (rmok (Nat.le_of_ble_eq_true rfl) (Nat.le_of_ble_eq_true rfl)) (Nat.le_of_ble_eq_true rfl) (fun _ => rfl) rfl ?_
  refine l_a2 O (pc := 687) dL_law_687 ?_
  refine l_a0 O (pc := 688) dL_law_688 ?_
  refine l_i3 O (pc := 689) dL_law_689 ?_
  refine l_iconst O (pc := 690) dL_law_690 (ic_1) ?_
  refine l_iadd O (pc := 691) dL_law_691 ?_
  refine l_sld O (pc := 692) dL_law_692 h1 ?_
  refine l_a0 O (pc := 693) dL_law_693 ?_
  refine l_i3 O (pc := 694) dL_law_694 ?_
  refine l_iconst O (pc := 695) dL_law_695 (ic_2) ?_
  refine l_iadd O (pc := 696) dL_law_696 ?_
  refine l_sld O (pc := 697) dL_law_697 h2 ?_
  refine l_Mi O (pc := 698) (st := [.int qc.1]) dL_law_698 (mc_X8_book Jm e2) cb_X8_book mll_97 isC_X8 (rmok (Nat.le_of_ble_eq_true rfl) (Nat.le_of_ble_eq_true rfl)) (Nat.le_of_ble_eq_true rfl) (fun _ => rfl) rfl ?_
  refine l_eqT O (pc := 701) 1014 dL_law_701 (by decide) er ?_
  exact K _ _ _ _ hI2
set_option maxHeartbeats 1000000 in
theorem case_looked {z : CTL} {b L aC aM : Nat} {xs : Nat → Int32} {i : Int32} {Inv : IS → JS → IS → JS → Prop} (HS : SC_looked Inv) (O : OL z b L xs aC aM) (h1 : vp_in (i + 1) L) (h2 : vp_in (i + 2) L) (h3 : vp_in (i + 3) L) (h4 : vp_in (i + 4) L) (h5 : vp_in (i + 5) L) {Ic : IS} {Jc : JS} {Im : IS} {Jm : JS} (hI : Inv Ic Jc Im Jm) (K : ∀ (Ic : IS) (Jc : JS) (Im : IS) (Jm : JS), Inv Ic Jc Im Jm → GL z 1014 i [] Ic Jc Im Jm) : GL z 706 i [] Ic Jc Im Jm := by
  obtain ⟨qc, qm, e1, e2, er, hI2⟩ := HS Ic Jc Im Jm hI ()
  refine l_a1 O (pc := 706) dL_law_706 ?_
  refine l_Ci O (pc := 707) (st := []) dL_law_707 (mc_X7_looked Jc e1) cb_X7_looked mll_98 isC_X7 (rmok (Nat.le_of_ble_eq_true rfl) (Nat.le_of_ble_eq_true rfl)) (Nat.le_of_ble_eq_true rfl) (fun _ => rfl) rfl ?_
  refine l_a2 O (pc := 710) dL_law_710 ?_
  refine l_Mi O (pc := 711) (st := [.int qc]) dL_law_711 (mc_X8_looked Jm e2) cb_X8_looked mll_101 isC_X8 (rmok (Nat.le_of_ble_eq_true rfl) (Nat.le_of_ble_eq_true rfl)) (Nat.le_of_ble_eq_true rfl) (fun _ => rfl) rfl ?_
  refine l_eqT O (pc := 714) 1014 dL_law_714 (by decide) er ?_
  exact K _ _ _ _ hI2
set_option maxHeartbeats 1000000 in
theorem case_judge {z : CTL} {b L aC aM : Nat} {xs : Nat → Int32} {i : Int32} {Inv : IS → JS → IS → JS → Prop} (HS : SC_judge Inv) (O : OL z b L xs aC aM) (h1 : vp_in (i + 1) L) (h2 : vp_in (i + 2) L) (h3 : vp_in (i + 3) L) (h4 : vp_in (i + 4) L) (h5 : vp_in (i + 5) L) {Ic : IS} {Jc : JS} {Im : IS} {Jm : JS} (hI : Inv Ic Jc Im Jm) (K : ∀ (Ic : IS) (Jc : JS) (Im : IS) (Jm : JS), Inv Ic Jc Im Jm → GL z 1014 i [] Ic Jc Im Jm) : GL z 719 i [] Ic Jc Im Jm := by
  obtain ⟨qc, qm, e1, e2, er, hI2⟩ := HS Ic Jc Im Jm hI (xs (i + 1).toNatClampNeg) (xs (i + 2).toNatClampNeg)
  refine l_a1 O (pc := 719) dL_law_719 ?_
  refine l_a0 O (pc := 720) dL_law_720 ?_
  refine l_i3 O (pc := 721) dL_law_721 ?_
  refine l_iconst O (pc := 722) dL_law_722 (ic_1) ?_
  refine l_iadd O (pc := 723) dL_law_723 ?_
  refine l_sld O (pc := 724) dL_law_724 h1 ?_
  refine l_a0 O (pc := 725) dL_law_725 ?_
  refine l_i3 O (pc := 726) dL_law_726 ?_
  refine l_iconst O (pc := 727) dL_law_727 (ic_2) ?_
  refine l_iadd O (pc := 728) dL_law_728 ?_
  refine l_sld O (pc := 729) dL_law_729 h2 ?_
  refine l_Ci O (pc := 730) (st := []) dL_law_730 (mc_X7_judge e1) cb_X7_judge mll_102 isC_X7 (rmok (Nat.le_of_ble_eq_true rfl) (Nat.le_of_ble_eq_true rfl)) (Nat.le_of_ble_eq_true rfl) (fun _ => rfl) rfl ?_
  refine l_a2 O (pc := 733) dL_law_733 ?_
  refine l_a0 O (pc := 734) dL_law_734 ?_
  refine l_i3 O (pc := 735) dL_law_735 ?_
  refine l_iconst O (pc := 736) dL_law_736 (ic_1) ?_
  refine l_iadd O (pc := 737) dL_law_737 ?_
  refine l_sld O (pc := 738) dL_law_738 h1 ?_
  refine l_a0 O (pc := 739) dL_law_739 ?_
  refine l_i3 O (pc := 740) dL_law_740 ?_
  refine l_iconst O (pc := 741) dL_law_741 (ic_2) ?_
  refine l_iadd O (pc := 742) dL_law_742 ?_
  refine l_sld O (pc := 743) dL_law_743 h2 ?_
  refine l_Mi O (pc := 744) (st := [.int qc]) dL_law_744 (mc_X8_judge e2) cb_X8_judge mll_105 isC_X8 (rmok (Nat.le_of_ble_eq_true rfl) (Nat.le_of_ble_eq_true rfl)) (Nat.le_of_ble_eq_true rfl) (fun _ => rfl) rfl ?_
  refine l_eqT O (pc := 747) 1014 dL_law_747 (by decide) er ?_
  exact K _ _ _ _ hI2
set_option maxHeartbeats 1000000 in
theorem case_image {z : CTL} {b L aC aM : Nat} {xs : Nat → Int32} {i : Int32} {Inv : IS → JS → IS → JS → Prop} (HS : SC_image Inv) (O : OL z b L xs aC aM) (h1 : vp_in (i + 1) L) (h2 : vp_in (i + 2) L) (h3 : vp_in (i + 3) L) (h4 : vp_in (i + 4) L) (h5 : vp_in (i + 5) L) {Ic : IS} {Jc : JS} {Im : IS} {Jm : JS} (hI : Inv Ic Jc Im Jm) (K : ∀ (Ic : IS) (Jc : JS) (Im : IS) (Jm : JS), Inv Ic Jc Im Jm → GL z 1014 i [] Ic Jc Im Jm) : GL z 752 i [] Ic Jc Im Jm := by
  obtain ⟨qc, qm, e1, e2, er, hI2⟩ := HS Ic Jc Im Jm hI ()
  refine l_a1 O (pc := 752) dL_law_752 ?_
  refine l_Ci O (pc := 753) (st := []) dL_law_753 (mc_X7_image Jc e1) cb_X7_image mll_106 isC_X7 (rmok (Nat.le_of_ble_eq_true rfl) (Nat.le_of_ble_eq_true rfl)) (Nat.le_of_ble_eq_true rfl) (fun _ => rfl) rfl ?_
  refine l_a2 O (pc := 756) dL_law_756 ?_
  refine l_Mi O (pc := 757) (st := [.int qc.1]) dL_law_757 (mc_X8_image Jm e2) cb_X8_image mll_109 isC_X8 (rmok (Nat.le_of_ble_eq_true rfl) (Nat.le_of_ble_eq_true rfl)) (Nat.le_of_ble_eq_true rfl) (fun _ => rfl) rfl ?_
  refine l_eqT O (pc := 760) 1014 dL_law_760 (by decide) er ?_
  exact K _ _ _ _ hI2
set_option maxHeartbeats 1000000 in
theorem case_undo {z : CTL} {b L aC aM : Nat} {xs : Nat → Int32} {i : Int32} {Inv : IS → JS → IS → JS → Prop} (HS : SC_undo Inv) (O : OL z b L xs aC aM) (h1 : vp_in (i + 1) L) (h2 : vp_in (i + 2) L) (h3 : vp_in (i + 3) L) (h4 : vp_in (i + 4) L) (h5 : vp_in (i + 5) L) {Ic : IS} {Jc : JS} {Im : IS} {Jm : JS} (hI : Inv Ic Jc Im Jm) (K : ∀ (Ic : IS) (Jc : JS) (Im : IS) (Jm : JS), Inv Ic Jc Im Jm → GL z 1014 i [] Ic Jc Im Jm) : GL z 765 i [] Ic Jc Im Jm := by
  obtain ⟨qc, qm, e1, e2, er, hI2⟩ := HS Ic Jc Im Jm hI ()
  refine l_a1 O (pc := 765) dL_law_765 ?_
  refine l_Ci O (pc := 766) (st := []) dL_law_766 (mc_X7_undo Jc e1) cb_X7_undo mll_110 isC_X7 (rmok (Nat.le_of_ble_eq_true rfl) (Nat.le_of_ble_eq_true rfl)) (Nat.le_of_ble_eq_true rfl) (fun _ => rfl) rfl ?_
  refine l_a2 O (pc := 769) dL_law_769 ?_
  refine l_Mi O (pc := 770) (st := [.int qc.1]) dL_law_770 (mc_X8_undo Jm e2) cb_X8_undo mll_113 isC_X8 (rmok (Nat.le_of_ble_eq_true rfl) (Nat.le_of_ble_eq_true rfl)) (Nat.le_of_ble_eq_true rfl) (fun _ => rfl) rfl ?_
  refine l_eqT O (pc := 773) 1014 dL_law_773 (by decide) er ?_
  exact K _ _ _ _ hI2
set_option maxHeartbeats 1000000 in
theorem case_count {z : CTL} {b L aC aM : Nat} {xs : Nat → Int32} {i : Int32} {Inv : IS → JS → IS → JS → Prop} (HS : SC_count Inv) (O : OL z b L xs aC aM) (h1 : vp_in (i + 1) L) (h2 : vp_in (i + 2) L) (h3 : vp_in (i + 3) L) (h4 : vp_in (i + 4) L) (h5 : vp_in (i + 5) L) {Ic : IS} {Jc : JS} {Im : IS} {Jm : JS} (hI : Inv Ic Jc Im Jm) (K : ∀ (Ic : IS) (Jc : JS) (Im : IS) (Jm : JS), Inv Ic Jc Im Jm → GL z 1014 i [] Ic Jc Im Jm) : GL z 778 i [] Ic Jc Im Jm := by
  obtain ⟨qc, qm, e1, e2, er, hI2⟩ := HS Ic Jc Im Jm hI (xs (i + 1).toNatClampNeg)
  refine l_a1 O (pc := 778) dL_law_778 ?_
  refine l_a0 O (pc := 779) dL_law_779 ?_
  refine l_i3 O (pc := 780) dL_law_780 ?_
  refine l_iconst O (pc := 781) dL_law_781 (ic_1) ?_
  refine l_iadd O (pc := 782) dL_law_782 ?_
  refine l_sld O (pc := 783) dL_law_783 h1 ?_
  refine l_Ci O (pc := 784) (st := []) dL_law_784 (mc_X7_count Jc e1) cb_X7_count mll_114 isC_X7 (rmok (Nat.le_of_ble_eq_true rfl) (Nat.le_of_ble_eq_true rfl)) (Nat.le_of_ble_eq_true rfl) (fun _ => rfl) rfl ?_
  refine l_a2 O (pc := 787) dL_law_787 ?_
  refine l_a0 O (pc := 788) dL_law_788 ?_
  refine l_i3 O (pc := 789) dL_law_789 ?_
  refine l_iconst O (pc := 790) dL_law_790 (ic_1) ?_
  refine l_iadd O (pc := 791) dL_law_791 ?_
  refine l_sld O (pc := 792) dL_law_792 h1 ?_
  refine l_Mi O (pc := 793) (st := [.int qc]) dL_law_793 (mc_X8_count Jm e2) cb_X8_count mll_117 isC_X8 (rmok (Nat.le_of_ble_eq_true rfl) (Nat.le_of_ble_eq_true rfl)) (Nat.le_of_ble_eq_true rfl) (fun _ => rfl) rfl ?_
  refine l_eqT O (pc := 796) 1014 dL_law_796 (by decide) er ?_
  exact K _ _ _ _ hI2
set_option maxHeartbeats 1000000 in
theorem case_tape {z : CTL} {b L aC aM : Nat} {xs : Nat → Int32} {i : Int32} {Inv : IS → JS → IS → JS → Prop} (HS : SC_tape Inv) (O : OL z b L xs aC aM) (h1 : vp_in (i + 1) L) (h2 : vp_in (i + 2) L) (h3 : vp_in (i + 3) L) (h4 : vp_in (i + 4) L) (h5 : vp_in (i + 5) L) {Ic : IS} {Jc : JS} {Im : IS} {Jm : JS} (hI : Inv Ic Jc Im Jm) (K : ∀ (Ic : IS) (Jc : JS) (Im : IS) (Jm : JS), Inv Ic Jc Im Jm → GL z 1014 i [] Ic Jc Im Jm) : GL z 801 i [] Ic Jc Im Jm := by
  obtain ⟨qc, qm, e1, e2, er, hI2⟩ := HS Ic Jc Im Jm hI (xs (i + 1).toNatClampNeg) (xs (i + 2).toNatClampNeg) (xs (i + 3).toNatClampNeg)
  refine l_a1 O (pc := 801) dL_law_801 ?_
  refine l_a0 O (pc := 802) dL_law_802 ?_
  refine l_i3 O (pc := 803) dL_law_803 ?_
  refine l_iconst O (pc := 804) dL_law_804 (ic_1) ?_
  refine l_iadd O (pc := 805) dL_law_805 ?_
  refine l_sld O (pc := 806) dL_law_806 h1 ?_
  refine l_a0 O (pc := 807) dL_law_807 ?_
  refine l_i3 O (pc := 808) dL_law_808 ?_
  refine l_iconst O (pc := 809) dL_law_809 (ic_2) ?_
  refine l_iadd O (pc := 810) dL_law_810 ?_
  refine l_sld O (pc := 811) dL_law_811 h2 ?_
  refine l_a0 O (pc := 812) dL_law_812 ?_
  refine l_i3 O (pc := 813) dL_law_813 ?_
  refine l_iconst O (pc := 814) dL_law_814 (ic_3) ?_
  refine l_iadd O (pc := 815) dL_law_815 ?_
  refine l_sld O (pc := 816) dL_law_816 h3 ?_
  refine l_Ci O (pc := 817) (st := []) dL_law_817 (mc_X7_tape e1) cb_X7_tape mll_118 isC_X7 (rmok (Nat.le_of_ble_eq_true rfl) (Nat.le_of_ble_eq_true rfl)) (Nat.le_of_ble_eq_true rfl) (fun _ => rfl) rfl ?_
  refine l_a2 O (pc := 820) dL_law_820 ?_
  refine l_a0 O (pc := 821) dL_law_821 ?_
  refine l_i3 O (pc := 822) dL_law_822 ?_
  refine l_iconst O (pc := 823) dL_law_823 (ic_1) ?_
  refine l_iadd O (pc := 824) dL_law_824 ?_
  refine l_sld O (pc := 825) dL_law_825 h1 ?_
  refine l_a0 O (pc := 826) dL_law_826 ?_
  refine l_i3 O (pc := 827) dL_law_827 ?_
  refine l_iconst O (pc := 828) dL_law_828 (ic_2) ?_
  refine l_iadd O (pc := 829) dL_law_829 ?_
  refine l_sld O (pc := 830) dL_law_830 h2 ?_
  refine l_a0 O (pc := 831) dL_law_831 ?_
  refine l_i3 O (pc := 832) dL_law_832 ?_
  refine l_iconst O (pc := 833) dL_law_833 (ic_3) ?_
  refine l_iadd O (pc := 834) dL_law_834 ?_
  refine l_sld O (pc := 835) dL_law_835 h3 ?_
  refine l_Mi O (pc := 836) (st := [.int qc.1]) dL_law_836 (mc_X8_tape e2) cb_X8_tape mll_122 isC_X8 (rmok (Nat.le_of_ble_eq_true rfl) (Nat.le_of_ble_eq_true rfl)) (Nat.le_of_ble_eq_true rfl) (fun _ => rfl) rfl ?_
  refine l_eqT O (pc := 839) 1014 dL_law_839 (by decide) er ?_
  exact K _ _ _ _ hI2
set_option maxHeartbeats 1000000 in
theorem case_item {z : CTL} {b L aC aM : Nat} {xs : Nat → Int32} {i : Int32} {Inv : IS → JS → IS → JS → Prop} (HS : SC_item Inv) (O : OL z b L xs aC aM) (h1 : vp_in (i + 1) L) (h2 : vp_in (i + 2) L) (h3 : vp_in (i + 3) L) (h4 : vp_in (i + 4) L) (h5 : vp_in (i + 5) L) {Ic : IS} {Jc : JS} {Im : IS} {Jm : JS} (hI : Inv Ic Jc Im Jm) (K : ∀ (Ic : IS) (Jc : JS) (Im : IS) (Jm : JS), Inv Ic Jc Im Jm → GL z 1014 i [] Ic Jc Im Jm) : GL z 844 i [] Ic Jc Im Jm := by
  obtain ⟨qc, qm, e1, e2, er, hI2⟩ := HS Ic Jc Im Jm hI (xs (i + 1).toNatClampNeg) (xs (i + 2).toNatClampNeg) (((xs (i + 3).toNatClampNeg).toInt64 <<< ((32 : Int32).toInt64 &&& 63)) ||| ((xs (i + 4).toNatClampNeg).toInt64 &&& 4294967295))
  refine l_a1 O (pc := 844) dL_law_844 ?_
  refine l_a0 O (pc := 845) dL_law_845 ?_
  refine l_i3 O (pc := 846) dL_law_846 ?_
  refine l_iconst O (pc := 847) dL_law_847 (ic_1) ?_
  refine l_iadd O (pc := 848) dL_law_848 ?_
  refine l_sld O (pc := 849) dL_law_849 h1 ?_
  refine l_a0 O (pc := 850) dL_law_850 ?_
  refine l_i3 O (pc := 851) dL_law_851 ?_
  refine l_iconst O (pc := 852) dL_law_852 (ic_2) ?_
  refine l_iadd O (pc := 853) dL_law_853 ?_
  refine l_sld O (pc := 854) dL_law_854 h2 ?_
  refine l_a0 O (pc := 855) dL_law_855 ?_
  refine l_i3 O (pc := 856) dL_law_856 ?_
  refine l_iconst O (pc := 857) dL_law_857 (ic_3) ?_
  refine l_iadd O (pc := 858) dL_law_858 ?_
  refine l_sld O (pc := 859) dL_law_859 h3 ?_
  refine l_i2l O (pc := 860) dL_law_860 ?_
  refine l_bipush O (pc := 861) dL_law_861 bp_32 ?_
  refine l_lshl O (pc := 863) dL_law_863 ?_
  refine l_a0 O (pc := 864) dL_law_864 ?_
  refine l_i3 O (pc := 865) dL_law_865 ?_
  refine l_iconst O (pc := 866) dL_law_866 (ic_4) ?_
  refine l_iadd O (pc := 867) dL_law_867 ?_
  refine l_sld O (pc := 868) dL_law_868 h4 ?_
  refine l_i2l O (pc := 869) dL_law_869 ?_
  refine l_ldc2 O (pc := 870) dL_law_870 kw_L_123 ?_
  refine l_land O (pc := 873) dL_law_873 ?_
  refine l_lor O (pc := 874) dL_law_874 ?_
  refine l_Ci O (pc := 875) (st := []) dL_law_875 (mc_X7_item e1) cb_X7_item mll_125 isC_X7 (rmok (Nat.le_of_ble_eq_true rfl) (Nat.le_of_ble_eq_true rfl)) (Nat.le_of_ble_eq_true rfl) (fun _ => rfl) rfl ?_
  refine l_a2 O (pc := 878) dL_law_878 ?_
  refine l_a0 O (pc := 879) dL_law_879 ?_
  refine l_i3 O (pc := 880) dL_law_880 ?_
  refine l_iconst O (pc := 881) dL_law_881 (ic_1) ?_
  refine l_iadd O (pc := 882) dL_law_882 ?_
  refine l_sld O (pc := 883) dL_law_883 h1 ?_
  refine l_a0 O (pc := 884) dL_law_884 ?_
  refine l_i3 O (pc := 885) dL_law_885 ?_
  refine l_iconst O (pc := 886) dL_law_886 (ic_2) ?_
  refine l_iadd O (pc := 887) dL_law_887 ?_
  refine l_sld O (pc := 888) dL_law_888 h2 ?_
  refine l_a0 O (pc := 889) dL_law_889 ?_
  refine l_i3 O (pc := 890) dL_law_890 ?_
  refine l_iconst O (pc := 891) dL_law_891 (ic_3) ?_
  refine l_iadd O (pc := 892) dL_law_892 ?_
  refine l_sld O (pc := 893) dL_law_893 h3 ?_
  refine l_i2l O (pc := 894) dL_law_894 ?_
  refine l_bipush O (pc := 895) dL_law_895 bp_32 ?_
  refine l_lshl O (pc := 897) dL_law_897 ?_
  refine l_a0 O (pc := 898) dL_law_898 ?_
  refine l_i3 O (pc := 899) dL_law_899 ?_
  refine l_iconst O (pc := 900) dL_law_900 (ic_4) ?_
  refine l_iadd O (pc := 901) dL_law_901 ?_
  refine l_sld O (pc := 902) dL_law_902 h4 ?_
  refine l_i2l O (pc := 903) dL_law_903 ?_
  refine l_ldc2 O (pc := 904) dL_law_904 kw_L_123 ?_
  refine l_land O (pc := 907) dL_law_907 ?_
  refine l_lor O (pc := 908) dL_law_908 ?_
  refine l_Mi O (pc := 909) (st := [.int qc.1]) dL_law_909 (mc_X8_item e2) cb_X8_item mll_129 isC_X8 (rmok (Nat.le_of_ble_eq_true rfl) (Nat.le_of_ble_eq_true rfl)) (Nat.le_of_ble_eq_true rfl) (fun _ => rfl) rfl ?_
  refine l_eqT O (pc := 912) 1014 dL_law_912 (by decide) er ?_
  exact K _ _ _ _ hI2
set_option maxHeartbeats 1000000 in
theorem case_read {z : CTL} {b L aC aM : Nat} {xs : Nat → Int32} {i : Int32} {Inv : IS → JS → IS → JS → Prop} (HS : SC_read Inv) (O : OL z b L xs aC aM) (h1 : vp_in (i + 1) L) (h2 : vp_in (i + 2) L) (h3 : vp_in (i + 3) L) (h4 : vp_in (i + 4) L) (h5 : vp_in (i + 5) L) {Ic : IS} {Jc : JS} {Im : IS} {Jm : JS} (hI : Inv Ic Jc Im Jm) (K : ∀ (Ic : IS) (Jc : JS) (Im : IS) (Jm : JS), Inv Ic Jc Im Jm → GL z 1014 i [] Ic Jc Im Jm) : GL z 917 i [] Ic Jc Im Jm := by
  obtain ⟨qc, qm, e1, e2, er, hI2⟩ := HS Ic Jc Im Jm hI (xs (i + 1).toNatClampNeg) (xs (i + 2).toNatClampNeg)
  refine l_a1 O (pc := 917) dL_law_917 ?_
  refine l_a0 O (pc := 918) dL_law_918 ?_
  refine l_i3 O (pc := 919) dL_law_919 ?_
  refine l_iconst O (pc := 920) dL_law_920 (ic_1) ?_
  refine l_iadd O (pc := 921) dL_law_921 ?_
  refine l_sld O (pc := 922) dL_law_922 h1 ?_
  refine l_a0 O (pc := 923) dL_law_923 ?_
  refine l_i3 O (pc := 924) dL_law_924 ?_
  refine l_iconst O (pc := 925) dL_law_925 (ic_2) ?_
  refine l_iadd O (pc := 926) dL_law_926 ?_
  refine l_sld O (pc := 927) dL_law_927 h2 ?_
  refine l_Cl O (pc := 928) (st := []) dL_law_928 (mc_X7_read e1) cb_X7_read mll_130 isC_X7 (rmok (Nat.le_of_ble_eq_true rfl) (Nat.le_of_ble_eq_true rfl)) (Nat.le_of_ble_eq_true rfl) (fun _ => rfl) rfl ?_
  refine l_a2 O (pc := 931) dL_law_931 ?_
  refine l_a0 O (pc := 932) dL_law_932 ?_
  refine l_i3 O (pc := 933) dL_law_933 ?_
  refine l_iconst O (pc := 934) dL_law_934 (ic_1) ?_
  refine l_iadd O (pc := 935) dL_law_935 ?_
  refine l_sld O (pc := 936) dL_law_936 h1 ?_
  refine l_a0 O (pc := 937) dL_law_937 ?_
  refine l_i3 O (pc := 938) dL_law_938 ?_
  refine l_iconst O (pc := 939) dL_law_939 (ic_2) ?_
  refine l_iadd O (pc := 940) dL_law_940 ?_
  refine l_sld O (pc := 941) dL_law_941 h2 ?_
  refine l_Ml O (pc := 942) (st := [.long qc]) dL_law_942 (mc_X8_read e2) cb_X8_read mll_133 isC_X8 (rmok (Nat.le_of_ble_eq_true rfl) (Nat.le_of_ble_eq_true rfl)) (Nat.le_of_ble_eq_true rfl) (fun _ => rfl) rfl ?_
  refine l_lcmp O (pc := 945) dL_law_945 ?_
  refine l_zT O (pc := 946) 1014 dL_law_946 (by decide) (lgc er) ?_
  exact K _ _ _ _ hI2
set_option maxHeartbeats 1000000 in
theorem case_shift {z : CTL} {b L aC aM : Nat} {xs : Nat → Int32} {i : Int32} {Inv : IS → JS → IS → JS → Prop} (HS : SC_shift Inv) (O : OL z b L xs aC aM) (h1 : vp_in (i + 1) L) (h2 : vp_in (i + 2) L) (h3 : vp_in (i + 3) L) (h4 : vp_in (i + 4) L) (h5 : vp_in (i + 5) L) {Ic : IS} {Jc : JS} {Im : IS} {Jm : JS} (hI : Inv Ic Jc Im Jm) (K : ∀ (Ic : IS) (Jc : JS) (Im : IS) (Jm : JS), Inv Ic Jc Im Jm → GL z 1014 i [] Ic Jc Im Jm) : GL z 951 i [] Ic Jc Im Jm := by
  obtain ⟨qc, qm, e1, e2, er, hI2⟩ := HS Ic Jc Im Jm hI (xs (i + 1).toNatClampNeg) (xs (i + 2).toNatClampNeg) (xs (i + 3).toNatClampNeg) (xs (i + 4).toNatClampNeg) (xs (i + 5).toNatClampNeg)
  refine l_a1 O (pc := 951) dL_law_951 ?_
  refine l_a0 O (pc := 952) dL_law_952 ?_
  refine l_i3 O (pc := 953) dL_law_953 ?_
  refine l_iconst O (pc := 954) dL_law_954 (ic_1) ?_
  refine l_iadd O (pc := 955) dL_law_955 ?_
  refine l_sld O (pc := 956) dL_law_956 h1 ?_
  refine l_a0 O (pc := 957) dL_law_957 ?_
  refine l_i3 O (pc := 958) dL_law_958 ?_
  refine l_iconst O (pc := 959) dL_law_959 (ic_2) ?_
  refine l_iadd O (pc := 960) dL_law_960 ?_
  refine l_sld O (pc := 961) dL_law_961 h2 ?_
  refine l_a0 O (pc := 962) dL_law_962 ?_
  refine l_i3 O (pc := 963) dL_law_963 ?_
  refine l_iconst O (pc := 964) dL_law_964 (ic_3) ?_
  refine l_iadd O (pc := 965) dL_law_965 ?_
  refine l_sld O (pc := 966) dL_law_966 h3 ?_
  refine l_a0 O (pc := 967) dL_law_967 ?_
  refine l_i3 O (pc := 968) dL_law_968 ?_
  refine l_iconst O (pc := 969) dL_law_969 (ic_4) ?_
  refine l_iadd O (pc := 970) dL_law_970 ?_
  refine l_sld O (pc := 971) dL_law_971 h4 ?_
  refine l_a0 O (pc := 972) dL_law_972 ?_
  refine l_i3 O (pc := 973) dL_law_973 ?_
  refine l_iconst O (pc := 974) dL_law_974 (ic_5) ?_
  refine l_iadd O (pc := 975) dL_law_975 ?_
  refine l_sld O (pc := 976) dL_law_976 h5 ?_
  refine l_Ci O (pc := 977) (st := []) dL_law_977 (mc_X7_shift e1) cb_X7_shift mll_134 isC_X7 (rmok (Nat.le_of_ble_eq_true rfl) (Nat.le_of_ble_eq_true rfl)) (Nat.le_of_ble_eq_true rfl) (fun _ => rfl) rfl ?_
  refine l_a2 O (pc := 980) dL_law_980 ?_
  refine l_a0 O (pc := 981) dL_law_981 ?_
  refine l_i3 O (pc := 982) dL_law_982 ?_
  refine l_iconst O (pc := 983) dL_law_983 (ic_1) ?_
  refine l_iadd O (pc := 984) dL_law_984 ?_
  refine l_sld O (pc := 985) dL_law_985 h1 ?_
  refine l_a0 O (pc := 986) dL_law_986 ?_
  refine l_i3 O (pc := 987) dL_law_987 ?_
  refine l_iconst O (pc := 988) dL_law_988 (ic_2) ?_
  refine l_iadd O (pc := 989) dL_law_989 ?_
  refine l_sld O (pc := 990) dL_law_990 h2 ?_
  refine l_a0 O (pc := 991) dL_law_991 ?_
  refine l_i3 O (pc := 992) dL_law_992 ?_
  refine l_iconst O (pc := 993) dL_law_993 (ic_3) ?_
  refine l_iadd O (pc := 994) dL_law_994 ?_
  refine l_sld O (pc := 995) dL_law_995 h3 ?_
  refine l_a0 O (pc := 996) dL_law_996 ?_
  refine l_i3 O (pc := 997) dL_law_997 ?_
  refine l_iconst O (pc := 998) dL_law_998 (ic_4) ?_
  refine l_iadd O (pc := 999) dL_law_999 ?_
  refine l_sld O (pc := 1000) dL_law_1000 h4 ?_
  refine l_a0 O (pc := 1001) dL_law_1001 ?_
  refine l_i3 O (pc := 1002) dL_law_1002 ?_
  refine l_iconst O (pc := 1003) dL_law_1003 (ic_5) ?_
  refine l_iadd O (pc := 1004) dL_law_1004 ?_
  refine l_sld O (pc := 1005) dL_law_1005 h5 ?_
  refine l_Mi O (pc := 1006) (st := [.int qc.1]) dL_law_1006 (mc_X8_shift e2) cb_X8_shift mll_138 isC_X8 (rmok (Nat.le_of_ble_eq_true rfl) (Nat.le_of_ble_eq_true rfl)) (Nat.le_of_ble_eq_true rfl) (fun _ => rfl) rfl ?_
  refine l_eqT O (pc := 1009) 1014 dL_law_1009 (by decide) er ?_
  exact K _ _ _ _ hI2
set_option maxHeartbeats 4000000 in
set_option maxRecDepth 100000 in
theorem law_loop {z : CTL} {b L aC aM : Nat} {xs : Nat → Int32} {Inv : IS → JS → IS → JS → Prop} (HS : SCALL Inv) (hL : L ≤ 3072) (O : OL z b L xs aC aM) : ∀ (n k : Nat) (i : Int32), i = nI (6 * k) → 6 * k ≤ L → L + 1 ≤ 6 * k + n → ∀ (Ic : IS) (Jc : JS) (Im : IS) (Jm : JS), Inv Ic Jc Im Jm → GL z 18 i [] Ic Jc Im Jm := by
  intro n
  induction n with
  | zero =>
    intro k i _ h1 h2
    omega
  | succ n ih =>
    intro k i ei hk hn Ic Jc Im Jm hI
    refine l_i3 O (pc := 18) dL_law_18 ?_
    refine l_a0 O (pc := 19) dL_law_19 ?_
    refine l_slen O (pc := 20) dL_law_20 ?_
    refine l_bipush O (pc := 21) dL_law_21 bp_6 ?_
    refine l_isub O (pc := 23) dL_law_23 ?_
    refine l_gt O (pc := 24) 1020 dL_law_24 (by decide) (fun _ => l_end O) (fun hle => ?_)
    have hle2 : 6 * k + 6 ≤ L := by
      rw [ei, Int32.lt_iff_toInt_lt, nI_toInt (by omega)] at hle
      have e6 : (Int32.ofNat L - 6 : Int32).toInt = (L : Int) - 6 := by
        have h := pk_sub_toInt (a := L) (b := 6) (by omega) (by omega)
        exact h
      rw [e6] at hle
      omega
    have hix : ∀ j : Nat, j < 6 → vp_in (i + nI j) L := fun j hj => by
      rw [ei, nI_add]
      exact vp_in_nI (by omega) (by omega)
    have h0 : vp_in i L := by
      rw [ei]
      exact vp_in_nI (by omega) (by omega)
    have h1 : vp_in (i + 1) L := hix 1 (by omega)
    have h2 : vp_in (i + 2) L := hix 2 (by omega)
    have h3 : vp_in (i + 3) L := hix 3 (by omega)
    have h4 : vp_in (i + 4) L := hix 4 (by omega)
    have h5 : vp_in (i + 5) L := hix 5 (by omega)
    have KN : ∀ (Ic : IS) (Jc : JS) (Im : IS) (Jm : JS), Inv Ic Jc Im Jm → GL z 1014 i [] Ic Jc Im Jm := fun Ic Jc Im Jm hI => l_next O (ih (k + 1) (i + 6) (by rw [ei, show (6 : Int32) = nI 6 from rfl, nI_add]; rfl) (by omega) (by omega) Ic Jc Im Jm hI)
    refine l_a0 O (pc := 27) dL_law_27 ?_
    refine l_i3 O (pc := 28) dL_law_28 ?_
    refine l_sld O (pc := 29) dL_law_29 h0 ?_
    refine l_bipush O (pc := 30) dL_law_30 bp_31 ?_
    refine l_iand O (pc := 32) dL_law_32 ?_
    generalize (xs i.toNatClampNeg &&& 31) = op
    obtain ⟨S0, S1, S2, S3, S4, S5, S6, S7, S8, S9, S10, S11, S12, S13, S14, S15, S16, S17, S18, S19, S20, S21, S22, S23, S24, S25, S26, S27, S28⟩ := HS
    by_cases c0 : op = 0
    · refine l_tabIn O (pc := 33) (131) 164 dL_law_33 c0 (by decide) (by decide) rfl (by decide) ?_
      exact case_arms S0 O h1 h2 h3 h4 h5 hI KN
    by_cases c1 : op = 1
    · refine l_tabIn O (pc := 33) (154) 187 dL_law_33 c1 (by decide) (by decide) rfl (by decide) ?_
      exact case_seed S1 O h1 h2 h3 h4 h5 hI KN
    by_cases c2 : op = 2
    · refine l_tabIn O (pc := 33) (177) 210 dL_law_33 c2 (by decide) (by decide) rfl (by decide) ?_
      exact case_feed S2 O h1 h2 h3 h4 h5 hI KN
    by_cases c3 : op = 3
    · refine l_tabIn O (pc := 33) (200) 233 dL_law_33 c3 (by decide) (by decide) rfl (by decide) ?_
      exact case_tree S3 O h1 h2 h3 h4 h5 hI KN
    by_cases c4 : op = 4
    · refine l_tabIn O (pc := 33) (223) 256 dL_law_33 c4 (by decide) (by decide) rfl (by decide) ?_
      exact case_of S4 O h1 h2 h3 h4 h5 hI KN
    by_cases c5 : op = 5
    · refine l_tabIn O (pc := 33) (256) 289 dL_law_33 c5 (by decide) (by decide) rfl (by decide) ?_
      exact case_cause S5 O h1 h2 h3 h4 h5 hI KN
    by_cases c6 : op = 6
    · refine l_tabIn O (pc := 33) (289) 322 dL_law_33 c6 (by decide) (by decide) rfl (by decide) ?_
      exact case_arm S6 O h1 h2 h3 h4 h5 hI KN
    by_cases c7 : op = 7
    · refine l_tabIn O (pc := 33) (322) 355 dL_law_33 c7 (by decide) (by decide) rfl (by decide) ?_
      exact case_pass S7 O h1 h2 h3 h4 h5 hI KN
    by_cases c8 : op = 8
    · refine l_tabIn O (pc := 33) (345) 378 dL_law_33 c8 (by decide) (by decide) rfl (by decide) ?_
      exact case_cancel S8 O h1 h2 h3 h4 h5 hI KN
    by_cases c9 : op = 9
    · refine l_tabIn O (pc := 33) (368) 401 dL_law_33 c9 (by decide) (by decide) rfl (by decide) ?_
      exact case_told S9 O h1 h2 h3 h4 h5 hI KN
    by_cases c10 : op = 10
    · refine l_tabIn O (pc := 33) (391) 424 dL_law_33 c10 (by decide) (by decide) rfl (by decide) ?_
      exact case_trace S10 O h1 h2 h3 h4 h5 hI KN
    by_cases c11 : op = 11
    · refine l_tabIn O (pc := 33) (424) 457 dL_law_33 c11 (by decide) (by decide) rfl (by decide) ?_
      exact case_on S11 O h1 h2 h3 h4 h5 hI KN
    by_cases c12 : op = 12
    · refine l_tabIn O (pc := 33) (457) 490 dL_law_33 c12 (by decide) (by decide) rfl (by decide) ?_
      exact case_till S12 O h1 h2 h3 h4 h5 hI KN
    by_cases c13 : op = 13
    · refine l_tabIn O (pc := 33) (480) 513 dL_law_33 c13 (by decide) (by decide) rfl (by decide) ?_
      exact case_see S13 O h1 h2 h3 h4 h5 hI KN
    by_cases c14 : op = 14
    · refine l_tabIn O (pc := 33) (513) 546 dL_law_33 c14 (by decide) (by decide) rfl (by decide) ?_
      exact case_seeds S14 O h1 h2 h3 h4 h5 hI KN
    by_cases c15 : op = 15
    · refine l_tabIn O (pc := 33) (526) 559 dL_law_33 c15 (by decide) (by decide) rfl (by decide) ?_
      exact case_odds S15 O h1 h2 h3 h4 h5 hI KN
    by_cases c16 : op = 16
    · refine l_tabIn O (pc := 33) (560) 593 dL_law_33 c16 (by decide) (by decide) rfl (by decide) ?_
      exact case_mean S16 O h1 h2 h3 h4 h5 hI KN
    by_cases c17 : op = 17
    · refine l_tabIn O (pc := 33) (584) 617 dL_law_33 c17 (by decide) (by decide) rfl (by decide) ?_
      exact case_plan S17 O h1 h2 h3 h4 h5 hI KN
    by_cases c18 : op = 18
    · refine l_tabIn O (pc := 33) (617) 650 dL_law_33 c18 (by decide) (by decide) rfl (by decide) ?_
      exact case_ends S18 O h1 h2 h3 h4 h5 hI KN
    by_cases c19 : op = 19
    · refine l_tabIn O (pc := 33) (640) 673 dL_law_33 c19 (by decide) (by decide) rfl (by decide) ?_
      exact case_book S19 O h1 h2 h3 h4 h5 hI KN
    by_cases c20 : op = 20
    · refine l_tabIn O (pc := 33) (673) 706 dL_law_33 c20 (by decide) (by decide) rfl (by decide) ?_
      exact case_looked S20 O h1 h2 h3 h4 h5 hI KN
    by_cases c21 : op = 21
    · refine l_tabIn O (pc := 33) (686) 719 dL_law_33 c21 (by decide) (by decide) rfl (by decide) ?_
      exact case_judge S21 O h1 h2 h3 h4 h5 hI KN
    by_cases c22 : op = 22
    · refine l_tabIn O (pc := 33) (719) 752 dL_law_33 c22 (by decide) (by decide) rfl (by decide) ?_
      exact case_image S22 O h1 h2 h3 h4 h5 hI KN
    by_cases c23 : op = 23
    · refine l_tabIn O (pc := 33) (732) 765 dL_law_33 c23 (by decide) (by decide) rfl (by decide) ?_
      exact case_undo S23 O h1 h2 h3 h4 h5 hI KN
    by_cases c24 : op = 24
    · refine l_tabIn O (pc := 33) (745) 778 dL_law_33 c24 (by decide) (by decide) rfl (by decide) ?_
      exact case_count S24 O h1 h2 h3 h4 h5 hI KN
    by_cases c25 : op = 25
    · refine l_tabIn O (pc := 33) (768) 801 dL_law_33 c25 (by decide) (by decide) rfl (by decide) ?_
      exact case_tape S25 O h1 h2 h3 h4 h5 hI KN
    by_cases c26 : op = 26
    · refine l_tabIn O (pc := 33) (811) 844 dL_law_33 c26 (by decide) (by decide) rfl (by decide) ?_
      exact case_item S26 O h1 h2 h3 h4 h5 hI KN
    by_cases c27 : op = 27
    · refine l_tabIn O (pc := 33) (884) 917 dL_law_33 c27 (by decide) (by decide) rfl (by decide) ?_
      exact case_read S27 O h1 h2 h3 h4 h5 hI KN
    by_cases c28 : op = 28
    · refine l_tabIn O (pc := 33) (918) 951 dL_law_33 c28 (by decide) (by decide) rfl (by decide) ?_
      exact case_shift S28 O h1 h2 h3 h4 h5 hI KN
    have t0 : ¬ op.toInt = 0 := fun q => c0 (Int32.toInt_inj.mp q)
    have t1 : ¬ op.toInt = 1 := fun q => c1 (Int32.toInt_inj.mp q)
    have t2 : ¬ op.toInt = 2 := fun q => c2 (Int32.toInt_inj.mp q)
    have t3 : ¬ op.toInt = 3 := fun q => c3 (Int32.toInt_inj.mp q)
    have t4 : ¬ op.toInt = 4 := fun q => c4 (Int32.toInt_inj.mp q)
    have t5 : ¬ op.toInt = 5 := fun q => c5 (Int32.toInt_inj.mp q)
    have t6 : ¬ op.toInt = 6 := fun q => c6 (Int32.toInt_inj.mp q)
    have t7 : ¬ op.toInt = 7 := fun q => c7 (Int32.toInt_inj.mp q)
    have t8 : ¬ op.toInt = 8 := fun q => c8 (Int32.toInt_inj.mp q)
    have t9 : ¬ op.toInt = 9 := fun q => c9 (Int32.toInt_inj.mp q)
    have t10 : ¬ op.toInt = 10 := fun q => c10 (Int32.toInt_inj.mp q)
    have t11 : ¬ op.toInt = 11 := fun q => c11 (Int32.toInt_inj.mp q)
    have t12 : ¬ op.toInt = 12 := fun q => c12 (Int32.toInt_inj.mp q)
    have t13 : ¬ op.toInt = 13 := fun q => c13 (Int32.toInt_inj.mp q)
    have t14 : ¬ op.toInt = 14 := fun q => c14 (Int32.toInt_inj.mp q)
    have t15 : ¬ op.toInt = 15 := fun q => c15 (Int32.toInt_inj.mp q)
    have t16 : ¬ op.toInt = 16 := fun q => c16 (Int32.toInt_inj.mp q)
    have t17 : ¬ op.toInt = 17 := fun q => c17 (Int32.toInt_inj.mp q)
    have t18 : ¬ op.toInt = 18 := fun q => c18 (Int32.toInt_inj.mp q)
    have t19 : ¬ op.toInt = 19 := fun q => c19 (Int32.toInt_inj.mp q)
    have t20 : ¬ op.toInt = 20 := fun q => c20 (Int32.toInt_inj.mp q)
    have t21 : ¬ op.toInt = 21 := fun q => c21 (Int32.toInt_inj.mp q)
    have t22 : ¬ op.toInt = 22 := fun q => c22 (Int32.toInt_inj.mp q)
    have t23 : ¬ op.toInt = 23 := fun q => c23 (Int32.toInt_inj.mp q)
    have t24 : ¬ op.toInt = 24 := fun q => c24 (Int32.toInt_inj.mp q)
    have t25 : ¬ op.toInt = 25 := fun q => c25 (Int32.toInt_inj.mp q)
    have t26 : ¬ op.toInt = 26 := fun q => c26 (Int32.toInt_inj.mp q)
    have t27 : ¬ op.toInt = 27 := fun q => c27 (Int32.toInt_inj.mp q)
    have t28 : ¬ op.toInt = 28 := fun q => c28 (Int32.toInt_inj.mp q)
    refine l_tabOut O (pc := 33) 1014 dL_law_33 (by omega) (by decide) ?_
    exact KN _ _ _ _ hI
