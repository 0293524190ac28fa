theorem mw_X10_feed : Mw yX10_feed RX10 cX10_feed 7 (some .int) 6 := ⟨(wa 421 (by decide +kernel) (by decide +kernel)), (wa 422 (by decide +kernel) (by decide +kernel)), (wa 61 (by decide +kernel) (by decide +kernel)), (wa 423 (by decide +kernel) (by decide +kernel)), rfl, by decide +kernel, by decide +kernel, by decide +kernel⟩
theorem ml_L_13 : Cond.methodLink RL 13 yX10_feed ∈ wAll := (wa 420 (by decide +kernel) (by decide +kernel))
theorem mw_X11_feed : Mw yX11_feed RX11 cX11_feed 8 (some .int) 6 := ⟨(wa 1228 (by decide +kernel) (by decide +kernel)), (wa 1229 (by decide +kernel) (by decide +kernel)), (wa 72 (by decide +kernel) (by decide +kernel)), (wa 1230 (by decide +kernel) (by decide +kernel)), rfl, by decide +kernel, by decide +kernel, by decide +kernel⟩
theorem ml_L_17 : Cond.methodLink RL 17 yX11_feed ∈ wAll := (wa 1227 (by decide +kernel) (by decide +kernel))
theorem mw_X10_text : Mw yX10_text RX10 cX10_text 2 (some .int) 0 := ⟨(wa 436 (by decide +kernel) (by decide +kernel)), (wa 437 (by decide +kernel) (by decide +kernel)), (wa 61 (by decide +kernel) (by decide +kernel)), (wa 438 (by decide +kernel) (by decide +kernel)), rfl, by decide +kernel, by decide +kernel, by decide +kernel⟩
theorem ml_L_18 : Cond.methodLink RL 18 yX10_text ∈ wAll := (wa 435 (by decide +kernel) (by decide +kernel))
theorem mw_X11_text : Mw yX11_text RX11 cX11_text 2 (some .int) 0 := ⟨(wa 1232 (by decide +kernel) (by decide +kernel)), (wa 1233 (by decide +kernel) (by decide +kernel)), (wa 72 (by decide +kernel) (by decide +kernel)), (wa 1234 (by decide +kernel) (by decide +kernel)), rfl, by decide +kernel, by decide +kernel, by decide +kernel⟩
theorem ml_L_22 : Cond.methodLink RL 22 yX11_text ∈ wAll := (wa 1231 (by decide +kernel) (by decide +kernel))
theorem mw_X10_job : Mw yX10_job RX10 cX10_job 5 (some .int) 4 := ⟨(wa 541 (by decide +kernel) (by decide +kernel)), (wa 542 (by decide +kernel) (by decide +kernel)), (wa 61 (by decide +kernel) (by decide +kernel)), (wa 543 (by decide +kernel) (by decide +kernel)), rfl, by decide +kernel, by decide +kernel, by decide +kernel⟩
theorem ml_L_23 : Cond.methodLink RL 23 yX10_job ∈ wAll := (wa 540 (by decide +kernel) (by decide +kernel))
theorem mw_X11_job : Mw yX11_job RX11 cX11_job 5 (some .int) 4 := ⟨(wa 1171 (by decide +kernel) (by decide +kernel)), (wa 1172 (by decide +kernel) (by decide +kernel)), (wa 72 (by decide +kernel) (by decide +kernel)), (wa 1173 (by decide +kernel) (by decide +kernel)), rfl, by decide +kernel, by decide +kernel, by decide +kernel⟩
theorem ml_L_27 : Cond.methodLink RL 27 yX11_job ∈ wAll := (wa 1170 (by decide +kernel) (by decide +kernel))
theorem mw_X10_set : Mw yX10_set RX10 cX10_set 5 (some .int) 3 := ⟨(wa 547 (by decide +kernel) (by decide +kernel)), (wa 548 (by decide +kernel) (by decide +kernel)), (wa 61 (by decide +kernel) (by decide +kernel)), (wa 549 (by decide +kernel) (by decide +kernel)), rfl, by decide +kernel, by decide +kernel, by decide +kernel⟩
theorem ml_L_28 : Cond.methodLink RL 28 yX10_set ∈ wAll := (wa 546 (by decide +kernel) (by decide +kernel))
theorem mw_X11_set : Mw yX11_set RX11 cX11_set 5 (some .int) 3 := ⟨(wa 1185 (by decide +kernel) (by decide +kernel)), (wa 1186 (by decide +kernel) (by decide +kernel)), (wa 72 (by decide +kernel) (by decide +kernel)), (wa 1187 (by decide +kernel) (by decide +kernel)), rfl, by decide +kernel, by decide +kernel, by decide +kernel⟩
theorem ml_L_32 : Cond.methodLink RL 32 yX11_set ∈ wAll := (wa 1184 (by decide +kernel) (by decide +kernel))
theorem mw_X10_told : Mw yX10_told RX10 cX10_told 3 (some .int) 2 := ⟨(wa 554 (by decide +kernel) (by decide +kernel)), (wa 555 (by decide +kernel) (by decide +kernel)), (wa 61 (by decide +kernel) (by decide +kernel)), (wa 556 (by decide +kernel) (by decide +kernel)), rfl, by decide +kernel, by decide +kernel, by decide +kernel⟩
theorem ml_L_33 : Cond.methodLink RL 33 yX10_told ∈ wAll := (wa 553 (by decide +kernel) (by decide +kernel))
theorem mw_X11_told : Mw yX11_told RX11 cX11_told 3 (some .int) 2 := ⟨(wa 1216 (by decide +kernel) (by decide +kernel)), (wa 1217 (by decide +kernel) (by decide +kernel)), (wa 72 (by decide +kernel) (by decide +kernel)), (wa 1218 (by decide +kernel) (by decide +kernel)), rfl, by decide +kernel, by decide +kernel, by decide +kernel⟩
theorem ml_L_37 : Cond.methodLink RL 37 yX11_told ∈ wAll := (wa 1215 (by decide +kernel) (by decide +kernel))
theorem mw_X10_drop : Mw yX10_drop RX10 cX10_drop 2 (some .int) 1 := ⟨(wa 561 (by decide +kernel) (by decide +kernel)), (wa 562 (by decide +kernel) (by decide +kernel)), (wa 61 (by decide +kernel) (by decide +kernel)), (wa 563 (by decide +kernel) (by decide +kernel)), rfl, by decide +kernel, by decide +kernel, by decide +kernel⟩
theorem ml_L_38 : Cond.methodLink RL 38 yX10_drop ∈ wAll := (wa 560 (by decide +kernel) (by decide +kernel))
theorem mw_X11_drop : Mw yX11_drop RX11 cX11_drop 3 (some .int) 1 := ⟨(wa 1220 (by decide +kernel) (by decide +kernel)), (wa 1221 (by decide +kernel) (by decide +kernel)), (wa 72 (by decide +kernel) (by decide +kernel)), (wa 1222 (by decide +kernel) (by decide +kernel)), rfl, by decide +kernel, by decide +kernel, by decide +kernel⟩
theorem ml_L_42 : Cond.methodLink RL 42 yX11_drop ∈ wAll := (wa 1219 (by decide +kernel) (by decide +kernel))
theorem mw_X10_taken : Mw yX10_taken RX10 cX10_taken 3 (some .int) 2 := ⟨(wa 569 (by decide +kernel) (by decide +kernel)), (wa 570 (by decide +kernel) (by decide +kernel)), (wa 61 (by decide +kernel) (by decide +kernel)), (wa 571 (by decide +kernel) (by decide +kernel)), rfl, by decide +kernel, by decide +kernel, by decide +kernel⟩
theorem ml_L_43 : Cond.methodLink RL 43 yX10_taken ∈ wAll := (wa 568 (by decide +kernel) (by decide +kernel))
theorem mw_X11_taken : Mw yX11_taken RX11 cX11_taken 3 (some .int) 2 := ⟨(wa 1224 (by decide +kernel) (by decide +kernel)), (wa 1225 (by decide +kernel) (by decide +kernel)), (wa 72 (by decide +kernel) (by decide +kernel)), (wa 1226 (by decide +kernel) (by decide +kernel)), rfl, by decide +kernel, by decide +kernel, by decide +kernel⟩
theorem ml_L_46 : Cond.methodLink RL 46 yX11_taken ∈ wAll := (wa 1223 (by decide +kernel) (by decide +kernel))
theorem mw_X10_greedy : Mw yX10_greedy RX10 cX10_greedy 4 (some .int) 2 := ⟨(wa 574 (by decide +kernel) (by decide +kernel)), (wa 575 (by decide +kernel) (by decide +kernel)), (wa 61 (by decide +kernel) (by decide +kernel)), (wa 576 (by decide +kernel) (by decide +kernel)), rfl, by decide +kernel, by decide +kernel, by decide +kernel⟩
theorem ml_L_47 : Cond.methodLink RL 47 yX10_greedy ∈ wAll := (wa 573 (by decide +kernel) (by decide +kernel))
theorem mw_X11_greedy : Mw yX11_greedy RX11 cX11_greedy 4 (some .int) 2 := ⟨(wa 1259 (by decide +kernel) (by decide +kernel)), (wa 1260 (by decide +kernel) (by decide +kernel)), (wa 72 (by decide +kernel) (by decide +kernel)), (wa 1261 (by decide +kernel) (by decide +kernel)), rfl, by decide +kernel, by decide +kernel, by decide +kernel⟩
theorem ml_L_50 : Cond.methodLink RL 50 yX11_greedy ∈ wAll := (wa 1258 (by decide +kernel) (by decide +kernel))
theorem mw_X10_breaking : Mw yX10_breaking RX10 cX10_breaking 2 (some .int) 1 := ⟨(wa 627 (by decide +kernel) (by decide +kernel)), (wa 628 (by decide +kernel) (by decide +kernel)), (wa 61 (by decide +kernel) (by decide +kernel)), (wa 629 (by decide +kernel) (by decide +kernel)), rfl, by decide +kernel, by decide +kernel, by decide +kernel⟩
theorem ml_L_51 : Cond.methodLink RL 51 yX10_breaking ∈ wAll := (wa 626 (by decide +kernel) (by decide +kernel))
theorem mw_X11_breaking : Mw yX11_breaking RX11 cX11_breaking 3 (some .int) 1 := ⟨(wa 1288 (by decide +kernel) (by decide +kernel)), (wa 1289 (by decide +kernel) (by decide +kernel)), (wa 72 (by decide +kernel) (by decide +kernel)), (wa 1290 (by decide +kernel) (by decide +kernel)), rfl, by decide +kernel, by decide +kernel, by decide +kernel⟩
theorem ml_L_54 : Cond.methodLink RL 54 yX11_breaking ∈ wAll := (wa 1287 (by decide +kernel) (by decide +kernel))
theorem mw_X10_critical : Mw yX10_critical RX10 cX10_critical 2 (some .int) 1 := ⟨(wa 648 (by decide +kernel) (by decide +kernel)), (wa 649 (by decide +kernel) (by decide +kernel)), (wa 61 (by decide +kernel) (by decide +kernel)), (wa 650 (by decide +kernel) (by decide +kernel)), rfl, by decide +kernel, by decide +kernel, by decide +kernel⟩
theorem ml_L_55 : Cond.methodLink RL 55 yX10_critical ∈ wAll := (wa 647 (by decide +kernel) (by decide +kernel))
theorem mw_X11_critical : Mw yX11_critical RX11 cX11_critical 2 (some .int) 1 := ⟨(wa 1300 (by decide +kernel) (by decide +kernel)), (wa 1301 (by decide +kernel) (by decide +kernel)), (wa 72 (by decide +kernel) (by decide +kernel)), (wa 1302 (by decide +kernel) (by decide +kernel)), rfl, by decide +kernel, by decide +kernel, by decide +kernel⟩
theorem ml_L_58 : Cond.methodLink RL 58 yX11_critical ∈ wAll := (wa 1299 (by decide +kernel) (by decide +kernel))
theorem mw_X10_branch : Mw yX10_branch RX10 cX10_branch 3 (some .int) 2 := ⟨(wa 680 (by decide +kernel) (by decide +kernel)), (wa 681 (by decide +kernel) (by decide +kernel)), (wa 61 (by decide +kernel) (by decide +kernel)), (wa 682 (by decide +kernel) (by decide +kernel)), rfl, by decide +kernel, by decide +kernel, by decide +kernel⟩
theorem ml_L_59 : Cond.methodLink RL 59 yX10_branch ∈ wAll := (wa 679 (by decide +kernel) (by decide +kernel))
theorem mw_X11_branch : Mw yX11_branch RX11 cX11_branch 4 (some .int) 2 := ⟨(wa 1308 (by decide +kernel) (by decide +kernel)), (wa 1309 (by decide +kernel) (by decide +kernel)), (wa 72 (by decide +kernel) (by decide +kernel)), (wa 1310 (by decide +kernel) (by decide +kernel)), rfl, by decide +kernel, by decide +kernel, by decide +kernel⟩
theorem ml_L_62 : Cond.methodLink RL 62 yX11_branch ∈ wAll := (wa 1307 (by decide +kernel) (by decide +kernel))
theorem mw_X10_bound : Mw yX10_bound RX10 cX10_bound 2 (some .int) 1 := ⟨(wa 697 (by decide +kernel) (by decide +kernel)), (wa 698 (by decide +kernel) (by decide +kernel)), (wa 61 (by decide +kernel) (by decide +kernel)), (wa 699 (by decide +kernel) (by decide +kernel)), rfl, by decide +kernel, by decide +kernel, by decide +kernel⟩
theorem ml_L_63 : Cond.methodLink RL 63 yX10_bound ∈ wAll := (wa 696 (by decide +kernel) (by decide +kernel))
theorem mw_X11_bound : Mw yX11_bound RX11 cX11_bound 2 (some .int) 1 := ⟨(wa 1324 (by decide +kernel) (by decide +kernel)), (wa 1325 (by decide +kernel) (by decide +kernel)), (wa 72 (by decide +kernel) (by decide +kernel)), (wa 1326 (by decide +kernel) (by decide +kernel)), rfl, by decide +kernel, by decide +kernel, by decide +kernel⟩
theorem ml_L_66 : Cond.methodLink RL 66 yX11_bound ∈ wAll := (wa 1323 (by decide +kernel) (by decide +kernel))
theorem mw_X10_strongest : Mw yX10_strongest RX10 cX10_strongest 3 (some .int) 1 := ⟨(wa 707 (by decide +kernel) (by decide +kernel)), (wa 708 (by decide +kernel) (by decide +kernel)), (wa 61 (by decide +kernel) (by decide +kernel)), (wa 709 (by decide +kernel) (by decide +kernel)), rfl, by decide +kernel, by decide +kernel, by decide +kernel⟩
theorem ml_L_67 : Cond.methodLink RL 67 yX10_strongest ∈ wAll := (wa 706 (by decide +kernel) (by decide +kernel))
theorem mw_X11_strongest : Mw yX11_strongest RX11 cX11_strongest 6 (some .int) 1 := ⟨(wa 1332 (by decide +kernel) (by decide +kernel)), (wa 1333 (by decide +kernel) (by decide +kernel)), (wa 72 (by decide +kernel) (by decide +kernel)), (wa 1334 (by decide +kernel) (by decide +kernel)), rfl, by decide +kernel, by decide +kernel, by decide +kernel⟩
theorem ml_L_70 : Cond.methodLink RL 70 yX11_strongest ∈ wAll := (wa 1331 (by decide +kernel) (by decide +kernel))
theorem mw_X10_least : Mw yX10_least RX10 cX10_least 2 (some .int) 1 := ⟨(wa 723 (by decide +kernel) (by decide +kernel)), (wa 724 (by decide +kernel) (by decide +kernel)), (wa 61 (by decide +kernel) (by decide +kernel)), (wa 725 (by decide +kernel) (by decide +kernel)), rfl, by decide +kernel, by decide +kernel, by decide +kernel⟩
theorem ml_L_71 : Cond.methodLink RL 71 yX10_least ∈ wAll := (wa 722 (by decide +kernel) (by decide +kernel))
theorem mw_X11_least : Mw yX11_least RX11 cX11_least 2 (some .int) 1 := ⟨(wa 1339 (by decide +kernel) (by decide +kernel)), (wa 1340 (by decide +kernel) (by decide +kernel)), (wa 72 (by decide +kernel) (by decide +kernel)), (wa 1341 (by decide +kernel) (by decide +kernel)), rfl, by decide +kernel, by decide +kernel, by decide +kernel⟩
theorem ml_L_74 : Cond.methodLink RL 74 yX11_least ∈ wAll := (wa 1338 (by decide +kernel) (by decide +kernel))
theorem mw_X10_many : Mw yX10_many RX10 cX10_many 1 (some .int) 0 := ⟨(wa 781 (by decide +kernel) (by decide +kernel)), (wa 782 (by decide +kernel) (by decide +kernel)), (wa 61 (by decide +kernel) (by decide +kernel)), (wa 783 (by decide +kernel) (by decide +kernel)), rfl, by decide +kernel, by decide +kernel, by decide +kernel⟩
theorem ml_L_75 : Cond.methodLink RL 75 yX10_many ∈ wAll := (wa 780 (by decide +kernel) (by decide +kernel))
theorem mw_X11_many_ : Mw yX11_many_ RX11 cX11_many_ 4 (some .int) 0 := ⟨(wa 1355 (by decide +kernel) (by decide +kernel)), (wa 1356 (by decide +kernel) (by decide +kernel)), (wa 72 (by decide +kernel) (by decide +kernel)), (wa 1357 (by decide +kernel) (by decide +kernel)), rfl, by decide +kernel, by decide +kernel, by decide +kernel⟩
theorem ml_L_78 : Cond.methodLink RL 78 yX11_many_ ∈ wAll := (wa 1354 (by decide +kernel) (by decide +kernel))
theorem mw_X10_order : Mw yX10_order RX10 cX10_order 2 (some .int) 1 := ⟨(wa 795 (by decide +kernel) (by decide +kernel)), (wa 796 (by decide +kernel) (by decide +kernel)), (wa 61 (by decide +kernel) (by decide +kernel)), (wa 797 (by decide +kernel) (by decide +kernel)), rfl, by decide +kernel, by decide +kernel, by decide +kernel⟩
theorem ml_L_79 : Cond.methodLink RL 79 yX10_order ∈ wAll := (wa 794 (by decide +kernel) (by decide +kernel))
theorem mw_X11_order : Mw yX11_order RX11 cX11_order 2 (some .int) 1 := ⟨(wa 1383 (by decide +kernel) (by decide +kernel)), (wa 1384 (by decide +kernel) (by decide +kernel)), (wa 72 (by decide +kernel) (by decide +kernel)), (wa 1385 (by decide +kernel) (by decide +kernel)), rfl, by decide +kernel, by decide +kernel, by decide +kernel⟩
theorem ml_L_82 : Cond.methodLink RL 82 yX11_order ∈ wAll := (wa 1382 (by decide +kernel) (by decide +kernel))
theorem mw_X10_must : Mw yX10_must RX10 cX10_must 2 (some .int) 1 := ⟨(wa 809 (by decide +kernel) (by decide +kernel)), (wa 810 (by decide +kernel) (by decide +kernel)), (wa 61 (by decide +kernel) (by decide +kernel)), (wa 811 (by decide +kernel) (by decide +kernel)), rfl, by decide +kernel, by decide +kernel, by decide +kernel⟩
theorem ml_L_83 : Cond.methodLink RL 83 yX10_must ∈ wAll := (wa 808 (by decide +kernel) (by decide +kernel))
theorem mw_X11_must : Mw yX11_must RX11 cX11_must 5 (some .int) 1 := ⟨(wa 1391 (by decide +kernel) (by decide +kernel)), (wa 1392 (by decide +kernel) (by decide +kernel)), (wa 72 (by decide +kernel) (by decide +kernel)), (wa 1393 (by decide +kernel) (by decide +kernel)), rfl, by decide +kernel, by decide +kernel, by decide +kernel⟩
theorem ml_L_86 : Cond.methodLink RL 86 yX11_must ∈ wAll := (wa 1390 (by decide +kernel) (by decide +kernel))
theorem mw_X10_room : Mw yX10_room RX10 cX10_room 2 (some .int) 1 := ⟨(wa 821 (by decide +kernel) (by decide +kernel)), (wa 822 (by decide +kernel) (by decide +kernel)), (wa 61 (by decide +kernel) (by decide +kernel)), (wa 823 (by decide +kernel) (by decide +kernel)), rfl, by decide +kernel, by decide +kernel, by decide +kernel⟩
theorem ml_L_87 : Cond.methodLink RL 87 yX10_room ∈ wAll := (wa 820 (by decide +kernel) (by decide +kernel))
theorem mw_X11_room : Mw yX11_room RX11 cX11_room 7 (some .int) 1 := ⟨(wa 1399 (by decide +kernel) (by decide +kernel)), (wa 1400 (by decide +kernel) (by decide +kernel)), (wa 72 (by decide +kernel) (by decide +kernel)), (wa 1401 (by decide +kernel) (by decide +kernel)), rfl, by decide +kernel, by decide +kernel, by decide +kernel⟩
theorem ml_L_90 : Cond.methodLink RL 90 yX11_room ∈ wAll := (wa 1398 (by decide +kernel) (by decide +kernel))
theorem mw_X10_gain : Mw yX10_gain RX10 cX10_gain 2 (some .int) 1 := ⟨(wa 829 (by decide +kernel) (by decide +kernel)), (wa 830 (by decide +kernel) (by decide +kernel)), (wa 61 (by decide +kernel) (by decide +kernel)), (wa 831 (by decide +kernel) (by decide +kernel)), rfl, by decide +kernel, by decide +kernel, by decide +kernel⟩
theorem ml_L_91 : Cond.methodLink RL 91 yX10_gain ∈ wAll := (wa 828 (by decide +kernel) (by decide +kernel))
theorem mw_X11_gain : Mw yX11_gain RX11 cX11_gain 3 (some .int) 1 := ⟨(wa 1403 (by decide +kernel) (by decide +kernel)), (wa 1404 (by decide +kernel) (by decide +kernel)), (wa 72 (by decide +kernel) (by decide +kernel)), (wa 1405 (by decide +kernel) (by decide +kernel)), rfl, by decide +kernel, by decide +kernel, by decide +kernel⟩
theorem ml_L_94 : Cond.methodLink RL 94 yX11_gain ∈ wAll := (wa 1402 (by decide +kernel) (by decide +kernel))
theorem mw_X10_judge : Mw yX10_judge RX10 cX10_judge 3 (some .long) 2 := ⟨(wa 837 (by decide +kernel) (by decide +kernel)), (wa 838 (by decide +kernel) (by decide +kernel)), (wa 61 (by decide +kernel) (by decide +kernel)), (wa 839 (by decide +kernel) (by decide +kernel)), rfl, by decide +kernel, by decide +kernel, by decide +kernel⟩
theorem ml_L_95 : Cond.methodLink RL 95 yX10_judge ∈ wAll := (wa 836 (by decide +kernel) (by decide +kernel))
theorem mw_X11_judge : Mw yX11_judge RX11 cX11_judge 9 (some .long) 2 := ⟨(wa 1407 (by decide +kernel) (by decide +kernel)), (wa 1408 (by decide +kernel) (by decide +kernel)), (wa 72 (by decide +kernel) (by decide +kernel)), (wa 1409 (by decide +kernel) (by decide +kernel)), rfl, by decide +kernel, by decide +kernel, by decide +kernel⟩
theorem ml_L_99 : Cond.methodLink RL 99 yX11_judge ∈ wAll := (wa 1406 (by decide +kernel) (by decide +kernel))
theorem mw_X10_film : Mw yX10_film RX10 cX10_film 4 (some .int) 1 := ⟨(wa 881 (by decide +kernel) (by decide +kernel)), (wa 882 (by decide +kernel) (by decide +kernel)), (wa 61 (by decide +kernel) (by decide +kernel)), (wa 883 (by decide +kernel) (by decide +kernel)), rfl, by decide +kernel, by decide +kernel, by decide +kernel⟩
theorem ml_L_100 : Cond.methodLink RL 100 yX10_film ∈ wAll := (wa 880 (by decide +kernel) (by decide +kernel))
theorem mw_X11_film : Mw yX11_film RX11 cX11_film 3 (some .int) 1 := ⟨(wa 1421 (by decide +kernel) (by decide +kernel)), (wa 1422 (by decide +kernel) (by decide +kernel)), (wa 72 (by decide +kernel) (by decide +kernel)), (wa 1423 (by decide +kernel) (by decide +kernel)), rfl, by decide +kernel, by decide +kernel, by decide +kernel⟩
theorem ml_L_103 : Cond.methodLink RL 103 yX11_film ∈ wAll := (wa 1420 (by decide +kernel) (by decide +kernel))
theorem mw_X10_drawn : Mw yX10_drawn RX10 cX10_drawn 3 (some .int) 2 := ⟨(wa 898 (by decide +kernel) (by decide +kernel)), (wa 899 (by decide +kernel) (by decide +kernel)), (wa 61 (by decide +kernel) (by decide +kernel)), (wa 900 (by decide +kernel) (by decide +kernel)), rfl, by decide +kernel, by decide +kernel, by decide +kernel⟩
theorem ml_L_104 : Cond.methodLink RL 104 yX10_drawn ∈ wAll := (wa 897 (by decide +kernel) (by decide +kernel))
theorem mw_X11_drawn : Mw yX11_drawn RX11 cX11_drawn 3 (some .int) 2 := ⟨(wa 1429 (by decide +kernel) (by decide +kernel)), (wa 1430 (by decide +kernel) (by decide +kernel)), (wa 72 (by decide +kernel) (by decide +kernel)), (wa 1431 (by decide +kernel) (by decide +kernel)), rfl, by decide +kernel, by decide +kernel, by decide +kernel⟩
theorem ml_L_107 : Cond.methodLink RL 107 yX11_drawn ∈ wAll := (wa 1428 (by decide +kernel) (by decide +kernel))
theorem mw_X10_chance : Mw yX10_chance RX10 cX10_chance 9 (some .int) 5 := ⟨(wa 908 (by decide +kernel) (by decide +kernel)), (wa 909 (by decide +kernel) (by decide +kernel)), (wa 61 (by decide +kernel) (by decide +kernel)), (wa 910 (by decide +kernel) (by decide +kernel)), rfl, by decide +kernel, by decide +kernel, by decide +kernel⟩
theorem ml_L_108 : Cond.methodLink RL 108 yX10_chance ∈ wAll := (wa 907 (by decide +kernel) (by decide +kernel))
theorem mw_X11_chance : Mw yX11_chance RX11 cX11_chance 8 (some .int) 5 := ⟨(wa 1438 (by decide +kernel) (by decide +kernel)), (wa 1439 (by decide +kernel) (by decide +kernel)), (wa 72 (by decide +kernel) (by decide +kernel)), (wa 1440 (by decide +kernel) (by decide +kernel)), rfl, by decide +kernel, by decide +kernel, by decide +kernel⟩
theorem ml_L_112 : Cond.methodLink RL 112 yX11_chance ∈ wAll := (wa 1437 (by decide +kernel) (by decide +kernel))
theorem mw_X10_go : Mw yX10_go RX10 cX10_go 3 (some .int) 1 := ⟨(wa 912 (by decide +kernel) (by decide +kernel)), (wa 913 (by decide +kernel) (by decide +kernel)), (wa 61 (by decide +kernel) (by decide +kernel)), (wa 914 (by decide +kernel) (by decide +kernel)), rfl, by decide +kernel, by decide +kernel, by decide +kernel⟩
theorem ml_L_113 : Cond.methodLink RL 113 yX10_go ∈ wAll := (wa 911 (by decide +kernel) (by decide +kernel))
theorem mw_X11_go : Mw yX11_go RX11 cX11_go 3 (some .int) 1 := ⟨(wa 1445 (by decide +kernel) (by decide +kernel)), (wa 1446 (by decide +kernel) (by decide +kernel)), (wa 72 (by decide +kernel) (by decide +kernel)), (wa 1447 (by decide +kernel) (by decide +kernel)), rfl, by decide +kernel, by decide +kernel, by decide +kernel⟩
theorem ml_L_116 : Cond.methodLink RL 116 yX11_go ∈ wAll := (wa 1444 (by decide +kernel) (by decide +kernel))
theorem mw_X10_bench : Mw yX10_bench RX10 cX10_bench 2 (some .int) 1 := ⟨(wa 926 (by decide +kernel) (by decide +kernel)), (wa 927 (by decide +kernel) (by decide +kernel)), (wa 61 (by decide +kernel) (by decide +kernel)), (wa 928 (by decide +kernel) (by decide +kernel)), rfl, by decide +kernel, by decide +kernel, by decide +kernel⟩
theorem ml_L_117 : Cond.methodLink RL 117 yX10_bench ∈ wAll := (wa 925 (by decide +kernel) (by decide +kernel))
theorem mw_X11_bench : Mw yX11_bench RX11 cX11_bench 2 (some .int) 1 := ⟨(wa 1453 (by decide +kernel) (by decide +kernel)), (wa 1454 (by decide +kernel) (by decide +kernel)), (wa 72 (by decide +kernel) (by decide +kernel)), (wa 1455 (by decide +kernel) (by decide +kernel)), rfl, by decide +kernel, by decide +kernel, by decide +kernel⟩
theorem ml_L_120 : Cond.methodLink RL 120 yX11_bench ∈ wAll := (wa 1452 (by decide +kernel) (by decide +kernel))
theorem mw_X10_began : Mw yX10_began RX10 cX10_began 2 (some .int) 1 := ⟨(wa 930 (by decide +kernel) (by decide +kernel)), (wa 931 (by decide +kernel) (by decide +kernel)), (wa 61 (by decide +kernel) (by decide +kernel)), (wa 932 (by decide +kernel) (by decide +kernel)), rfl, by decide +kernel, by decide +kernel, by decide +kernel⟩
theorem ml_L_121 : Cond.methodLink RL 121 yX10_began ∈ wAll := (wa 929 (by decide +kernel) (by decide +kernel))
theorem mw_X11_began : Mw yX11_began RX11 cX11_began 2 (some .int) 1 := ⟨(wa 1457 (by decide +kernel) (by decide +kernel)), (wa 1458 (by decide +kernel) (by decide +kernel)), (wa 72 (by decide +kernel) (by decide +kernel)), (wa 1459 (by decide +kernel) (by decide +kernel)), rfl, by decide +kernel, by decide +kernel, by decide +kernel⟩
theorem ml_L_124 : Cond.methodLink RL 124 yX11_began ∈ wAll := (wa 1456 (by decide +kernel) (by decide +kernel))
theorem mw_X10_image : Mw yX10_image RX10 cX10_image 1 (some .int) 0 := ⟨(wa 938 (by decide +kernel) (by decide +kernel)), (wa 939 (by decide +kernel) (by decide +kernel)), (wa 61 (by decide +kernel) (by decide +kernel)), (wa 940 (by decide +kernel) (by decide +kernel)), rfl, by decide +kernel, by decide +kernel, by decide +kernel⟩
theorem ml_L_125 : Cond.methodLink RL 125 yX10_image ∈ wAll := (wa 937 (by decide +kernel) (by decide +kernel))
theorem mw_X11_image : Mw yX11_image RX11 cX11_image 3 (some .int) 0 := ⟨(wa 1461 (by decide +kernel) (by decide +kernel)), (wa 1462 (by decide +kernel) (by decide +kernel)), (wa 72 (by decide +kernel) (by decide +kernel)), (wa 1463 (by decide +kernel) (by decide +kernel)), rfl, by decide +kernel, by decide +kernel, by decide +kernel⟩
theorem ml_L_128 : Cond.methodLink RL 128 yX11_image ∈ wAll := (wa 1460 (by decide +kernel) (by decide +kernel))
theorem mw_X10_back : Mw yX10_back RX10 cX10_back 1 (some .int) 0 := ⟨(wa 948 (by decide +kernel) (by decide +kernel)), (wa 949 (by decide +kernel) (by decide +kernel)), (wa 61 (by decide +kernel) (by decide +kernel)), (wa 950 (by decide +kernel) (by decide +kernel)), rfl, by decide +kernel, by decide +kernel, by decide +kernel⟩
theorem ml_L_129 : Cond.methodLink RL 129 yX10_back ∈ wAll := (wa 947 (by decide +kernel) (by decide +kernel))
theorem mw_X11_back : Mw yX11_back RX11 cX11_back 2 (some .int) 0 := ⟨(wa 1465 (by decide +kernel) (by decide +kernel)), (wa 1466 (by decide +kernel) (by decide +kernel)), (wa 72 (by decide +kernel) (by decide +kernel)), (wa 1467 (by decide +kernel) (by decide +kernel)), rfl, by decide +kernel, by decide +kernel, by decide +kernel⟩
theorem ml_L_132 : Cond.methodLink RL 132 yX11_back ∈ wAll := (wa 1464 (by decide +kernel) (by decide +kernel))
theorem mw_X10_count : Mw yX10_count RX10 cX10_count 2 (some .int) 1 := ⟨(wa 952 (by decide +kernel) (by decide +kernel)), (wa 953 (by decide +kernel) (by decide +kernel)), (wa 61 (by decide +kernel) (by decide +kernel)), (wa 954 (by decide +kernel) (by decide +kernel)), rfl, by decide +kernel, by decide +kernel, by decide +kernel⟩
theorem ml_L_133 : Cond.methodLink RL 133 yX10_count ∈ wAll := (wa 951 (by decide +kernel) (by decide +kernel))
theorem mw_X11_count : Mw yX11_count RX11 cX11_count 2 (some .int) 1 := ⟨(wa 1469 (by decide +kernel) (by decide +kernel)), (wa 1470 (by decide +kernel) (by decide +kernel)), (wa 72 (by decide +kernel) (by decide +kernel)), (wa 1471 (by decide +kernel) (by decide +kernel)), rfl, by decide +kernel, by decide +kernel, by decide +kernel⟩
theorem ml_L_136 : Cond.methodLink RL 136 yX11_count ∈ wAll := (wa 1468 (by decide +kernel) (by decide +kernel))
theorem mw_X10_sheet : Mw yX10_sheet RX10 cX10_sheet 4 (some .int) 3 := ⟨(wa 960 (by decide +kernel) (by decide +kernel)), (wa 961 (by decide +kernel) (by decide +kernel)), (wa 61 (by decide +kernel) (by decide +kernel)), (wa 962 (by decide +kernel) (by decide +kernel)), rfl, by decide +kernel, by decide +kernel, by decide +kernel⟩
theorem ml_L_137 : Cond.methodLink RL 137 yX10_sheet ∈ wAll := (wa 959 (by decide +kernel) (by decide +kernel))
theorem ml_L_140 : Cond.methodLink RL 140 yX11_sheet ∈ wAll := (wa 1472 (by decide +kernel) (by decide +kernel))
theorem kc_L_141 : Cond.constantLong RL 141 4294967295 ∈ wAll := (wa 1486 (by decide +kernel) (by decide +kernel))
theorem mw_X10_put : Mw yX10_put RX10 cX10_put 5 (some .int) 3 := ⟨(wa 964 (by decide +kernel) (by decide +kernel)), (wa 965 (by decide +kernel) (by decide +kernel)), (wa 61 (by decide +kernel) (by decide +kernel)), (wa 966 (by decide +kernel) (by decide +kernel)), rfl, by decide +kernel, by decide +kernel, by decide +kernel⟩
theorem ml_L_143 : Cond.methodLink RL 143 yX10_put ∈ wAll := (wa 963 (by decide +kernel) (by decide +kernel))
theorem mw_X11_put : Mw yX11_put RX11 cX11_put 5 (some .int) 3 := ⟨(wa 1474 (by decide +kernel) (by decide +kernel)), (wa 1475 (by decide +kernel) (by decide +kernel)), (wa 72 (by decide +kernel) (by decide +kernel)), (wa 1476 (by decide +kernel) (by decide +kernel)), rfl, by decide +kernel, by decide +kernel, by decide +kernel⟩
theorem ml_L_147 : Cond.methodLink RL 147 yX11_put ∈ wAll := (wa 1473 (by decide +kernel) (by decide +kernel))
theorem mw_X10_item : Mw yX10_item RX10 cX10_item 3 (some .long) 2 := ⟨(wa 969 (by decide +kernel) (by decide +kernel)), (wa 970 (by decide +kernel) (by decide +kernel)), (wa 61 (by decide +kernel) (by decide +kernel)), (wa 971 (by decide +kernel) (by decide +kernel)), rfl, by decide +kernel, by decide +kernel, by decide +kernel⟩
theorem ml_L_148 : Cond.methodLink RL 148 yX10_item ∈ wAll := (wa 968 (by decide +kernel) (by decide +kernel))
theorem mw_X11_item_ : Mw yX11_item_ RX11 cX11_item_ 3 (some .long) 2 := ⟨(wa 1478 (by decide +kernel) (by decide +kernel)), (wa 1479 (by decide +kernel) (by decide +kernel)), (wa 72 (by decide +kernel) (by decide +kernel)), (wa 1480 (by decide +kernel) (by decide +kernel)), rfl, by decide +kernel, by decide +kernel, by decide +kernel⟩
theorem ml_L_151 : Cond.methodLink RL 151 yX11_item_ ∈ wAll := (wa 1477 (by decide +kernel) (by decide +kernel))
theorem mw_X10_copy : Mw yX10_copy RX10 cX10_copy 8 (some .int) 5 := ⟨(wa 974 (by decide +kernel) (by decide +kernel)), (wa 975 (by decide +kernel) (by decide +kernel)), (wa 61 (by decide +kernel) (by decide +kernel)), (wa 976 (by decide +kernel) (by decide +kernel)), rfl, by decide +kernel, by decide +kernel, by decide +kernel⟩
theorem ml_L_152 : Cond.methodLink RL 152 yX10_copy ∈ wAll := (wa 973 (by decide +kernel) (by decide +kernel))
theorem mw_X11_copy : Mw yX11_copy RX11 cX11_copy 9 (some .int) 5 := ⟨(wa 1483 (by decide +kernel) (by decide +kernel)), (wa 1484 (by decide +kernel) (by decide +kernel)), (wa 72 (by decide +kernel) (by decide +kernel)), (wa 1485 (by decide +kernel) (by decide +kernel)), rfl, by decide +kernel, by decide +kernel, by decide +kernel⟩
theorem ml_L_155 : Cond.methodLink RL 155 yX11_copy ∈ wAll := (wa 1482 (by decide +kernel) (by decide +kernel))
theorem cn_L_7 : Cond.classLink RL 7 RX10 ∈ wAll ∧ Cond.instantiable RX10 19 ∈ wAll ∧ Cond.initialized RX10 ∈ wAll := ⟨(wa 77 (by decide +kernel) (by decide +kernel)), (wa 78 (by decide +kernel) (by decide +kernel)), (wa 61 (by decide +kernel) (by decide +kernel))⟩
theorem cn_L_10 : Cond.classLink RL 10 RX11 ∈ wAll ∧ Cond.instantiable RX11 57 ∈ wAll ∧ Cond.initialized RX11 ∈ wAll := ⟨(wa 989 (by decide +kernel) (by decide +kernel)), (wa 990 (by decide +kernel) (by decide +kernel)), (wa 72 (by decide +kernel) (by decide +kernel))⟩
theorem mi_X10_init : Cond.instanceMethod yX10_init ∈ wAll ∧ Cond.initialized (yX10_init).cls ∈ wAll ∧ Cond.code yX10_init cX10_init 2 none ∈ wAll ∧ (yX10_init).name = "<init>" ∧ ((yX10_init).cls ≠ "java/lang/invoke/MethodHandle" ∧ (yX10_init).cls ≠ "java/lang/invoke/VarHandle" ∧ (parseMethodDescriptor (yX10_init).desc).map (fun d => d.parameters.length) = some 0) := ⟨(wa 80 (by decide +kernel) (by decide +kernel)), (wa 61 (by decide +kernel) (by decide +kernel)), (wa 81 (by decide +kernel) (by decide +kernel)), rfl, by decide +kernel, by decide +kernel, by decide +kernel⟩
theorem mi_X11_init : Cond.instanceMethod yX11_init ∈ wAll ∧ Cond.initialized (yX11_init).cls ∈ wAll ∧ Cond.code yX11_init cX11_init 2 none ∈ wAll ∧ (yX11_init).name = "<init>" ∧ ((yX11_init).cls ≠ "java/lang/invoke/MethodHandle" ∧ (yX11_init).cls ≠ "java/lang/invoke/VarHandle" ∧ (parseMethodDescriptor (yX11_init).desc).map (fun d => d.parameters.length) = some 0) := ⟨(wa 992 (by decide +kernel) (by decide +kernel)), (wa 72 (by decide +kernel) (by decide +kernel)), (wa 993 (by decide +kernel) (by decide +kernel)), rfl, by decide +kernel, by decide +kernel, by decide +kernel⟩
theorem ml_Li_9 : Cond.methodLink RL 9 yX10_init ∈ wAll := (wa 79 (by decide +kernel) (by decide +kernel))
theorem ml_Li_12 : Cond.methodLink RL 12 yX11_init ∈ wAll := (wa 991 (by decide +kernel) (by decide +kernel))
def f_L_law_253 (xs : Nat → Int32) (L : Nat)  (z : St)  : Option (St × Int32) :=
  some (z, 0)
theorem b_L_law_253 {p : Program} {l : Launch} {e : Env} {s : State} {m : MethodId} {below : List Frame} {meth : Method} {c : Code} {b L : Nat} {xs : Nat → Int32} {kc : Nat × Nat} {g : Ga} {A : Nat → Prop} (C : Cx l g A p s m #[Value.ref b] c cL_law 4 RL room_1 kc) (hr : meth.sig.returnType = ret) (hk : meth.locks = false) (hX : va_X b L xs s s.heap) (hbl : b < s.heap.size) (hA : ∀ q, A q → s.heap.size ≤ q) (hkc : kc.1 ≤ 600000 ∧ kc.2 ≤ 7302250)   (z : St)   {res : St × Int32} (hres : res.2 = 1) (hf : f_L_law_253 xs L  z  = some res) : Zj p l e room_1 s m #[Value.ref b] below meth c g A 4 kc (lw_Z below #[Value.ref b] s) z 253 [] [] := by
  unfold f_L_law_253 at hf
  refine z_iconst C dL_law_253 (v := 0) (by decide) ?_
  cases hf
  exact z_lawret C hr hk hA hkc hres dL_law_254
def f_L_law_1223 (xs : Nat → Int32) (L : Nat) (K18 : St → Nat → Nat → Int32 → Option (St × Int32)) (z : St) (o1 : Nat) (o2 : Nat) (x3 : Int32) : Option (St × Int32) :=
  K18 z o1 o2 (x3 + 7)
theorem b_L_law_1223 {p : Program} {l : Launch} {e : Env} {s : State} {m : MethodId} {below : List Frame} {meth : Method} {c : Code} {b L : Nat} {xs : Nat → Int32} {kc : Nat × Nat} {g : Ga} {A : Nat → Prop} (C : Cx l g A p s m #[Value.ref b] c cL_law 4 RL room_1 kc) (hr : meth.sig.returnType = ret) (hk : meth.locks = false) (hX : va_X b L xs s s.heap) (hbl : b < s.heap.size) (hA : ∀ q, A q → s.heap.size ≤ q) (hkc : kc.1 ≤ 600000 ∧ kc.2 ≤ 7302250) {K18 : St → Nat → Nat → Int32 → Option (St × Int32)} (hK18 : ∀ (z : St) (o1 : Nat) (o2 : Nat) (x3 : Int32) (_ : kd o1 = 10) (_ : kd o2 = 11) {res : St × Int32} (_ : res.2 = 1), K18 z o1 o2 x3 = some res → Zj p l e room_1 s m #[Value.ref b] below meth c g A 4 kc (lw_Z below #[Value.ref b] s) z 18 [(0, .ref b), (1, .ref (g.1 o1)), (2, .ref (g.1 o2)), (3, .int x3)] []) (z : St) (o1 : Nat) (o2 : Nat) (x3 : Int32) (ho1 : kd o1 = 10) (ho2 : kd o2 = 11) {res : St × Int32} (hres : res.2 = 1) (hf : f_L_law_1223 xs L K18 z o1 o2 x3 = some res) : Zj p l e room_1 s m #[Value.ref b] below meth c g A 4 kc (lw_Z below #[Value.ref b] s) z 1223 [(0, .ref b), (1, .ref (g.1 o1)), (2, .ref (g.1 o2)), (3, .int x3)] [] := by
  unfold f_L_law_1223 at hf
  refine z_iinc C (k := 3) (v := x3 + 7) (lv2 := [(3, .int (x3 + 7)), (0, .ref b), (1, .ref (g.1 o1)), (2, .ref (g.1 o2))]) dL_law_1223 rfl rfl (by decide) rfl ?_
  exact z_goto C dL_law_1226 (by decide) (z_sub [1, 2, 3, 0] rfl (hK18 z o1 o2 (x3 + 7) ho1 ho2 hres hf))
def f_L_law_180 (xs : Nat → Int32) (L : Nat) (K18 : St → Nat → Nat → Int32 → Option (St × Int32)) (z : St) (o1 : Nat) (o2 : Nat) (x3 : Int32) : Option (St × Int32) :=
  if inb (x3 + 1) L = true then (if inb (x3 + 2) L = true then (if inb (x3 + 3) L = true then (if inb (x3 + 4) L = true then (if inb (x3 + 5) L = true then (if inb (x3 + 6) L = true then (((f_X10_feed z o1 (xs (Int32.toNatClampNeg (x3 + 1))) (xs (Int32.toNatClampNeg (x3 + 2))) (xs (Int32.toNatClampNeg (x3 + 3))) (xs (Int32.toNatClampNeg (x3 + 4))) (xs (Int32.toNatClampNeg (x3 + 5))) (xs (Int32.toNatClampNeg (x3 + 6)))).bind fun r7 => if inb (x3 + 1) L = true then (if inb (x3 + 2) L = true then (if inb (x3 + 3) L = true then (if inb (x3 + 4) L = true then (if inb (x3 + 5) L = true then (if inb (x3 + 6) L = true then (((f_X11_feed r7.1 o2 (xs (Int32.toNatClampNeg (x3 + 1))) (xs (Int32.toNatClampNeg (x3 + 2))) (xs (Int32.toNatClampNeg (x3 + 3))) (xs (Int32.toNatClampNeg (x3 + 4))) (xs (Int32.toNatClampNeg (x3 + 5))) (xs (Int32.toNatClampNeg (x3 + 6)))).bind fun r15 => if r7.2 = r15.2 then f_L_law_1223 xs L K18 r15.1 o1 o2 x3 else f_L_law_253 xs L r15.1)) else none) else none) else none) else none) else none) else none)) else none) else none) else none) else none) else none) else none
theorem b_L_law_180 {p : Program} {l : Launch} {e : Env} {s : State} {m : MethodId} {below : List Frame} {meth : Method} {c : Code} {b L : Nat} {xs : Nat → Int32} {kc : Nat × Nat} {g : Ga} {A : Nat → Prop} (C : Cx l g A p s m #[Value.ref b] c cL_law 4 RL room_1 kc) (hr : meth.sig.returnType = ret) (hk : meth.locks = false) (hX : va_X b L xs s s.heap) (hbl : b < s.heap.size) (hA : ∀ q, A q → s.heap.size ≤ q) (hkc : kc.1 ≤ 600000 ∧ kc.2 ≤ 7302250) {K18 : St → Nat → Nat → Int32 → Option (St × Int32)} (hK18 : ∀ (z : St) (o1 : Nat) (o2 : Nat) (x3 : Int32) (_ : kd o1 = 10) (_ : kd o2 = 11) {res : St × Int32} (_ : res.2 = 1), K18 z o1 o2 x3 = some res → Zj p l e room_1 s m #[Value.ref b] below meth c g A 4 kc (lw_Z below #[Value.ref b] s) z 18 [(0, .ref b), (1, .ref (g.1 o1)), (2, .ref (g.1 o2)), (3, .int x3)] []) (z : St) (o1 : Nat) (o2 : Nat) (x3 : Int32) (ho1 : kd o1 = 10) (ho2 : kd o2 = 11) {res : St × Int32} (hres : res.2 = 1) (hf : f_L_law_180 xs L K18 z o1 o2 x3 = some res) : Zj p l e room_1 s m #[Value.ref b] below meth c g A 4 kc (lw_Z below #[Value.ref b] s) z 180 [(0, .ref b), (1, .ref (g.1 o1)), (2, .ref (g.1 o2)), (3, .int x3)] [] := by
  unfold f_L_law_180 at hf
  refine z_aload_n C dL_law_180 rfl 1 rfl ?_
  refine z_aload_n C dL_law_181 rfl 0 rfl ?_
  refine z_iload_n C dL_law_182 rfl 3 rfl ?_
  refine z_iconst C dL_law_183 (v := 1) (by decide) ?_
  refine z_iadd C dL_law_184 ?_
  obtain ⟨h1, hf⟩ := q_ck hf
  refine z_sld C hX hbl hA dL_law_185 h1 ?_
  refine z_aload_n C dL_law_186 rfl 0 rfl ?_
  refine z_iload_n C dL_law_187 rfl 3 rfl ?_
  refine z_iconst C dL_law_188 (v := 2) (by decide) ?_
  refine z_iadd C dL_law_189 ?_
  obtain ⟨h2, hf⟩ := q_ck hf
  refine z_sld C hX hbl hA dL_law_190 h2 ?_
  refine z_aload_n C dL_law_191 rfl 0 rfl ?_
  refine z_iload_n C dL_law_192 rfl 3 rfl ?_
  refine z_iconst C dL_law_193 (v := 3) (by decide) ?_
  refine z_iadd C dL_law_194 ?_
  obtain ⟨h3, hf⟩ := q_ck hf
  refine z_sld C hX hbl hA dL_law_195 h3 ?_
  refine z_aload_n C dL_law_196 rfl 0 rfl ?_
  refine z_iload_n C dL_law_197 rfl 3 rfl ?_
  refine z_iconst C dL_law_198 (v := 4) (by decide) ?_
  refine z_iadd C dL_law_199 ?_
  obtain ⟨h4, hf⟩ := q_ck hf
  refine z_sld C hX hbl hA dL_law_200 h4 ?_
  refine z_aload_n C dL_law_201 rfl 0 rfl ?_
  refine z_iload_n C dL_law_202 rfl 3 rfl ?_
  refine z_iconst C dL_law_203 (v := 5) (by decide) ?_
  refine z_iadd C dL_law_204 ?_
  obtain ⟨h5, hf⟩ := q_ck hf
  refine z_sld C hX hbl hA dL_law_205 h5 ?_
  refine z_aload_n C dL_law_206 rfl 0 rfl ?_
  refine z_iload_n C dL_law_207 rfl 3 rfl ?_
  refine z_bipush C dL_law_208 (v := 6) (by decide) ?_
  refine z_iadd C dL_law_210 ?_
  obtain ⟨h6, hf⟩ := q_ck hf
  refine z_sld C hX hbl hA dL_law_211 h6 ?_
  obtain ⟨r7, hc8, hf⟩ := q_bd hf
  refine z_cVi C (st := []) (c_X10_feed ho1 hc8) mw_X10_feed ml_L_13 ho1 (by decide) rfl dL_law_212 rfl rfl rfl ⟨Nat.le_of_ble_eq_true rfl, Nat.le_of_ble_eq_true rfl⟩ rfl (Nat.le_of_ble_eq_true rfl) ?_
  refine z_aload_n C dL_law_215 rfl 2 rfl ?_
  refine z_aload_n C dL_law_216 rfl 0 rfl ?_
  refine z_iload_n C dL_law_217 rfl 3 rfl ?_
  refine z_iconst C dL_law_218 (v := 1) (by decide) ?_
  refine z_iadd C dL_law_219 ?_
  obtain ⟨h9, hf⟩ := q_ck hf
  refine z_sld C hX hbl hA dL_law_220 h9 ?_
  refine z_aload_n C dL_law_221 rfl 0 rfl ?_
  refine z_iload_n C dL_law_222 rfl 3 rfl ?_
  refine z_iconst C dL_law_223 (v := 2) (by decide) ?_
  refine z_iadd C dL_law_224 ?_
  obtain ⟨h10, hf⟩ := q_ck hf
  refine z_sld C hX hbl hA dL_law_225 h10 ?_
  refine z_aload_n C dL_law_226 rfl 0 rfl ?_
  refine z_iload_n C dL_law_227 rfl 3 rfl ?_
  refine z_iconst C dL_law_228 (v := 3) (by decide) ?_
  refine z_iadd C dL_law_229 ?_
  obtain ⟨h11, hf⟩ := q_ck hf
  refine z_sld C hX hbl hA dL_law_230 h11 ?_
  refine z_aload_n C dL_law_231 rfl 0 rfl ?_
  refine z_iload_n C dL_law_232 rfl 3 rfl ?_
  refine z_iconst C dL_law_233 (v := 4) (by decide) ?_
  refine z_iadd C dL_law_234 ?_
  obtain ⟨h12, hf⟩ := q_ck hf
  refine z_sld C hX hbl hA dL_law_235 h12 ?_
  refine z_aload_n C dL_law_236 rfl 0 rfl ?_
  refine z_iload_n C dL_law_237 rfl 3 rfl ?_
  refine z_iconst C dL_law_238 (v := 5) (by decide) ?_
  refine z_iadd C dL_law_239 ?_
  obtain ⟨h13, hf⟩ := q_ck hf
  refine z_sld C hX hbl hA dL_law_240 h13 ?_
  refine z_aload_n C dL_law_241 rfl 0 rfl ?_
  refine z_iload_n C dL_law_242 rfl 3 rfl ?_
  refine z_bipush C dL_law_243 (v := 6) (by decide) ?_
  refine z_iadd C dL_law_245 ?_
  obtain ⟨h14, hf⟩ := q_ck hf
  refine z_sld C hX hbl hA dL_law_246 h14 ?_
  obtain ⟨r15, hc16, hf⟩ := q_bd hf
  refine z_cVi C (st := [.int r7.2]) (c_X11_feed ho2 hc16) mw_X11_feed ml_L_17 ho2 (by decide) rfl dL_law_247 rfl rfl rfl ⟨Nat.le_of_ble_eq_true rfl, Nat.le_of_ble_eq_true rfl⟩ rfl (Nat.le_of_ble_eq_true rfl) ?_
  exact z_icmp_eq C dL_law_250 (by decide) (fun h => z_sub [0, 1, 2, 3] rfl (b_L_law_1223 C hr hk hX hbl hA hkc hK18 r15.1 o1 o2 x3 ho1 ho2 hres (q_t hf h))) (fun h => z_sub [] rfl (b_L_law_253 C hr hk hX hbl hA hkc r15.1 hres (q_f hf h)))
def f_L_law_266 (xs : Nat → Int32) (L : Nat)  (z : St)  : Option (St × Int32) :=
  some (z, 0)
theorem b_L_law_266 {p : Program} {l : Launch} {e : Env} {s : State} {m : MethodId} {below : List Frame} {meth : Method} {c : Code} {b L : Nat} {xs : Nat → Int32} {kc : Nat × Nat} {g : Ga} {A : Nat → Prop} (C : Cx l g A p s m #[Value.ref b] c cL_law 4 RL room_1 kc) (hr : meth.sig.returnType = ret) (hk : meth.locks = false) (hX : va_X b L xs s s.heap) (hbl : b < s.heap.size) (hA : ∀ q, A q → s.heap.size ≤ q) (hkc : kc.1 ≤ 600000 ∧ kc.2 ≤ 7302250)   (z : St)   {res : St × Int32} (hres : res.2 = 1) (hf : f_L_law_266 xs L  z  = some res) : Zj p l e room_1 s m #[Value.ref b] below meth c g A 4 kc (lw_Z below #[Value.ref b] s) z 266 [] [] := by
  unfold f_L_law_266 at hf
  refine z_iconst C dL_law_266 (v := 0) (by decide) ?_
  cases hf
  exact z_lawret C hr hk hA hkc hres dL_law_267
def f_L_law_255 (xs : Nat → Int32) (L : Nat) (K18 : St → Nat → Nat → Int32 → Option (St × Int32)) (z : St) (o1 : Nat) (o2 : Nat) (x3 : Int32) : Option (St × Int32) :=
  ((f_X10_text z o1).bind fun r1 => ((f_X11_text r1.1 o2).bind fun r3 => if r1.2 = r3.2 then f_L_law_1223 xs L K18 r3.1 o1 o2 x3 else f_L_law_266 xs L r3.1))
theorem b_L_law_255 {p : Program} {l : Launch} {e : Env} {s : State} {m : MethodId} {below : List Frame} {meth : Method} {c : Code} {b L : Nat} {xs : Nat → Int32} {kc : Nat × Nat} {g : Ga} {A : Nat → Prop} (C : Cx l g A p s m #[Value.ref b] c cL_law 4 RL room_1 kc) (hr : meth.sig.returnType = ret) (hk : meth.locks = false) (hX : va_X b L xs s s.heap) (hbl : b < s.heap.size) (hA : ∀ q, A q → s.heap.size ≤ q) (hkc : kc.1 ≤ 600000 ∧ kc.2 ≤ 7302250) {K18 : St → Nat → Nat → Int32 → Option (St × Int32)} (hK18 : ∀ (z : St) (o1 : Nat) (o2 : Nat) (x3 : Int32) (_ : kd o1 = 10) (_ : kd o2 = 11) {res : St × Int32} (_ : res.2 = 1), K18 z o1 o2 x3 = some res → Zj p l e room_1 s m #[Value.ref b] below meth c g A 4 kc (lw_Z below #[Value.ref b] s) z 18 [(0, .ref b), (1, .ref (g.1 o1)), (2, .ref (g.1 o2)), (3, .int x3)] []) (z : St) (o1 : Nat) (o2 : Nat) (x3 : Int32) (ho1 : kd o1 = 10) (ho2 : kd o2 = 11) {res : St × Int32} (hres : res.2 = 1) (hf : f_L_law_255 xs L K18 z o1 o2 x3 = some res) : Zj p l e room_1 s m #[Value.ref b] below meth c g A 4 kc (lw_Z below #[Value.ref b] s) z 255 [(0, .ref b), (1, .ref (g.1 o1)), (2, .ref (g.1 o2)), (3, .int x3)] [] := by
  unfold f_L_law_255 at hf
  refine z_aload_n C dL_law_255 rfl 1 rfl ?_
  obtain ⟨r1, hc2, hf⟩ := q_bd hf
  refine z_cVi C (st := []) (c_X10_text ho1 hc2) mw_X10_text ml_L_18 ho1 (by decide) rfl dL_law_256 rfl rfl rfl ⟨Nat.le_of_ble_eq_true rfl, Nat.le_of_ble_eq_true rfl⟩ rfl (Nat.le_of_ble_eq_true rfl) ?_
  refine z_aload_n C dL_law_259 rfl 2 rfl ?_
  obtain ⟨r3, hc4, hf⟩ := q_bd hf
  refine z_cVi C (st := [.int r1.2]) (c_X11_text ho2 hc4) mw_X11_text ml_L_22 ho2 (by decide) rfl dL_law_260 rfl rfl rfl ⟨Nat.le_of_ble_eq_true rfl, Nat.le_of_ble_eq_true rfl⟩ rfl (Nat.le_of_ble_eq_true rfl) ?_
  exact z_icmp_eq C dL_law_263 (by decide) (fun h => z_sub [0, 1, 2, 3] rfl (b_L_law_1223 C hr hk hX hbl hA hkc hK18 r3.1 o1 o2 x3 ho1 ho2 hres (q_t hf h))) (fun h => z_sub [] rfl (b_L_law_266 C hr hk hX hbl hA hkc r3.1 hres (q_f hf h)))
def f_L_law_319 (xs : Nat → Int32) (L : Nat)  (z : St)  : Option (St × Int32) :=
  some (z, 0)
theorem b_L_law_319 {p : Program} {l : Launch} {e : Env} {s : State} {m : MethodId} {below : List Frame} {meth : Method} {c : Code} {b L : Nat} {xs : Nat → Int32} {kc : Nat × Nat} {g : Ga} {A : Nat → Prop} (C : Cx l g A p s m #[Value.ref b] c cL_law 4 RL room_1 kc) (hr : meth.sig.returnType = ret) (hk : meth.locks = false) (hX : va_X b L xs s s.heap) (hbl : b < s.heap.size) (hA : ∀ q, A q → s.heap.size ≤ q) (hkc : kc.1 ≤ 600000 ∧ kc.2 ≤ 7302250)   (z : St)   {res : St × Int32} (hres : res.2 = 1) (hf : f_L_law_319 xs L  z  = some res) : Zj p l e room_1 s m #[Value.ref b] below meth c g A 4 kc (lw_Z below #[Value.ref b] s) z 319 [] [] := by
  unfold f_L_law_319 at hf
  refine z_iconst C dL_law_319 (v := 0) (by decide) ?_
  cases hf
  exact z_lawret C hr hk hA hkc hres dL_law_320
def f_L_law_268 (xs : Nat → Int32) (L : Nat) (K18 : St → Nat → Nat → Int32 → Option (St × Int32)) (z : St) (o1 : Nat) (o2 : Nat) (x3 : Int32) : Option (St × Int32) :=
  if inb (x3 + 1) L = true then (if inb (x3 + 2) L = true then (if inb (x3 + 3) L = true then (if inb (x3 + 4) L = true then (((f_X10_job z o1 (xs (Int32.toNatClampNeg (x3 + 1))) (xs (Int32.toNatClampNeg (x3 + 2))) (xs (Int32.toNatClampNeg (x3 + 3))) (xs (Int32.toNatClampNeg (x3 + 4)))).bind fun r5 => if inb (x3 + 1) L = true then (if inb (x3 + 2) L = true then (if inb (x3 + 3) L = true then (if inb (x3 + 4) L = true then (((f_X11_job r5.1 o2 (xs (Int32.toNatClampNeg (x3 + 1))) (xs (Int32.toNatClampNeg (x3 + 2))) (xs (Int32.toNatClampNeg (x3 + 3))) (xs (Int32.toNatClampNeg (x3 + 4)))).bind fun r11 => if r5.2 = r11.2 then f_L_law_1223 xs L K18 r11.1 o1 o2 x3 else f_L_law_319 xs L r11.1)) else none) else none) else none) else none)) else none) else none) else none) else none
theorem b_L_law_268 {p : Program} {l : Launch} {e : Env} {s : State} {m : MethodId} {below : List Frame} {meth : Method} {c : Code} {b L : Nat} {xs : Nat → Int32} {kc : Nat × Nat} {g : Ga} {A : Nat → Prop} (C : Cx l g A p s m #[Value.ref b] c cL_law 4 RL room_1 kc) (hr : meth.sig.returnType = ret) (hk : meth.locks = false) (hX : va_X b L xs s s.heap) (hbl : b < s.heap.size) (hA : ∀ q, A q → s.heap.size ≤ q) (hkc : kc.1 ≤ 600000 ∧ kc.2 ≤ 7302250) {K18 : St → Nat → Nat → Int32 → Option (St × Int32)} (hK18 : ∀ (z : St) (o1 : Nat) (o2 : Nat) (x3 : Int32) (_ : kd o1 = 10) (_ : kd o2 = 11) {res : St × Int32} (_ : res.2 = 1), K18 z o1 o2 x3 = some res → Zj p l e room_1 s m #[Value.ref b] below meth c g A 4 kc (lw_Z below #[Value.ref b] s) z 18 [(0, .ref b), (1, .ref (g.1 o1)), (2, .ref (g.1 o2)), (3, .int x3)] []) (z : St) (o1 : Nat) (o2 : Nat) (x3 : Int32) (ho1 : kd o1 = 10) (ho2 : kd o2 = 11) {res : St × Int32} (hres : res.2 = 1) (hf : f_L_law_268 xs L K18 z o1 o2 x3 = some res) : Zj p l e room_1 s m #[Value.ref b] below meth c g A 4 kc (lw_Z below #[Value.ref b] s) z 268 [(0, .ref b), (1, .ref (g.1 o1)), (2, .ref (g.1 o2)), (3, .int x3)] [] := by
  unfold f_L_law_268 at hf
  refine z_aload_n C dL_law_268 rfl 1 rfl ?_
  refine z_aload_n C dL_law_269 rfl 0 rfl ?_
  refine z_iload_n C dL_law_270 rfl 3 rfl ?_
  refine z_iconst C dL_law_271 (v := 1) (by decide) ?_
  refine z_iadd C dL_law_272 ?_
  obtain ⟨h1, hf⟩ := q_ck hf
  refine z_sld C hX hbl hA dL_law_273 h1 ?_
  refine z_aload_n C dL_law_274 rfl 0 rfl ?_
  refine z_iload_n C dL_law_275 rfl 3 rfl ?_
  refine z_iconst C dL_law_276 (v := 2) (by decide) ?_
  refine z_iadd C dL_law_277 ?_
  obtain ⟨h2, hf⟩ := q_ck hf
  refine z_sld C hX hbl hA dL_law_278 h2 ?_
  refine z_aload_n C dL_law_279 rfl 0 rfl ?_
  refine z_iload_n C dL_law_280 rfl 3 rfl ?_
  refine z_iconst C dL_law_281 (v := 3) (by decide) ?_
  refine z_iadd C dL_law_282 ?_
  obtain ⟨h3, hf⟩ := q_ck hf
  refine z_sld C hX hbl hA dL_law_283 h3 ?_
  refine z_aload_n C dL_law_284 rfl 0 rfl ?_
  refine z_iload_n C dL_law_285 rfl 3 rfl ?_
  refine z_iconst C dL_law_286 (v := 4) (by decide) ?_
  refine z_iadd C dL_law_287 ?_
  obtain ⟨h4, hf⟩ := q_ck hf
  refine z_sld C hX hbl hA dL_law_288 h4 ?_
  obtain ⟨r5, hc6, hf⟩ := q_bd hf
  refine z_cVi C (st := []) (c_X10_job ho1 hc6) mw_X10_job ml_L_23 ho1 (by decide) rfl dL_law_289 rfl rfl rfl ⟨Nat.le_of_ble_eq_true rfl, Nat.le_of_ble_eq_true rfl⟩ rfl (Nat.le_of_ble_eq_true rfl) ?_
  refine z_aload_n C dL_law_292 rfl 2 rfl ?_
  refine z_aload_n C dL_law_293 rfl 0 rfl ?_
  refine z_iload_n C dL_law_294 rfl 3 rfl ?_
  refine z_iconst C dL_law_295 (v := 1) (by decide) ?_
  refine z_iadd C dL_law_296 ?_
  obtain ⟨h7, hf⟩ := q_ck hf
  refine z_sld C hX hbl hA dL_law_297 h7 ?_
  refine z_aload_n C dL_law_298 rfl 0 rfl ?_
  refine z_iload_n C dL_law_299 rfl 3 rfl ?_
  refine z_iconst C dL_law_300 (v := 2) (by decide) ?_
  refine z_iadd C dL_law_301 ?_
  obtain ⟨h8, hf⟩ := q_ck hf
  refine z_sld C hX hbl hA dL_law_302 h8 ?_
  refine z_aload_n C dL_law_303 rfl 0 rfl ?_
  refine z_iload_n C dL_law_304 rfl 3 rfl ?_
  refine z_iconst C dL_law_305 (v := 3) (by decide) ?_
  refine z_iadd C dL_law_306 ?_
  obtain ⟨h9, hf⟩ := q_ck hf
  refine z_sld C hX hbl hA dL_law_307 h9 ?_
  refine z_aload_n C dL_law_308 rfl 0 rfl ?_
  refine z_iload_n C dL_law_309 rfl 3 rfl ?_
  refine z_iconst C dL_law_310 (v := 4) (by decide) ?_
  refine z_iadd C dL_law_311 ?_
  obtain ⟨h10, hf⟩ := q_ck hf
  refine z_sld C hX hbl hA dL_law_312 h10 ?_
  obtain ⟨r11, hc12, hf⟩ := q_bd hf
  refine z_cVi C (st := [.int r5.2]) (c_X11_job ho2 hc12) mw_X11_job ml_L_27 ho2 (by decide) rfl dL_law_313 rfl rfl rfl ⟨Nat.le_of_ble_eq_true rfl, Nat.le_of_ble_eq_true rfl⟩ rfl (Nat.le_of_ble_eq_true rfl) ?_
  exact z_icmp_eq C dL_law_316 (by decide) (fun h => z_sub [0, 1, 2, 3] rfl (b_L_law_1223 C hr hk hX hbl hA hkc hK18 r11.1 o1 o2 x3 ho1 ho2 hres (q_t hf h))) (fun h => z_sub [] rfl (b_L_law_319 C hr hk hX hbl hA hkc r11.1 hres (q_f hf h)))
def f_L_law_362 (xs : Nat → Int32) (L : Nat)  (z : St)  : Option (St × Int32) :=
  some (z, 0)
theorem b_L_law_362 {p : Program} {l : Launch} {e : Env} {s : State} {m : MethodId} {below : List Frame} {meth : Method} {c : Code} {b L : Nat} {xs : Nat → Int32} {kc : Nat × Nat} {g : Ga} {A : Nat → Prop} (C : Cx l g A p s m #[Value.ref b] c cL_law 4 RL room_1 kc) (hr : meth.sig.returnType = ret) (hk : meth.locks = false) (hX : va_X b L xs s s.heap) (hbl : b < s.heap.size) (hA : ∀ q, A q → s.heap.size ≤ q) (hkc : kc.1 ≤ 600000 ∧ kc.2 ≤ 7302250)   (z : St)   {res : St × Int32} (hres : res.2 = 1) (hf : f_L_law_362 xs L  z  = some res) : Zj p l e room_1 s m #[Value.ref b] below meth c g A 4 kc (lw_Z below #[Value.ref b] s) z 362 [] [] := by
  unfold f_L_law_362 at hf
  refine z_iconst C dL_law_362 (v := 0) (by decide) ?_
  cases hf
  exact z_lawret C hr hk hA hkc hres dL_law_363
def f_L_law_321 (xs : Nat → Int32) (L : Nat) (K18 : St → Nat → Nat → Int32 → Option (St × Int32)) (z : St) (o1 : Nat) (o2 : Nat) (x3 : Int32) : Option (St × Int32) :=
  if inb (x3 + 1) L = true then (if inb (x3 + 2) L = true then (if inb (x3 + 3) L = true then (((f_X10_set z o1 (xs (Int32.toNatClampNeg (x3 + 1))) (xs (Int32.toNatClampNeg (x3 + 2))) (xs (Int32.toNatClampNeg (x3 + 3)))).bind fun r4 => if inb (x3 + 1) L = true then (if inb (x3 + 2) L = true then (if inb (x3 + 3) L = true then (((f_X11_set r4.1 o2 (xs (Int32.toNatClampNeg (x3 + 1))) (xs (Int32.toNatClampNeg (x3 + 2))) (xs (Int32.toNatClampNeg (x3 + 3)))).bind fun r9 => if r4.2 = r9.2 then f_L_law_1223 xs L K18 r9.1 o1 o2 x3 else f_L_law_362 xs L r9.1)) else none) else none) else none)) else none) else none) else none
theorem b_L_law_321 {p : Program} {l : Launch} {e : Env} {s : State} {m : MethodId} {below : List Frame} {meth : Method} {c : Code} {b L : Nat} {xs : Nat → Int32} {kc : Nat × Nat} {g : Ga} {A : Nat → Prop} (C : Cx l g A p s m #[Value.ref b] c cL_law 4 RL room_1 kc) (hr : meth.sig.returnType = ret) (hk : meth.locks = false) (hX : va_X b L xs s s.heap) (hbl : b < s.heap.size) (hA : ∀ q, A q → s.heap.size ≤ q) (hkc : kc.1 ≤ 600000 ∧ kc.2 ≤ 7302250) {K18 : St → Nat → Nat → Int32 → Option (St × Int32)} (hK18 : ∀ (z : St) (o1 : Nat) (o2 : Nat) (x3 : Int32) (_ : kd o1 = 10) (_ : kd o2 = 11) {res : St × Int32} (_ : res.2 = 1), K18 z o1 o2 x3 = some res → Zj p l e room_1 s m #[Value.ref b] below meth c g A 4 kc (lw_Z below #[Value.ref b] s) z 18 [(0, .ref b), (1, .ref (g.1 o1)), (2, .ref (g.1 o2)), (3, .int x3)] []) (z : St) (o1 : Nat) (o2 : Nat) (x3 : Int32) (ho1 : kd o1 = 10) (ho2 : kd o2 = 11) {res : St × Int32} (hres : res.2 = 1) (hf : f_L_law_321 xs L K18 z o1 o2 x3 = some res) : Zj p l e room_1 s m #[Value.ref b] below meth c g A 4 kc (lw_Z below #[Value.ref b] s) z 321 [(0, .ref b), (1, .ref (g.1 o1)), (2, .ref (g.1 o2)), (3, .int x3)] [] := by
  unfold f_L_law_321 at hf
  refine z_aload_n C dL_law_321 rfl 1 rfl ?_
  refine z_aload_n C dL_law_322 rfl 0 rfl ?_
  refine z_iload_n C dL_law_323 rfl 3 rfl ?_
  refine z_iconst C dL_law_324 (v := 1) (by decide) ?_
  refine z_iadd C dL_law_325 ?_
  obtain ⟨h1, hf⟩ := q_ck hf
  refine z_sld C hX hbl hA dL_law_326 h1 ?_
  refine z_aload_n C dL_law_327 rfl 0 rfl ?_
  refine z_iload_n C dL_law_328 rfl 3 rfl ?_
  refine z_iconst C dL_law_329 (v := 2) (by decide) ?_
  refine z_iadd C dL_law_330 ?_
  obtain ⟨h2, hf⟩ := q_ck hf
  refine z_sld C hX hbl hA dL_law_331 h2 ?_
  refine z_aload_n C dL_law_332 rfl 0 rfl ?_
  refine z_iload_n C dL_law_333 rfl 3 rfl ?_
  refine z_iconst C dL_law_334 (v := 3) (by decide) ?_
  refine z_iadd C dL_law_335 ?_
  obtain ⟨h3, hf⟩ := q_ck hf
  refine z_sld C hX hbl hA dL_law_336 h3 ?_
  obtain ⟨r4, hc5, hf⟩ := q_bd hf
  refine z_cVi C (st := []) (c_X10_set ho1 hc5) mw_X10_set ml_L_28 ho1 (by decide) rfl dL_law_337 rfl rfl rfl ⟨Nat.le_of_ble_eq_true rfl, Nat.le_of_ble_eq_true rfl⟩ rfl (Nat.le_of_ble_eq_true rfl) ?_
  refine z_aload_n C dL_law_340 rfl 2 rfl ?_
  refine z_aload_n C dL_law_341 rfl 0 rfl ?_
  refine z_iload_n C dL_law_342 rfl 3 rfl ?_
  refine z_iconst C dL_law_343 (v := 1) (by decide) ?_
  refine z_iadd C dL_law_344 ?_
  obtain ⟨h6, hf⟩ := q_ck hf
  refine z_sld C hX hbl hA dL_law_345 h6 ?_
  refine z_aload_n C dL_law_346 rfl 0 rfl ?_
  refine z_iload_n C dL_law_347 rfl 3 rfl ?_
  refine z_iconst C dL_law_348 (v := 2) (by decide) ?_
  refine z_iadd C dL_law_349 ?_
  obtain ⟨h7, hf⟩ := q_ck hf
  refine z_sld C hX hbl hA dL_law_350 h7 ?_
  refine z_aload_n C dL_law_351 rfl 0 rfl ?_
  refine z_iload_n C dL_law_352 rfl 3 rfl ?_
  refine z_iconst C dL_law_353 (v := 3) (by decide) ?_
  refine z_iadd C dL_law_354 ?_
  obtain ⟨h8, hf⟩ := q_ck hf
  refine z_sld C hX hbl hA dL_law_355 h8 ?_
  obtain ⟨r9, hc10, hf⟩ := q_bd hf
  refine z_cVi C (st := [.int r4.2]) (c_X11_set ho2 hc10) mw_X11_set ml_L_32 ho2 (by decide) rfl dL_law_356 rfl rfl rfl ⟨Nat.le_of_ble_eq_true rfl, Nat.le_of_ble_eq_true rfl⟩ rfl (Nat.le_of_ble_eq_true rfl) ?_
  exact z_icmp_eq C dL_law_359 (by decide) (fun h => z_sub [0, 1, 2, 3] rfl (b_L_law_1223 C hr hk hX hbl hA hkc hK18 r9.1 o1 o2 x3 ho1 ho2 hres (q_t hf h))) (fun h => z_sub [] rfl (b_L_law_362 C hr hk hX hbl hA hkc r9.1 hres (q_f hf h)))
def f_L_law_395 (xs : Nat → Int32) (L : Nat)  (z : St)  : Option (St × Int32) :=
  some (z, 0)
theorem b_L_law_395 {p : Program} {l : Launch} {e : Env} {s : State} {m : MethodId} {below : List Frame} {meth : Method} {c : Code} {b L : Nat} {xs : Nat → Int32} {kc : Nat × Nat} {g : Ga} {A : Nat → Prop} (C : Cx l g A p s m #[Value.ref b] c cL_law 4 RL room_1 kc) (hr : meth.sig.returnType = ret) (hk : meth.locks = false) (hX : va_X b L xs s s.heap) (hbl : b < s.heap.size) (hA : ∀ q, A q → s.heap.size ≤ q) (hkc : kc.1 ≤ 600000 ∧ kc.2 ≤ 7302250)   (z : St)   {res : St × Int32} (hres : res.2 = 1) (hf : f_L_law_395 xs L  z  = some res) : Zj p l e room_1 s m #[Value.ref b] below meth c g A 4 kc (lw_Z below #[Value.ref b] s) z 395 [] [] := by
  unfold f_L_law_395 at hf
  refine z_iconst C dL_law_395 (v := 0) (by decide) ?_
  cases hf
  exact z_lawret C hr hk hA hkc hres dL_law_396
def f_L_law_364 (xs : Nat → Int32) (L : Nat) (K18 : St → Nat → Nat → Int32 → Option (St × Int32)) (z : St) (o1 : Nat) (o2 : Nat) (x3 : Int32) : Option (St × Int32) :=
  if inb (x3 + 1) L = true then (if inb (x3 + 2) L = true then (((f_X10_told z o1 (xs (Int32.toNatClampNeg (x3 + 1))) (xs (Int32.toNatClampNeg (x3 + 2)))).bind fun r3 => if inb (x3 + 1) L = true then (if inb (x3 + 2) L = true then (((f_X11_told r3.1 o2 (xs (Int32.toNatClampNeg (x3 + 1))) (xs (Int32.toNatClampNeg (x3 + 2)))).bind fun r7 => if r3.2 = r7.2 then f_L_law_1223 xs L K18 r7.1 o1 o2 x3 else f_L_law_395 xs L r7.1)) else none) else none)) else none) else none
theorem b_L_law_364 {p : Program} {l : Launch} {e : Env} {s : State} {m : MethodId} {below : List Frame} {meth : Method} {c : Code} {b L : Nat} {xs : Nat → Int32} {kc : Nat × Nat} {g : Ga} {A : Nat → Prop} (C : Cx l g A p s m #[Value.ref b] c cL_law 4 RL room_1 kc) (hr : meth.sig.returnType = ret) (hk : meth.locks = false) (hX : va_X b L xs s s.heap) (hbl : b < s.heap.size) (hA : ∀ q, A q → s.heap.size ≤ q) (hkc : kc.1 ≤ 600000 ∧ kc.2 ≤ 7302250) {K18 : St → Nat → Nat → Int32 → Option (St × Int32)} (hK18 : ∀ (z : St) (o1 : Nat) (o2 : Nat) (x3 : Int32) (_ : kd o1 = 10) (_ : kd o2 = 11) {res : St × Int32} (_ : res.2 = 1), K18 z o1 o2 x3 = some res → Zj p l e room_1 s m #[Value.ref b] below meth c g A 4 kc (lw_Z below #[Value.ref b] s) z 18 [(0, .ref b), (1, .ref (g.1 o1)), (2, .ref (g.1 o2)), (3, .int x3)] []) (z : St) (o1 : Nat) (o2 : Nat) (x3 : Int32) (ho1 : kd o1 = 10) (ho2 : kd o2 = 11) {res : St × Int32} (hres : res.2 = 1) (hf : f_L_law_364 xs L K18 z o1 o2 x3 = some res) : Zj p l e room_1 s m #[Value.ref b] below meth c g A 4 kc (lw_Z below #[Value.ref b] s) z 364 [(0, .ref b), (1, .ref (g.1 o1)), (2, .ref (g.1 o2)), (3, .int x3)] [] := by
  unfold f_L_law_364 at hf
  refine z_aload_n C dL_law_364 rfl 1 rfl ?_
  refine z_aload_n C dL_law_365 rfl 0 rfl ?_
  refine z_iload_n C dL_law_366 rfl 3 rfl ?_
  refine z_iconst C dL_law_367 (v := 1) (by decide) ?_
  refine z_iadd C dL_law_368 ?_
  obtain ⟨h1, hf⟩ := q_ck hf
  refine z_sld C hX hbl hA dL_law_369 h1 ?_
  refine z_aload_n C dL_law_370 rfl 0 rfl ?_
  refine z_iload_n C dL_law_371 rfl 3 rfl ?_
  refine z_iconst C dL_law_372 (v := 2) (by decide) ?_
  refine z_iadd C dL_law_373 ?_
  obtain ⟨h2, hf⟩ := q_ck hf
  refine z_sld C hX hbl hA dL_law_374 h2 ?_
  obtain ⟨r3, hc4, hf⟩ := q_bd hf
  refine z_cVi C (st := []) (c_X10_told ho1 hc4) mw_X10_told ml_L_33 ho1 (by decide) rfl dL_law_375 rfl rfl rfl ⟨Nat.le_of_ble_eq_true rfl, Nat.le_of_ble_eq_true rfl⟩ rfl (Nat.le_of_ble_eq_true rfl) ?_
  refine z_aload_n C dL_law_378 rfl 2 rfl ?_
  refine z_aload_n C dL_law_379 rfl 0 rfl ?_
  refine z_iload_n C dL_law_380 rfl 3 rfl ?_
  refine z_iconst C dL_law_381 (v := 1) (by decide) ?_
  refine z_iadd C dL_law_382 ?_
  obtain ⟨h5, hf⟩ := q_ck hf
  refine z_sld C hX hbl hA dL_law_383 h5 ?_
  refine z_aload_n C dL_law_384 rfl 0 rfl ?_
  refine z_iload_n C dL_law_385 rfl 3 rfl ?_
  refine z_iconst C dL_law_386 (v := 2) (by decide) ?_
  refine z_iadd C dL_law_387 ?_
  obtain ⟨h6, hf⟩ := q_ck hf
  refine z_sld C hX hbl hA dL_law_388 h6 ?_
  obtain ⟨r7, hc8, hf⟩ := q_bd hf
  refine z_cVi C (st := [.int r3.2]) (c_X11_told ho2 hc8) mw_X11_told ml_L_37 ho2 (by decide) rfl dL_law_389 rfl rfl rfl ⟨Nat.le_of_ble_eq_true rfl, Nat.le_of_ble_eq_true rfl⟩ rfl (Nat.le_of_ble_eq_true rfl) ?_
  exact z_icmp_eq C dL_law_392 (by decide) (fun h => z_sub [0, 1, 2, 3] rfl (b_L_law_1223 C hr hk hX hbl hA hkc hK18 r7.1 o1 o2 x3 ho1 ho2 hres (q_t hf h))) (fun h => z_sub [] rfl (b_L_law_395 C hr hk hX hbl hA hkc r7.1 hres (q_f hf h)))
def f_L_law_418 (xs : Nat → Int32) (L : Nat)  (z : St)  : Option (St × Int32) :=
  some (z, 0)
theorem b_L_law_418 {p : Program} {l : Launch} {e : Env} {s : State} {m : MethodId} {below : List Frame} {meth : Method} {c : Code} {b L : Nat} {xs : Nat → Int32} {kc : Nat × Nat} {g : Ga} {A : Nat → Prop} (C : Cx l g A p s m #[Value.ref b] c cL_law 4 RL room_1 kc) (hr : meth.sig.returnType = ret) (hk : meth.locks = false) (hX : va_X b L xs s s.heap) (hbl : b < s.heap.size) (hA : ∀ q, A q → s.heap.size ≤ q) (hkc : kc.1 ≤ 600000 ∧ kc.2 ≤ 7302250)   (z : St)   {res : St × Int32} (hres : res.2 = 1) (hf : f_L_law_418 xs L  z  = some res) : Zj p l e room_1 s m #[Value.ref b] below meth c g A 4 kc (lw_Z below #[Value.ref b] s) z 418 [] [] := by
  unfold f_L_law_418 at hf
  refine z_iconst C dL_law_418 (v := 0) (by decide) ?_
  cases hf
  exact z_lawret C hr hk hA hkc hres dL_law_419
def f_L_law_397 (xs : Nat → Int32) (L : Nat) (K18 : St → Nat → Nat → Int32 → Option (St × Int32)) (z : St) (o1 : Nat) (o2 : Nat) (x3 : Int32) : Option (St × Int32) :=
  if inb (x3 + 1) L = true then (((f_X10_drop z o1 (xs (Int32.toNatClampNeg (x3 + 1)))).bind fun r2 => if inb (x3 + 1) L = true then (((f_X11_drop r2.1 o2 (xs (Int32.toNatClampNeg (x3 + 1)))).bind fun r5 => if r2.2 = r5.2 then f_L_law_1223 xs L K18 r5.1 o1 o2 x3 else f_L_law_418 xs L r5.1)) else none)) else none
theorem b_L_law_397 {p : Program} {l : Launch} {e : Env} {s : State} {m : MethodId} {below : List Frame} {meth : Method} {c : Code} {b L : Nat} {xs : Nat → Int32} {kc : Nat × Nat} {g : Ga} {A : Nat → Prop} (C : Cx l g A p s m #[Value.ref b] c cL_law 4 RL room_1 kc) (hr : meth.sig.returnType = ret) (hk : meth.locks = false) (hX : va_X b L xs s s.heap) (hbl : b < s.heap.size) (hA : ∀ q, A q → s.heap.size ≤ q) (hkc : kc.1 ≤ 600000 ∧ kc.2 ≤ 7302250) {K18 : St → Nat → Nat → Int32 → Option (St × Int32)} (hK18 : ∀ (z : St) (o1 : Nat) (o2 : Nat) (x3 : Int32) (_ : kd o1 = 10) (_ : kd o2 = 11) {res : St × Int32} (_ : res.2 = 1), K18 z o1 o2 x3 = some res → Zj p l e room_1 s m #[Value.ref b] below meth c g A 4 kc (lw_Z below #[Value.ref b] s) z 18 [(0, .ref b), (1, .ref (g.1 o1)), (2, .ref (g.1 o2)), (3, .int x3)] []) (z : St) (o1 : Nat) (o2 : Nat) (x3 : Int32) (ho1 : kd o1 = 10) (ho2 : kd o2 = 11) {res : St × Int32} (hres : res.2 = 1) (hf : f_L_law_397 xs L K18 z o1 o2 x3 = some res) : Zj p l e room_1 s m #[Value.ref b] below meth c g A 4 kc (lw_Z below #[Value.ref b] s) z 397 [(0, .ref b), (1, .ref (g.1 o1)), (2, .ref (g.1 o2)), (3, .int x3)] [] := by
  unfold f_L_law_397 at hf
  refine z_aload_n C dL_law_397 rfl 1 rfl ?_
  refine z_aload_n C dL_law_398 rfl 0 rfl ?_
  refine z_iload_n C dL_law_399 rfl 3 rfl ?_
  refine z_iconst C dL_law_400 (v := 1) (by decide) ?_
  refine z_iadd C dL_law_401 ?_
  obtain ⟨h1, hf⟩ := q_ck hf
  refine z_sld C hX hbl hA dL_law_402 h1 ?_
  obtain ⟨r2, hc3, hf⟩ := q_bd hf
  refine z_cVi C (st := []) (c_X10_drop ho1 hc3) mw_X10_drop ml_L_38 ho1 (by decide) rfl dL_law_403 rfl rfl rfl ⟨Nat.le_of_ble_eq_true rfl, Nat.le_of_ble_eq_true rfl⟩ rfl (Nat.le_of_ble_eq_true rfl) ?_
  refine z_aload_n C dL_law_406 rfl 2 rfl ?_
  refine z_aload_n C dL_law_407 rfl 0 rfl ?_
  refine z_iload_n C dL_law_408 rfl 3 rfl ?_
  refine z_iconst C dL_law_409 (v := 1) (by decide) ?_
  refine z_iadd C dL_law_410 ?_
  obtain ⟨h4, hf⟩ := q_ck hf
  refine z_sld C hX hbl hA dL_law_411 h4 ?_
  obtain ⟨r5, hc6, hf⟩ := q_bd hf
  refine z_cVi C (st := [.int r2.2]) (c_X11_drop ho2 hc6) mw_X11_drop ml_L_42 ho2 (by decide) rfl dL_law_412 rfl rfl rfl ⟨Nat.le_of_ble_eq_true rfl, Nat.le_of_ble_eq_true rfl⟩ rfl (Nat.le_of_ble_eq_true rfl) ?_
  exact z_icmp_eq C dL_law_415 (by decide) (fun h => z_sub [0, 1, 2, 3] rfl (b_L_law_1223 C hr hk hX hbl hA hkc hK18 r5.1 o1 o2 x3 ho1 ho2 hres (q_t hf h))) (fun h => z_sub [] rfl (b_L_law_418 C hr hk hX hbl hA hkc r5.1 hres (q_f hf h)))
def f_L_law_451 (xs : Nat → Int32) (L : Nat)  (z : St)  : Option (St × Int32) :=
  some (z, 0)
theorem b_L_law_451 {p : Program} {l : Launch} {e : Env} {s : State} {m : MethodId} {below : List Frame} {meth : Method} {c : Code} {b L : Nat} {xs : Nat → Int32} {kc : Nat × Nat} {g : Ga} {A : Nat → Prop} (C : Cx l g A p s m #[Value.ref b] c cL_law 4 RL room_1 kc) (hr : meth.sig.returnType = ret) (hk : meth.locks = false) (hX : va_X b L xs s s.heap) (hbl : b < s.heap.size) (hA : ∀ q, A q → s.heap.size ≤ q) (hkc : kc.1 ≤ 600000 ∧ kc.2 ≤ 7302250)   (z : St)   {res : St × Int32} (hres : res.2 = 1) (hf : f_L_law_451 xs L  z  = some res) : Zj p l e room_1 s m #[Value.ref b] below meth c g A 4 kc (lw_Z below #[Value.ref b] s) z 451 [] [] := by
  unfold f_L_law_451 at hf
  refine z_iconst C dL_law_451 (v := 0) (by decide) ?_
  cases hf
  exact z_lawret C hr hk hA hkc hres dL_law_452
def f_L_law_420 (xs : Nat → Int32) (L : Nat) (K18 : St → Nat → Nat → Int32 → Option (St × Int32)) (z : St) (o1 : Nat) (o2 : Nat) (x3 : Int32) : Option (St × Int32) :=
  if inb (x3 + 1) L = true then (if inb (x3 + 2) L = true then (((f_X10_taken z o1 (xs (Int32.toNatClampNeg (x3 + 1))) (xs (Int32.toNatClampNeg (x3 + 2)))).bind fun r3 => if inb (x3 + 1) L = true then (if inb (x3 + 2) L = true then (((f_X11_taken r3.1 o2 (xs (Int32.toNatClampNeg (x3 + 1))) (xs (Int32.toNatClampNeg (x3 + 2)))).bind fun r7 => if r3.2 = r7.2 then f_L_law_1223 xs L K18 r7.1 o1 o2 x3 else f_L_law_451 xs L r7.1)) else none) else none)) else none) else none
theorem b_L_law_420 {p : Program} {l : Launch} {e : Env} {s : State} {m : MethodId} {below : List Frame} {meth : Method} {c : Code} {b L : Nat} {xs : Nat → Int32} {kc : Nat × Nat} {g : Ga} {A : Nat → Prop} (C : Cx l g A p s m #[Value.ref b] c cL_law 4 RL room_1 kc) (hr : meth.sig.returnType = ret) (hk : meth.locks = false) (hX : va_X b L xs s s.heap) (hbl : b < s.heap.size) (hA : ∀ q, A q → s.heap.size ≤ q) (hkc : kc.1 ≤ 600000 ∧ kc.2 ≤ 7302250) {K18 : St → Nat → Nat → Int32 → Option (St × Int32)} (hK18 : ∀ (z : St) (o1 : Nat) (o2 : Nat) (x3 : Int32) (_ : kd o1 = 10) (_ : kd o2 = 11) {res : St × Int32} (_ : res.2 = 1), K18 z o1 o2 x3 = some res → Zj p l e room_1 s m #[Value.ref b] below meth c g A 4 kc (lw_Z below #[Value.ref b] s) z 18 [(0, .ref b), (1, .ref (g.1 o1)), (2, .ref (g.1 o2)), (3, .int x3)] []) (z : St) (o1 : Nat) (o2 : Nat) (x3 : Int32) (ho1 : kd o1 = 10) (ho2 : kd o2 = 11) {res : St × Int32} (hres : res.2 = 1) (hf : f_L_law_420 xs L K18 z o1 o2 x3 = some res) : Zj p l e room_1 s m #[Value.ref b] below meth c g A 4 kc (lw_Z below #[Value.ref b] s) z 420 [(0, .ref b), (1, .ref (g.1 o1)), (2, .ref (g.1 o2)), (3, .int x3)] [] := by
  unfold f_L_law_420 at hf
  refine z_aload_n C dL_law_420 rfl 1 rfl ?_
  refine z_aload_n C dL_law_421 rfl 0 rfl ?_
  refine z_iload_n C dL_law_422 rfl 3 rfl ?_
  refine z_iconst C dL_law_423 (v := 1) (by decide) ?_
  refine z_iadd C dL_law_424 ?_
  obtain ⟨h1, hf⟩ := q_ck hf
  refine z_sld C hX hbl hA dL_law_425 h1 ?_
  refine z_aload_n C dL_law_426 rfl 0 rfl ?_
  refine z_iload_n C dL_law_427 rfl 3 rfl ?_
  refine z_iconst C dL_law_428 (v := 2) (by decide) ?_
  refine z_iadd C dL_law_429 ?_
  obtain ⟨h2, hf⟩ := q_ck hf
  refine z_sld C hX hbl hA dL_law_430 h2 ?_
  obtain ⟨r3, hc4, hf⟩ := q_bd hf
  refine z_cVi C (st := []) (c_X10_taken ho1 hc4) mw_X10_taken ml_L_43 ho1 (by decide) rfl dL_law_431 rfl rfl rfl ⟨Nat.le_of_ble_eq_true rfl, Nat.le_of_ble_eq_true rfl⟩ rfl (Nat.le_of_ble_eq_true rfl) ?_
  refine z_aload_n C dL_law_434 rfl 2 rfl ?_
  refine z_aload_n C dL_law_435 rfl 0 rfl ?_
  refine z_iload_n C dL_law_436 rfl 3 rfl ?_
  refine z_iconst C dL_law_437 (v := 1) (by decide) ?_
  refine z_iadd C dL_law_438 ?_
  obtain ⟨h5, hf⟩ := q_ck hf
  refine z_sld C hX hbl hA dL_law_439 h5 ?_
  refine z_aload_n C dL_law_440 rfl 0 rfl ?_
  refine z_iload_n C dL_law_441 rfl 3 rfl ?_
  refine z_iconst C dL_law_442 (v := 2) (by decide) ?_
  refine z_iadd C dL_law_443 ?_
  obtain ⟨h6, hf⟩ := q_ck hf
  refine z_sld C hX hbl hA dL_law_444 h6 ?_
  obtain ⟨r7, hc8, hf⟩ := q_bd hf
  refine z_cVi C (st := [.int r3.2]) (c_X11_taken ho2 hc8) mw_X11_taken ml_L_46 ho2 (by decide) rfl dL_law_445 rfl rfl rfl ⟨Nat.le_of_ble_eq_true rfl, Nat.le_of_ble_eq_true rfl⟩ rfl (Nat.le_of_ble_eq_true rfl) ?_
  exact z_icmp_eq C dL_law_448 (by decide) (fun h => z_sub [0, 1, 2, 3] rfl (b_L_law_1223 C hr hk hX hbl hA hkc hK18 r7.1 o1 o2 x3 ho1 ho2 hres (q_t hf h))) (fun h => z_sub [] rfl (b_L_law_451 C hr hk hX hbl hA hkc r7.1 hres (q_f hf h)))
def f_L_law_484 (xs : Nat → Int32) (L : Nat)  (z : St)  : Option (St × Int32) :=
  some (z, 0)
theorem b_L_law_484 {p : Program} {l : Launch} {e : Env} {s : State} {m : MethodId} {below : List Frame} {meth : Method} {c : Code} {b L : Nat} {xs : Nat → Int32} {kc : Nat × Nat} {g : Ga} {A : Nat → Prop} (C : Cx l g A p s m #[Value.ref b] c cL_law 4 RL room_1 kc) (hr : meth.sig.returnType = ret) (hk : meth.locks = false) (hX : va_X b L xs s s.heap) (hbl : b < s.heap.size) (hA : ∀ q, A q → s.heap.size ≤ q) (hkc : kc.1 ≤ 600000 ∧ kc.2 ≤ 7302250)   (z : St)   {res : St × Int32} (hres : res.2 = 1) (hf : f_L_law_484 xs L  z  = some res) : Zj p l e room_1 s m #[Value.ref b] below meth c g A 4 kc (lw_Z below #[Value.ref b] s) z 484 [] [] := by
  unfold f_L_law_484 at hf
  refine z_iconst C dL_law_484 (v := 0) (by decide) ?_
  cases hf
  exact z_lawret C hr hk hA hkc hres dL_law_485
def f_L_law_453 (xs : Nat → Int32) (L : Nat) (K18 : St → Nat → Nat → Int32 → Option (St × Int32)) (z : St) (o1 : Nat) (o2 : Nat) (x3 : Int32) : Option (St × Int32) :=
  if inb (x3 + 1) L = true then (if inb (x3 + 2) L = true then (((f_X10_greedy z o1 (xs (Int32.toNatClampNeg (x3 + 1))) (xs (Int32.toNatClampNeg (x3 + 2)))).bind fun r3 => if inb (x3 + 1) L = true then (if inb (x3 + 2) L = true then (((f_X11_greedy r3.1 o2 (xs (Int32.toNatClampNeg (x3 + 1))) (xs (Int32.toNatClampNeg (x3 + 2)))).bind fun r7 => if r3.2 = r7.2 then f_L_law_1223 xs L K18 r7.1 o1 o2 x3 else f_L_law_484 xs L r7.1)) else none) else none)) else none) else none
theorem b_L_law_453 {p : Program} {l : Launch} {e : Env} {s : State} {m : MethodId} {below : List Frame} {meth : Method} {c : Code} {b L : Nat} {xs : Nat → Int32} {kc : Nat × Nat} {g : Ga} {A : Nat → Prop} (C : Cx l g A p s m #[Value.ref b] c cL_law 4 RL room_1 kc) (hr : meth.sig.returnType = ret) (hk : meth.locks = false) (hX : va_X b L xs s s.heap) (hbl : b < s.heap.size) (hA : ∀ q, A q → s.heap.size ≤ q) (hkc : kc.1 ≤ 600000 ∧ kc.2 ≤ 7302250) {K18 : St → Nat → Nat → Int32 → Option (St × Int32)} (hK18 : ∀ (z : St) (o1 : Nat) (o2 : Nat) (x3 : Int32) (_ : kd o1 = 10) (_ : kd o2 = 11) {res : St × Int32} (_ : res.2 = 1), K18 z o1 o2 x3 = some res → Zj p l e room_1 s m #[Value.ref b] below meth c g A 4 kc (lw_Z below #[Value.ref b] s) z 18 [(0, .ref b), (1, .ref (g.1 o1)), (2, .ref (g.1 o2)), (3, .int x3)] []) (z : St) (o1 : Nat) (o2 : Nat) (x3 : Int32) (ho1 : kd o1 = 10) (ho2 : kd o2 = 11) {res : St × Int32} (hres : res.2 = 1) (hf : f_L_law_453 xs L K18 z o1 o2 x3 = some res) : Zj p l e room_1 s m #[Value.ref b] below meth c g A 4 kc (lw_Z below #[Value.ref b] s) z 453 [(0, .ref b), (1, .ref (g.1 o1)), (2, .ref (g.1 o2)), (3, .int x3)] [] := by
  unfold f_L_law_453 at hf
  refine z_aload_n C dL_law_453 rfl 1 rfl ?_
  refine z_aload_n C dL_law_454 rfl 0 rfl ?_
  refine z_iload_n C dL_law_455 rfl 3 rfl ?_
  refine z_iconst C dL_law_456 (v := 1) (by decide) ?_
  refine z_iadd C dL_law_457 ?_
  obtain ⟨h1, hf⟩ := q_ck hf
  refine z_sld C hX hbl hA dL_law_458 h1 ?_
  refine z_aload_n C dL_law_459 rfl 0 rfl ?_
  refine z_iload_n C dL_law_460 rfl 3 rfl ?_
  refine z_iconst C dL_law_461 (v := 2) (by decide) ?_
  refine z_iadd C dL_law_462 ?_
  obtain ⟨h2, hf⟩ := q_ck hf
  refine z_sld C hX hbl hA dL_law_463 h2 ?_
  obtain ⟨r3, hc4, hf⟩ := q_bd hf
  refine z_cVi C (st := []) (c_X10_greedy ho1 hc4) mw_X10_greedy ml_L_47 ho1 (by decide) rfl dL_law_464 rfl rfl rfl ⟨Nat.le_of_ble_eq_true rfl, Nat.le_of_ble_eq_true rfl⟩ rfl (Nat.le_of_ble_eq_true rfl) ?_
  refine z_aload_n C dL_law_467 rfl 2 rfl ?_
  refine z_aload_n C dL_law_468 rfl 0 rfl ?_
  refine z_iload_n C dL_law_469 rfl 3 rfl ?_
  refine z_iconst C dL_law_470 (v := 1) (by decide) ?_
  refine z_iadd C dL_law_471 ?_
  obtain ⟨h5, hf⟩ := q_ck hf
  refine z_sld C hX hbl hA dL_law_472 h5 ?_
  refine z_aload_n C dL_law_473 rfl 0 rfl ?_
  refine z_iload_n C dL_law_474 rfl 3 rfl ?_
  refine z_iconst C dL_law_475 (v := 2) (by decide) ?_
  refine z_iadd C dL_law_476 ?_
  obtain ⟨h6, hf⟩ := q_ck hf
  refine z_sld C hX hbl hA dL_law_477 h6 ?_
  obtain ⟨r7, hc8, hf⟩ := q_bd hf
  refine z_cVi C (st := [.int r3.2]) (c_X11_greedy ho2 hc8) mw_X11_greedy ml_L_50 ho2 (by decide) rfl dL_law_478 rfl rfl rfl ⟨Nat.le_of_ble_eq_true rfl, Nat.le_of_ble_eq_true rfl⟩ rfl (Nat.le_of_ble_eq_true rfl) ?_
  exact z_icmp_eq C dL_law_481 (by decide) (fun h => z_sub [0, 1, 2, 3] rfl (b_L_law_1223 C hr hk hX hbl hA hkc hK18 r7.1 o1 o2 x3 ho1 ho2 hres (q_t hf h))) (fun h => z_sub [] rfl (b_L_law_484 C hr hk hX hbl hA hkc r7.1 hres (q_f hf h)))
def f_L_law_507 (xs : Nat → Int32) (L : Nat)  (z : St)  : Option (St × Int32) :=
  some (z, 0)
theorem b_L_law_507 {p : Program} {l : Launch} {e : Env} {s : State} {m : MethodId} {below : List Frame} {meth : Method} {c : Code} {b L : Nat} {xs : Nat → Int32} {kc : Nat × Nat} {g : Ga} {A : Nat → Prop} (C : Cx l g A p s m #[Value.ref b] c cL_law 4 RL room_1 kc) (hr : meth.sig.returnType = ret) (hk : meth.locks = false) (hX : va_X b L xs s s.heap) (hbl : b < s.heap.size) (hA : ∀ q, A q → s.heap.size ≤ q) (hkc : kc.1 ≤ 600000 ∧ kc.2 ≤ 7302250)   (z : St)   {res : St × Int32} (hres : res.2 = 1) (hf : f_L_law_507 xs L  z  = some res) : Zj p l e room_1 s m #[Value.ref b] below meth c g A 4 kc (lw_Z below #[Value.ref b] s) z 507 [] [] := by
  unfold f_L_law_507 at hf
  refine z_iconst C dL_law_507 (v := 0) (by decide) ?_
  cases hf
  exact z_lawret C hr hk hA hkc hres dL_law_508
def f_L_law_486 (xs : Nat → Int32) (L : Nat) (K18 : St → Nat → Nat → Int32 → Option (St × Int32)) (z : St) (o1 : Nat) (o2 : Nat) (x3 : Int32) : Option (St × Int32) :=
  if inb (x3 + 1) L = true then (((f_X10_breaking z o1 (xs (Int32.toNatClampNeg (x3 + 1)))).bind fun r2 => if inb (x3 + 1) L = true then (((f_X11_breaking r2.1 o2 (xs (Int32.toNatClampNeg (x3 + 1)))).bind fun r5 => if r2.2 = r5.2 then f_L_law_1223 xs L K18 r5.1 o1 o2 x3 else f_L_law_507 xs L r5.1)) else none)) else none
theorem b_L_law_486 {p : Program} {l : Launch} {e : Env} {s : State} {m : MethodId} {below : List Frame} {meth : Method} {c : Code} {b L : Nat} {xs : Nat → Int32} {kc : Nat × Nat} {g : Ga} {A : Nat → Prop} (C : Cx l g A p s m #[Value.ref b] c cL_law 4 RL room_1 kc) (hr : meth.sig.returnType = ret) (hk : meth.locks = false) (hX : va_X b L xs s s.heap) (hbl : b < s.heap.size) (hA : ∀ q, A q → s.heap.size ≤ q) (hkc : kc.1 ≤ 600000 ∧ kc.2 ≤ 7302250) {K18 : St → Nat → Nat → Int32 → Option (St × Int32)} (hK18 : ∀ (z : St) (o1 : Nat) (o2 : Nat) (x3 : Int32) (_ : kd o1 = 10) (_ : kd o2 = 11) {res : St × Int32} (_ : res.2 = 1), K18 z o1 o2 x3 = some res → Zj p l e room_1 s m #[Value.ref b] below meth c g A 4 kc (lw_Z below #[Value.ref b] s) z 18 [(0, .ref b), (1, .ref (g.1 o1)), (2, .ref (g.1 o2)), (3, .int x3)] []) (z : St) (o1 : Nat) (o2 : Nat) (x3 : Int32) (ho1 : kd o1 = 10) (ho2 : kd o2 = 11) {res : St × Int32} (hres : res.2 = 1) (hf : f_L_law_486 xs L K18 z o1 o2 x3 = some res) : Zj p l e room_1 s m #[Value.ref b] below meth c g A 4 kc (lw_Z below #[Value.ref b] s) z 486 [(0, .ref b), (1, .ref (g.1 o1)), (2, .ref (g.1 o2)), (3, .int x3)] [] := by
  unfold f_L_law_486 at hf
  refine z_aload_n C dL_law_486 rfl 1 rfl ?_
  refine z_aload_n C dL_law_487 rfl 0 rfl ?_
  refine z_iload_n C dL_law_488 rfl 3 rfl ?_
  refine z_iconst C dL_law_489 (v := 1) (by decide) ?_
  refine z_iadd C dL_law_490 ?_
  obtain ⟨h1, hf⟩ := q_ck hf
  refine z_sld C hX hbl hA dL_law_491 h1 ?_
  obtain ⟨r2, hc3, hf⟩ := q_bd hf
  refine z_cVi C (st := []) (c_X10_breaking ho1 hc3) mw_X10_breaking ml_L_51 ho1 (by decide) rfl dL_law_492 rfl rfl rfl ⟨Nat.le_of_ble_eq_true rfl, Nat.le_of_ble_eq_true rfl⟩ rfl (Nat.le_of_ble_eq_true rfl) ?_
  refine z_aload_n C dL_law_495 rfl 2 rfl ?_
  refine z_aload_n C dL_law_496 rfl 0 rfl ?_
  refine z_iload_n C dL_law_497 rfl 3 rfl ?_
  refine z_iconst C dL_law_498 (v := 1) (by decide) ?_
  refine z_iadd C dL_law_499 ?_
  obtain ⟨h4, hf⟩ := q_ck hf
  refine z_sld C hX hbl hA dL_law_500 h4 ?_
  obtain ⟨r5, hc6, hf⟩ := q_bd hf
  refine z_cVi C (st := [.int r2.2]) (c_X11_breaking ho2 hc6) mw_X11_breaking ml_L_54 ho2 (by decide) rfl dL_law_501 rfl rfl rfl ⟨Nat.le_of_ble_eq_true rfl, Nat.le_of_ble_eq_true rfl⟩ rfl (Nat.le_of_ble_eq_true rfl) ?_
  exact z_icmp_eq C dL_law_504 (by decide) (fun h => z_sub [0, 1, 2, 3] rfl (b_L_law_1223 C hr hk hX hbl hA hkc hK18 r5.1 o1 o2 x3 ho1 ho2 hres (q_t hf h))) (fun h => z_sub [] rfl (b_L_law_507 C hr hk hX hbl hA hkc r5.1 hres (q_f hf h)))
def f_L_law_530 (xs : Nat → Int32) (L : Nat)  (z : St)  : Option (St × Int32) :=
  some (z, 0)
theorem b_L_law_530 {p : Program} {l : Launch} {e : Env} {s : State} {m : MethodId} {below : List Frame} {meth : Method} {c : Code} {b L : Nat} {xs : Nat → Int32} {kc : Nat × Nat} {g : Ga} {A : Nat → Prop} (C : Cx l g A p s m #[Value.ref b] c cL_law 4 RL room_1 kc) (hr : meth.sig.returnType = ret) (hk : meth.locks = false) (hX : va_X b L xs s s.heap) (hbl : b < s.heap.size) (hA : ∀ q, A q → s.heap.size ≤ q) (hkc : kc.1 ≤ 600000 ∧ kc.2 ≤ 7302250)   (z : St)   {res : St × Int32} (hres : res.2 = 1) (hf : f_L_law_530 xs L  z  = some res) : Zj p l e room_1 s m #[Value.ref b] below meth c g A 4 kc (lw_Z below #[Value.ref b] s) z 530 [] [] := by
  unfold f_L_law_530 at hf
  refine z_iconst C dL_law_530 (v := 0) (by decide) ?_
  cases hf
  exact z_lawret C hr hk hA hkc hres dL_law_531
def f_L_law_509 (xs : Nat → Int32) (L : Nat) (K18 : St → Nat → Nat → Int32 → Option (St × Int32)) (z : St) (o1 : Nat) (o2 : Nat) (x3 : Int32) : Option (St × Int32) :=
  if inb (x3 + 1) L = true then (((f_X10_critical z o1 (xs (Int32.toNatClampNeg (x3 + 1)))).bind fun r2 => if inb (x3 + 1) L = true then (((f_X11_critical r2.1 o2 (xs (Int32.toNatClampNeg (x3 + 1)))).bind fun r5 => if r2.2 = r5.2 then f_L_law_1223 xs L K18 r5.1 o1 o2 x3 else f_L_law_530 xs L r5.1)) else none)) else none
theorem b_L_law_509 {p : Program} {l : Launch} {e : Env} {s : State} {m : MethodId} {below : List Frame} {meth : Method} {c : Code} {b L : Nat} {xs : Nat → Int32} {kc : Nat × Nat} {g : Ga} {A : Nat → Prop} (C : Cx l g A p s m #[Value.ref b] c cL_law 4 RL room_1 kc) (hr : meth.sig.returnType = ret) (hk : meth.locks = false) (hX : va_X b L xs s s.heap) (hbl : b < s.heap.size) (hA : ∀ q, A q → s.heap.size ≤ q) (hkc : kc.1 ≤ 600000 ∧ kc.2 ≤ 7302250) {K18 : St → Nat → Nat → Int32 → Option (St × Int32)} (hK18 : ∀ (z : St) (o1 : Nat) (o2 : Nat) (x3 : Int32) (_ : kd o1 = 10) (_ : kd o2 = 11) {res : St × Int32} (_ : res.2 = 1), K18 z o1 o2 x3 = some res → Zj p l e room_1 s m #[Value.ref b] below meth c g A 4 kc (lw_Z below #[Value.ref b] s) z 18 [(0, .ref b), (1, .ref (g.1 o1)), (2, .ref (g.1 o2)), (3, .int x3)] []) (z : St) (o1 : Nat) (o2 : Nat) (x3 : Int32) (ho1 : kd o1 = 10) (ho2 : kd o2 = 11) {res : St × Int32} (hres : res.2 = 1) (hf : f_L_law_509 xs L K18 z o1 o2 x3 = some res) : Zj p l e room_1 s m #[Value.ref b] below meth c g A 4 kc (lw_Z below #[Value.ref b] s) z 509 [(0, .ref b), (1, .ref (g.1 o1)), (2, .ref (g.1 o2)), (3, .int x3)] [] := by
  unfold f_L_law_509 at hf
  refine z_aload_n C dL_law_509 rfl 1 rfl ?_
  refine z_aload_n C dL_law_510 rfl 0 rfl ?_
  refine z_iload_n C dL_law_511 rfl 3 rfl ?_
  refine z_iconst C dL_law_512 (v := 1) (by decide) ?_
  refine z_iadd C dL_law_513 ?_
  obtain ⟨h1, hf⟩ := q_ck hf
  refine z_sld C hX hbl hA dL_law_514 h1 ?_
  obtain ⟨r2, hc3, hf⟩ := q_bd hf
  refine z_cVi C (st := []) (c_X10_critical ho1 hc3) mw_X10_critical ml_L_55 ho1 (by decide) rfl dL_law_515 rfl rfl rfl ⟨Nat.le_of_ble_eq_true rfl, Nat.le_of_ble_eq_true rfl⟩ rfl (Nat.le_of_ble_eq_true rfl) ?_
  refine z_aload_n C dL_law_518 rfl 2 rfl ?_
  refine z_aload_n C dL_law_519 rfl 0 rfl ?_
  refine z_iload_n C dL_law_520 rfl 3 rfl ?_
  refine z_iconst C dL_law_521 (v := 1) (by decide) ?_
  refine z_iadd C dL_law_522 ?_
  obtain ⟨h4, hf⟩ := q_ck hf
  refine z_sld C hX hbl hA dL_law_523 h4 ?_
  obtain ⟨r5, hc6, hf⟩ := q_bd hf
  refine z_cVi C (st := [.int r2.2]) (c_X11_critical ho2 hc6) mw_X11_critical ml_L_58 ho2 (by decide) rfl dL_law_524 rfl rfl rfl ⟨Nat.le_of_ble_eq_true rfl, Nat.le_of_ble_eq_true rfl⟩ rfl (Nat.le_of_ble_eq_true rfl) ?_
  exact z_icmp_eq C dL_law_527 (by decide) (fun h => z_sub [0, 1, 2, 3] rfl (b_L_law_1223 C hr hk hX hbl hA hkc hK18 r5.1 o1 o2 x3 ho1 ho2 hres (q_t hf h))) (fun h => z_sub [] rfl (b_L_law_530 C hr hk hX hbl hA hkc r5.1 hres (q_f hf h)))
def f_L_law_563 (xs : Nat → Int32) (L : Nat)  (z : St)  : Option (St × Int32) :=
  some (z, 0)
theorem b_L_law_563 {p : Program} {l : Launch} {e : Env} {s : State} {m : MethodId} {below : List Frame} {meth : Method} {c : Code} {b L : Nat} {xs : Nat → Int32} {kc : Nat × Nat} {g : Ga} {A : Nat → Prop} (C : Cx l g A p s m #[Value.ref b] c cL_law 4 RL room_1 kc) (hr : meth.sig.returnType = ret) (hk : meth.locks = false) (hX : va_X b L xs s s.heap) (hbl : b < s.heap.size) (hA : ∀ q, A q → s.heap.size ≤ q) (hkc : kc.1 ≤ 600000 ∧ kc.2 ≤ 7302250)   (z : St)   {res : St × Int32} (hres : res.2 = 1) (hf : f_L_law_563 xs L  z  = some res) : Zj p l e room_1 s m #[Value.ref b] below meth c g A 4 kc (lw_Z below #[Value.ref b] s) z 563 [] [] := by
  unfold f_L_law_563 at hf
  refine z_iconst C dL_law_563 (v := 0) (by decide) ?_
  cases hf
  exact z_lawret C hr hk hA hkc hres dL_law_564
def f_L_law_532 (xs : Nat → Int32) (L : Nat) (K18 : St → Nat → Nat → Int32 → Option (St × Int32)) (z : St) (o1 : Nat) (o2 : Nat) (x3 : Int32) : Option (St × Int32) :=
  if inb (x3 + 1) L = true then (if inb (x3 + 2) L = true then (((f_X10_branch z o1 (xs (Int32.toNatClampNeg (x3 + 1))) (xs (Int32.toNatClampNeg (x3 + 2)))).bind fun r3 => if inb (x3 + 1) L = true then (if inb (x3 + 2) L = true then (((f_X11_branch r3.1 o2 (xs (Int32.toNatClampNeg (x3 + 1))) (xs (Int32.toNatClampNeg (x3 + 2)))).bind fun r7 => if r3.2 = r7.2 then f_L_law_1223 xs L K18 r7.1 o1 o2 x3 else f_L_law_563 xs L r7.1)) else none) else none)) else none) else none
theorem b_L_law_532 {p : Program} {l : Launch} {e : Env} {s : State} {m : MethodId} {below : List Frame} {meth : Method} {c : Code} {b L : Nat} {xs : Nat → Int32} {kc : Nat × Nat} {g : Ga} {A : Nat → Prop} (C : Cx l g A p s m #[Value.ref b] c cL_law 4 RL room_1 kc) (hr : meth.sig.returnType = ret) (hk : meth.locks = false) (hX : va_X b L xs s s.heap) (hbl : b < s.heap.size) (hA : ∀ q, A q → s.heap.size ≤ q) (hkc : kc.1 ≤ 600000 ∧ kc.2 ≤ 7302250) {K18 : St → Nat → Nat → Int32 → Option (St × Int32)} (hK18 : ∀ (z : St) (o1 : Nat) (o2 : Nat) (x3 : Int32) (_ : kd o1 = 10) (_ : kd o2 = 11) {res : St × Int32} (_ : res.2 = 1), K18 z o1 o2 x3 = some res → Zj p l e room_1 s m #[Value.ref b] below meth c g A 4 kc (lw_Z below #[Value.ref b] s) z 18 [(0, .ref b), (1, .ref (g.1 o1)), (2, .ref (g.1 o2)), (3, .int x3)] []) (z : St) (o1 : Nat) (o2 : Nat) (x3 : Int32) (ho1 : kd o1 = 10) (ho2 : kd o2 = 11) {res : St × Int32} (hres : res.2 = 1) (hf : f_L_law_532 xs L K18 z o1 o2 x3 = some res) : Zj p l e room_1 s m #[Value.ref b] below meth c g A 4 kc (lw_Z below #[Value.ref b] s) z 532 [(0, .ref b), (1, .ref (g.1 o1)), (2, .ref (g.1 o2)), (3, .int x3)] [] := by
  unfold f_L_law_532 at hf
  refine z_aload_n C dL_law_532 rfl 1 rfl ?_
  refine z_aload_n C dL_law_533 rfl 0 rfl ?_
  refine z_iload_n C dL_law_534 rfl 3 rfl ?_
  refine z_iconst C dL_law_535 (v := 1) (by decide) ?_
  refine z_iadd C dL_law_536 ?_
  obtain ⟨h1, hf⟩ := q_ck hf
  refine z_sld C hX hbl hA dL_law_537 h1 ?_
  refine z_aload_n C dL_law_538 rfl 0 rfl ?_
  refine z_iload_n C dL_law_539 rfl 3 rfl ?_
  refine z_iconst C dL_law_540 (v := 2) (by decide) ?_
  refine z_iadd C dL_law_541 ?_
  obtain ⟨h2, hf⟩ := q_ck hf
  refine z_sld C hX hbl hA dL_law_542 h2 ?_
  obtain ⟨r3, hc4, hf⟩ := q_bd hf
  refine z_cVi C (st := []) (c_X10_branch ho1 hc4) mw_X10_branch ml_L_59 ho1 (by decide) rfl dL_law_543 rfl rfl rfl ⟨Nat.le_of_ble_eq_true rfl, Nat.le_of_ble_eq_true rfl⟩ rfl (Nat.le_of_ble_eq_true rfl) ?_
  refine z_aload_n C dL_law_546 rfl 2 rfl ?_
  refine z_aload_n C dL_law_547 rfl 0 rfl ?_
  refine z_iload_n C dL_law_548 rfl 3 rfl ?_
  refine z_iconst C dL_law_549 (v := 1) (by decide) ?_
  refine z_iadd C dL_law_550 ?_
  obtain ⟨h5, hf⟩ := q_ck hf
  refine z_sld C hX hbl hA dL_law_551 h5 ?_
  refine z_aload_n C dL_law_552 rfl 0 rfl ?_
  refine z_iload_n C dL_law_553 rfl 3 rfl ?_
  refine z_iconst C dL_law_554 (v := 2) (by decide) ?_
  refine z_iadd C dL_law_555 ?_
  obtain ⟨h6, hf⟩ := q_ck hf
  refine z_sld C hX hbl hA dL_law_556 h6 ?_
  obtain ⟨r7, hc8, hf⟩ := q_bd hf
  refine z_cVi C (st := [.int r3.2]) (c_X11_branch ho2 hc8) mw_X11_branch ml_L_62 ho2 (by decide) rfl dL_law_557 rfl rfl rfl ⟨Nat.le_of_ble_eq_true rfl, Nat.le_of_ble_eq_true rfl⟩ rfl (Nat.le_of_ble_eq_true rfl) ?_
  exact z_icmp_eq C dL_law_560 (by decide) (fun h => z_sub [0, 1, 2, 3] rfl (b_L_law_1223 C hr hk hX hbl hA hkc hK18 r7.1 o1 o2 x3 ho1 ho2 hres (q_t hf h))) (fun h => z_sub [] rfl (b_L_law_563 C hr hk hX hbl hA hkc r7.1 hres (q_f hf h)))
def f_L_law_586 (xs : Nat → Int32) (L : Nat)  (z : St)  : Option (St × Int32) :=
  some (z, 0)
theorem b_L_law_586 {p : Program} {l : Launch} {e : Env} {s : State} {m : MethodId} {below : List Frame} {meth : Method} {c : Code} {b L : Nat} {xs : Nat → Int32} {kc : Nat × Nat} {g : Ga} {A : Nat → Prop} (C : Cx l g A p s m #[Value.ref b] c cL_law 4 RL room_1 kc) (hr : meth.sig.returnType = ret) (hk : meth.locks = false) (hX : va_X b L xs s s.heap) (hbl : b < s.heap.size) (hA : ∀ q, A q → s.heap.size ≤ q) (hkc : kc.1 ≤ 600000 ∧ kc.2 ≤ 7302250)   (z : St)   {res : St × Int32} (hres : res.2 = 1) (hf : f_L_law_586 xs L  z  = some res) : Zj p l e room_1 s m #[Value.ref b] below meth c g A 4 kc (lw_Z below #[Value.ref b] s) z 586 [] [] := by
  unfold f_L_law_586 at hf
  refine z_iconst C dL_law_586 (v := 0) (by decide) ?_
  cases hf
  exact z_lawret C hr hk hA hkc hres dL_law_587
def f_L_law_565 (xs : Nat → Int32) (L : Nat) (K18 : St → Nat → Nat → Int32 → Option (St × Int32)) (z : St) (o1 : Nat) (o2 : Nat) (x3 : Int32) : Option (St × Int32) :=
  if inb (x3 + 1) L = true then (((f_X10_bound z o1 (xs (Int32.toNatClampNeg (x3 + 1)))).bind fun r2 => if inb (x3 + 1) L = true then (((f_X11_bound r2.1 o2 (xs (Int32.toNatClampNeg (x3 + 1)))).bind fun r5 => if r2.2 = r5.2 then f_L_law_1223 xs L K18 r5.1 o1 o2 x3 else f_L_law_586 xs L r5.1)) else none)) else none
theorem b_L_law_565 {p : Program} {l : Launch} {e : Env} {s : State} {m : MethodId} {below : List Frame} {meth : Method} {c : Code} {b L : Nat} {xs : Nat → Int32} {kc : Nat × Nat} {g : Ga} {A : Nat → Prop} (C : Cx l g A p s m #[Value.ref b] c cL_law 4 RL room_1 kc) (hr : meth.sig.returnType = ret) (hk : meth.locks = false) (hX : va_X b L xs s s.heap) (hbl : b < s.heap.size) (hA : ∀ q, A q → s.heap.size ≤ q) (hkc : kc.1 ≤ 600000 ∧ kc.2 ≤ 7302250) {K18 : St → Nat → Nat → Int32 → Option (St × Int32)} (hK18 : ∀ (z : St) (o1 : Nat) (o2 : Nat) (x3 : Int32) (_ : kd o1 = 10) (_ : kd o2 = 11) {res : St × Int32} (_ : res.2 = 1), K18 z o1 o2 x3 = some res → Zj p l e room_1 s m #[Value.ref b] below meth c g A 4 kc (lw_Z below #[Value.ref b] s) z 18 [(0, .ref b), (1, .ref (g.1 o1)), (2, .ref (g.1 o2)), (3, .int x3)] []) (z : St) (o1 : Nat) (o2 : Nat) (x3 : Int32) (ho1 : kd o1 = 10) (ho2 : kd o2 = 11) {res : St × Int32} (hres : res.2 = 1) (hf : f_L_law_565 xs L K18 z o1 o2 x3 = some res) : Zj p l e room_1 s m #[Value.ref b] below meth c g A 4 kc (lw_Z below #[Value.ref b] s) z 565 [(0, .ref b), (1, .ref (g.1 o1)), (2, .ref (g.1 o2)), (3, .int x3)] [] := by
  unfold f_L_law_565 at hf
  refine z_aload_n C dL_law_565 rfl 1 rfl ?_
  refine z_aload_n C dL_law_566 rfl 0 rfl ?_
  refine z_iload_n C dL_law_567 rfl 3 rfl ?_
  refine z_iconst C dL_law_568 (v := 1) (by decide) ?_
  refine z_iadd C dL_law_569 ?_
  obtain ⟨h1, hf⟩ := q_ck hf
  refine z_sld C hX hbl hA dL_law_570 h1 ?_
  obtain ⟨r2, hc3, hf⟩ := q_bd hf
  refine z_cVi C (st := []) (c_X10_bound ho1 hc3) mw_X10_bound ml_L_63 ho1 (by decide) rfl dL_law_571 rfl rfl rfl ⟨Nat.le_of_ble_eq_true rfl, Nat.le_of_ble_eq_true rfl⟩ rfl (Nat.le_of_ble_eq_true rfl) ?_
  refine z_aload_n C dL_law_574 rfl 2 rfl ?_
  refine z_aload_n C dL_law_575 rfl 0 rfl ?_
  refine z_iload_n C dL_law_576 rfl 3 rfl ?_
  refine z_iconst C dL_law_577 (v := 1) (by decide) ?_
  refine z_iadd C dL_law_578 ?_
  obtain ⟨h4, hf⟩ := q_ck hf
  refine z_sld C hX hbl hA dL_law_579 h4 ?_
  obtain ⟨r5, hc6, hf⟩ := q_bd hf
  refine z_cVi C (st := [.int r2.2]) (c_X11_bound ho2 hc6) mw_X11_bound ml_L_66 ho2 (by decide) rfl dL_law_580 rfl rfl rfl ⟨Nat.le_of_ble_eq_true rfl, Nat.le_of_ble_eq_true rfl⟩ rfl (Nat.le_of_ble_eq_true rfl) ?_
  exact z_icmp_eq C dL_law_583 (by decide) (fun h => z_sub [0, 1, 2, 3] rfl (b_L_law_1223 C hr hk hX hbl hA hkc hK18 r5.1 o1 o2 x3 ho1 ho2 hres (q_t hf h))) (fun h => z_sub [] rfl (b_L_law_586 C hr hk hX hbl hA hkc r5.1 hres (q_f hf h)))
def f_L_law_609 (xs : Nat → Int32) (L : Nat)  (z : St)  : Option (St × Int32) :=
  some (z, 0)
theorem b_L_law_609 {p : Program} {l : Launch} {e : Env} {s : State} {m : MethodId} {below : List Frame} {meth : Method} {c : Code} {b L : Nat} {xs : Nat → Int32} {kc : Nat × Nat} {g : Ga} {A : Nat → Prop} (C : Cx l g A p s m #[Value.ref b] c cL_law 4 RL room_1 kc) (hr : meth.sig.returnType = ret) (hk : meth.locks = false) (hX : va_X b L xs s s.heap) (hbl : b < s.heap.size) (hA : ∀ q, A q → s.heap.size ≤ q) (hkc : kc.1 ≤ 600000 ∧ kc.2 ≤ 7302250)   (z : St)   {res : St × Int32} (hres : res.2 = 1) (hf : f_L_law_609 xs L  z  = some res) : Zj p l e room_1 s m #[Value.ref b] below meth c g A 4 kc (lw_Z below #[Value.ref b] s) z 609 [] [] := by
  unfold f_L_law_609 at hf
  refine z_iconst C dL_law_609 (v := 0) (by decide) ?_
  cases hf
  exact z_lawret C hr hk hA hkc hres dL_law_610
def f_L_law_588 (xs : Nat → Int32) (L : Nat) (K18 : St → Nat → Nat → Int32 → Option (St × Int32)) (z : St) (o1 : Nat) (o2 : Nat) (x3 : Int32) : Option (St × Int32) :=
  if inb (x3 + 1) L = true then (((f_X10_strongest z o1 (xs (Int32.toNatClampNeg (x3 + 1)))).bind fun r2 => if inb (x3 + 1) L = true then (((f_X11_strongest r2.1 o2 (xs (Int32.toNatClampNeg (x3 + 1)))).bind fun r5 => if r2.2 = r5.2 then f_L_law_1223 xs L K18 r5.1 o1 o2 x3 else f_L_law_609 xs L r5.1)) else none)) else none
theorem b_L_law_588 {p : Program} {l : Launch} {e : Env} {s : State} {m : MethodId} {below : List Frame} {meth : Method} {c : Code} {b L : Nat} {xs : Nat → Int32} {kc : Nat × Nat} {g : Ga} {A : Nat → Prop} (C : Cx l g A p s m #[Value.ref b] c cL_law 4 RL room_1 kc) (hr : meth.sig.returnType = ret) (hk : meth.locks = false) (hX : va_X b L xs s s.heap) (hbl : b < s.heap.size) (hA : ∀ q, A q → s.heap.size ≤ q) (hkc : kc.1 ≤ 600000 ∧ kc.2 ≤ 7302250) {K18 : St → Nat → Nat → Int32 → Option (St × Int32)} (hK18 : ∀ (z : St) (o1 : Nat) (o2 : Nat) (x3 : Int32) (_ : kd o1 = 10) (_ : kd o2 = 11) {res : St × Int32} (_ : res.2 = 1), K18 z o1 o2 x3 = some res → Zj p l e room_1 s m #[Value.ref b] below meth c g A 4 kc (lw_Z below #[Value.ref b] s) z 18 [(0, .ref b), (1, .ref (g.1 o1)), (2, .ref (g.1 o2)), (3, .int x3)] []) (z : St) (o1 : Nat) (o2 : Nat) (x3 : Int32) (ho1 : kd o1 = 10) (ho2 : kd o2 = 11) {res : St × Int32} (hres : res.2 = 1) (hf : f_L_law_588 xs L K18 z o1 o2 x3 = some res) : Zj p l e room_1 s m #[Value.ref b] below meth c g A 4 kc (lw_Z below #[Value.ref b] s) z 588 [(0, .ref b), (1, .ref (g.1 o1)), (2, .ref (g.1 o2)), (3, .int x3)] [] := by
  unfold f_L_law_588 at hf
  refine z_aload_n C dL_law_588 rfl 1 rfl ?_
  refine z_aload_n C dL_law_589 rfl 0 rfl ?_
  refine z_iload_n C dL_law_590 rfl 3 rfl ?_
  refine z_iconst C dL_law_591 (v := 1) (by decide) ?_
  refine z_iadd C dL_law_592 ?_
  obtain ⟨h1, hf⟩ := q_ck hf
  refine z_sld C hX hbl hA dL_law_593 h1 ?_
  obtain ⟨r2, hc3, hf⟩ := q_bd hf
  refine z_cVi C (st := []) (c_X10_strongest ho1 hc3) mw_X10_strongest ml_L_67 ho1 (by decide) rfl dL_law_594 rfl rfl rfl ⟨Nat.le_of_ble_eq_true rfl, Nat.le_of_ble_eq_true rfl⟩ rfl (Nat.le_of_ble_eq_true rfl) ?_
  refine z_aload_n C dL_law_597 rfl 2 rfl ?_
  refine z_aload_n C dL_law_598 rfl 0 rfl ?_
  refine z_iload_n C dL_law_599 rfl 3 rfl ?_
  refine z_iconst C dL_law_600 (v := 1) (by decide) ?_
  refine z_iadd C dL_law_601 ?_
  obtain ⟨h4, hf⟩ := q_ck hf
  refine z_sld C hX hbl hA dL_law_602 h4 ?_
  obtain ⟨r5, hc6, hf⟩ := q_bd hf
  refine z_cVi C (st := [.int r2.2]) (c_X11_strongest ho2 hc6) mw_X11_strongest ml_L_70 ho2 (by decide) rfl dL_law_603 rfl rfl rfl ⟨Nat.le_of_ble_eq_true rfl, Nat.le_of_ble_eq_true rfl⟩ rfl (Nat.le_of_ble_eq_true rfl) ?_
  exact z_icmp_eq C dL_law_606 (by decide) (fun h => z_sub [0, 1, 2, 3] rfl (b_L_law_1223 C hr hk hX hbl hA hkc hK18 r5.1 o1 o2 x3 ho1 ho2 hres (q_t hf h))) (fun h => z_sub [] rfl (b_L_law_609 C hr hk hX hbl hA hkc r5.1 hres (q_f hf h)))
def f_L_law_632 (xs : Nat → Int32) (L : Nat)  (z : St)  : Option (St × Int32) :=
  some (z, 0)
theorem b_L_law_632 {p : Program} {l : Launch} {e : Env} {s : State} {m : MethodId} {below : List Frame} {meth : Method} {c : Code} {b L : Nat} {xs : Nat → Int32} {kc : Nat × Nat} {g : Ga} {A : Nat → Prop} (C : Cx l g A p s m #[Value.ref b] c cL_law 4 RL room_1 kc) (hr : meth.sig.returnType = ret) (hk : meth.locks = false) (hX : va_X b L xs s s.heap) (hbl : b < s.heap.size) (hA : ∀ q, A q → s.heap.size ≤ q) (hkc : kc.1 ≤ 600000 ∧ kc.2 ≤ 7302250)   (z : St)   {res : St × Int32} (hres : res.2 = 1) (hf : f_L_law_632 xs L  z  = some res) : Zj p l e room_1 s m #[Value.ref b] below meth c g A 4 kc (lw_Z below #[Value.ref b] s) z 632 [] [] := by
  unfold f_L_law_632 at hf
  refine z_iconst C dL_law_632 (v := 0) (by decide) ?_
  cases hf
  exact z_lawret C hr hk hA hkc hres dL_law_633
def f_L_law_611 (xs : Nat → Int32) (L : Nat) (K18 : St → Nat → Nat → Int32 → Option (St × Int32)) (z : St) (o1 : Nat) (o2 : Nat) (x3 : Int32) : Option (St × Int32) :=
  if inb (x3 + 1) L = true then (((f_X10_least z o1 (xs (Int32.toNatClampNeg (x3 + 1)))).bind fun r2 => if inb (x3 + 1) L = true then (((f_X11_least r2.1 o2 (xs (Int32.toNatClampNeg (x3 + 1)))).bind fun r5 => if r2.2 = r5.2 then f_L_law_1223 xs L K18 r5.1 o1 o2 x3 else f_L_law_632 xs L r5.1)) else none)) else none
theorem b_L_law_611 {p : Program} {l : Launch} {e : Env} {s : State} {m : MethodId} {below : List Frame} {meth : Method} {c : Code} {b L : Nat} {xs : Nat → Int32} {kc : Nat × Nat} {g : Ga} {A : Nat → Prop} (C : Cx l g A p s m #[Value.ref b] c cL_law 4 RL room_1 kc) (hr : meth.sig.returnType = ret) (hk : meth.locks = false) (hX : va_X b L xs s s.heap) (hbl : b < s.heap.size) (hA : ∀ q, A q → s.heap.size ≤ q) (hkc : kc.1 ≤ 600000 ∧ kc.2 ≤ 7302250) {K18 : St → Nat → Nat → Int32 → Option (St × Int32)} (hK18 : ∀ (z : St) (o1 : Nat) (o2 : Nat) (x3 : Int32) (_ : kd o1 = 10) (_ : kd o2 = 11) {res : St × Int32} (_ : res.2 = 1), K18 z o1 o2 x3 = some res → Zj p l e room_1 s m #[Value.ref b] below meth c g A 4 kc (lw_Z below #[Value.ref b] s) z 18 [(0, .ref b), (1, .ref (g.1 o1)), (2, .ref (g.1 o2)), (3, .int x3)] []) (z : St) (o1 : Nat) (o2 : Nat) (x3 : Int32) (ho1 : kd o1 = 10) (ho2 : kd o2 = 11) {res : St × Int32} (hres : res.2 = 1) (hf : f_L_law_611 xs L K18 z o1 o2 x3 = some res) : Zj p l e room_1 s m #[Value.ref b] below meth c g A 4 kc (lw_Z below #[Value.ref b] s) z 611 [(0, .ref b), (1, .ref (g.1 o1)), (2, .ref (g.1 o2)), (3, .int x3)] [] := by
  unfold f_L_law_611 at hf
  refine z_aload_n C dL_law_611 rfl 1 rfl ?_
  refine z_aload_n C dL_law_612 rfl 0 rfl ?_
  refine z_iload_n C dL_law_613 rfl 3 rfl ?_
  refine z_iconst C dL_law_614 (v := 1) (by decide) ?_
  refine z_iadd C dL_law_615 ?_
  obtain ⟨h1, hf⟩ := q_ck hf
  refine z_sld C hX hbl hA dL_law_616 h1 ?_
  obtain ⟨r2, hc3, hf⟩ := q_bd hf
  refine z_cVi C (st := []) (c_X10_least ho1 hc3) mw_X10_least ml_L_71 ho1 (by decide) rfl dL_law_617 rfl rfl rfl ⟨Nat.le_of_ble_eq_true rfl, Nat.le_of_ble_eq_true rfl⟩ rfl (Nat.le_of_ble_eq_true rfl) ?_
  refine z_aload_n C dL_law_620 rfl 2 rfl ?_
  refine z_aload_n C dL_law_621 rfl 0 rfl ?_
  refine z_iload_n C dL_law_622 rfl 3 rfl ?_
  refine z_iconst C dL_law_623 (v := 1) (by decide) ?_
  refine z_iadd C dL_law_624 ?_
  obtain ⟨h4, hf⟩ := q_ck hf
  refine z_sld C hX hbl hA dL_law_625 h4 ?_
  obtain ⟨r5, hc6, hf⟩ := q_bd hf
  refine z_cVi C (st := [.int r2.2]) (c_X11_least ho2 hc6) mw_X11_least ml_L_74 ho2 (by decide) rfl dL_law_626 rfl rfl rfl ⟨Nat.le_of_ble_eq_true rfl, Nat.le_of_ble_eq_true rfl⟩ rfl (Nat.le_of_ble_eq_true rfl) ?_
  exact z_icmp_eq C dL_law_629 (by decide) (fun h => z_sub [0, 1, 2, 3] rfl (b_L_law_1223 C hr hk hX hbl hA hkc hK18 r5.1 o1 o2 x3 ho1 ho2 hres (q_t hf h))) (fun h => z_sub [] rfl (b_L_law_632 C hr hk hX hbl hA hkc r5.1 hres (q_f hf h)))
def f_L_law_645 (xs : Nat → Int32) (L : Nat)  (z : St)  : Option (St × Int32) :=
  some (z, 0)
theorem b_L_law_645 {p : Program} {l : Launch} {e : Env} {s : State} {m : MethodId} {below : List Frame} {meth : Method} {c : Code} {b L : Nat} {xs : Nat → Int32} {kc : Nat × Nat} {g : Ga} {A : Nat → Prop} (C : Cx l g A p s m #[Value.ref b] c cL_law 4 RL room_1 kc) (hr : meth.sig.returnType = ret) (hk : meth.locks = false) (hX : va_X b L xs s s.heap) (hbl : b < s.heap.size) (hA : ∀ q, A q → s.heap.size ≤ q) (hkc : kc.1 ≤ 600000 ∧ kc.2 ≤ 7302250)   (z : St)   {res : St × Int32} (hres : res.2 = 1) (hf : f_L_law_645 xs L  z  = some res) : Zj p l e room_1 s m #[Value.ref b] below meth c g A 4 kc (lw_Z below #[Value.ref b] s) z 645 [] [] := by
  unfold f_L_law_645 at hf
  refine z_iconst C dL_law_645 (v := 0) (by decide) ?_
  cases hf
  exact z_lawret C hr hk hA hkc hres dL_law_646
def f_L_law_634 (xs : Nat → Int32) (L : Nat) (K18 : St → Nat → Nat → Int32 → Option (St × Int32)) (z : St) (o1 : Nat) (o2 : Nat) (x3 : Int32) : Option (St × Int32) :=
  ((f_X10_many z o1).bind fun r1 => ((f_X11_many_ r1.1 o2).bind fun r3 => if r1.2 = r3.2 then f_L_law_1223 xs L K18 r3.1 o1 o2 x3 else f_L_law_645 xs L r3.1))
theorem b_L_law_634 {p : Program} {l : Launch} {e : Env} {s : State} {m : MethodId} {below : List Frame} {meth : Method} {c : Code} {b L : Nat} {xs : Nat → Int32} {kc : Nat × Nat} {g : Ga} {A : Nat → Prop} (C : Cx l g A p s m #[Value.ref b] c cL_law 4 RL room_1 kc) (hr : meth.sig.returnType = ret) (hk : meth.locks = false) (hX : va_X b L xs s s.heap) (hbl : b < s.heap.size) (hA : ∀ q, A q → s.heap.size ≤ q) (hkc : kc.1 ≤ 600000 ∧ kc.2 ≤ 7302250) {K18 : St → Nat → Nat → Int32 → Option (St × Int32)} (hK18 : ∀ (z : St) (o1 : Nat) (o2 : Nat) (x3 : Int32) (_ : kd o1 = 10) (_ : kd o2 = 11) {res : St × Int32} (_ : res.2 = 1), K18 z o1 o2 x3 = some res → Zj p l e room_1 s m #[Value.ref b] below meth c g A 4 kc (lw_Z below #[Value.ref b] s) z 18 [(0, .ref b), (1, .ref (g.1 o1)), (2, .ref (g.1 o2)), (3, .int x3)] []) (z : St) (o1 : Nat) (o2 : Nat) (x3 : Int32) (ho1 : kd o1 = 10) (ho2 : kd o2 = 11) {res : St × Int32} (hres : res.2 = 1) (hf : f_L_law_634 xs L K18 z o1 o2 x3 = some res) : Zj p l e room_1 s m #[Value.ref b] below meth c g A 4 kc (lw_Z below #[Value.ref b] s) z 634 [(0, .ref b), (1, .ref (g.1 o1)), (2, .ref (g.1 o2)), (3, .int x3)] [] := by
  unfold f_L_law_634 at hf
  refine z_aload_n C dL_law_634 rfl 1 rfl ?_
  obtain ⟨r1, hc2, hf⟩ := q_bd hf
  refine z_cVi C (st := []) (c_X10_many ho1 hc2) mw_X10_many ml_L_75 ho1 (by decide) rfl dL_law_635 rfl rfl rfl ⟨Nat.le_of_ble_eq_true rfl, Nat.le_of_ble_eq_true rfl⟩ rfl (Nat.le_of_ble_eq_true rfl) ?_
  refine z_aload_n C dL_law_638 rfl 2 rfl ?_
  obtain ⟨r3, hc4, hf⟩ := q_bd hf
  refine z_cVi C (st := [.int r1.2]) (c_X11_many_ ho2 hc4) mw_X11_many_ ml_L_78 ho2 (by decide) rfl dL_law_639 rfl rfl rfl ⟨Nat.le_of_ble_eq_true rfl, Nat.le_of_ble_eq_true rfl⟩ rfl (Nat.le_of_ble_eq_true rfl) ?_
  exact z_icmp_eq C dL_law_642 (by decide) (fun h => z_sub [0, 1, 2, 3] rfl (b_L_law_1223 C hr hk hX hbl hA hkc hK18 r3.1 o1 o2 x3 ho1 ho2 hres (q_t hf h))) (fun h => z_sub [] rfl (b_L_law_645 C hr hk hX hbl hA hkc r3.1 hres (q_f hf h)))
def f_L_law_668 (xs : Nat → Int32) (L : Nat)  (z : St)  : Option (St × Int32) :=
  some (z, 0)
theorem b_L_law_668 {p : Program} {l : Launch} {e : Env} {s : State} {m : MethodId} {below : List Frame} {meth : Method} {c : Code} {b L : Nat} {xs : Nat → Int32} {kc : Nat × Nat} {g : Ga} {A : Nat → Prop} (C : Cx l g A p s m #[Value.ref b] c cL_law 4 RL room_1 kc) (hr : meth.sig.returnType = ret) (hk : meth.locks = false) (hX : va_X b L xs s s.heap) (hbl : b < s.heap.size) (hA : ∀ q, A q → s.heap.size ≤ q) (hkc : kc.1 ≤ 600000 ∧ kc.2 ≤ 7302250)   (z : St)   {res : St × Int32} (hres : res.2 = 1) (hf : f_L_law_668 xs L  z  = some res) : Zj p l e room_1 s m #[Value.ref b] below meth c g A 4 kc (lw_Z below #[Value.ref b] s) z 668 [] [] := by
  unfold f_L_law_668 at hf
  refine z_iconst C dL_law_668 (v := 0) (by decide) ?_
  cases hf
  exact z_lawret C hr hk hA hkc hres dL_law_669
def f_L_law_647 (xs : Nat → Int32) (L : Nat) (K18 : St → Nat → Nat → Int32 → Option (St × Int32)) (z : St) (o1 : Nat) (o2 : Nat) (x3 : Int32) : Option (St × Int32) :=
  if inb (x3 + 1) L = true then (((f_X10_order z o1 (xs (Int32.toNatClampNeg (x3 + 1)))).bind fun r2 => if inb (x3 + 1) L = true then (((f_X11_order r2.1 o2 (xs (Int32.toNatClampNeg (x3 + 1)))).bind fun r5 => if r2.2 = r5.2 then f_L_law_1223 xs L K18 r5.1 o1 o2 x3 else f_L_law_668 xs L r5.1)) else none)) else none
theorem b_L_law_647 {p : Program} {l : Launch} {e : Env} {s : State} {m : MethodId} {below : List Frame} {meth : Method} {c : Code} {b L : Nat} {xs : Nat → Int32} {kc : Nat × Nat} {g : Ga} {A : Nat → Prop} (C : Cx l g A p s m #[Value.ref b] c cL_law 4 RL room_1 kc) (hr : meth.sig.returnType = ret) (hk : meth.locks = false) (hX : va_X b L xs s s.heap) (hbl : b < s.heap.size) (hA : ∀ q, A q → s.heap.size ≤ q) (hkc : kc.1 ≤ 600000 ∧ kc.2 ≤ 7302250) {K18 : St → Nat → Nat → Int32 → Option (St × Int32)} (hK18 : ∀ (z : St) (o1 : Nat) (o2 : Nat) (x3 : Int32) (_ : kd o1 = 10) (_ : kd o2 = 11) {res : St × Int32} (_ : res.2 = 1), K18 z o1 o2 x3 = some res → Zj p l e room_1 s m #[Value.ref b] below meth c g A 4 kc (lw_Z below #[Value.ref b] s) z 18 [(0, .ref b), (1, .ref (g.1 o1)), (2, .ref (g.1 o2)), (3, .int x3)] []) (z : St) (o1 : Nat) (o2 : Nat) (x3 : Int32) (ho1 : kd o1 = 10) (ho2 : kd o2 = 11) {res : St × Int32} (hres : res.2 = 1) (hf : f_L_law_647 xs L K18 z o1 o2 x3 = some res) : Zj p l e room_1 s m #[Value.ref b] below meth c g A 4 kc (lw_Z below #[Value.ref b] s) z 647 [(0, .ref b), (1, .ref (g.1 o1)), (2, .ref (g.1 o2)), (3, .int x3)] [] := by
  unfold f_L_law_647 at hf
  refine z_aload_n C dL_law_647 rfl 1 rfl ?_
  refine z_aload_n C dL_law_648 rfl 0 rfl ?_
  refine z_iload_n C dL_law_649 rfl 3 rfl ?_
  refine z_iconst C dL_law_650 (v := 1) (by decide) ?_
  refine z_iadd C dL_law_651 ?_
  obtain ⟨h1, hf⟩ := q_ck hf
  refine z_sld C hX hbl hA dL_law_652 h1 ?_
  obtain ⟨r2, hc3, hf⟩ := q_bd hf
  refine z_cVi C (st := []) (c_X10_order ho1 hc3) mw_X10_order ml_L_79 ho1 (by decide) rfl dL_law_653 rfl rfl rfl ⟨Nat.le_of_ble_eq_true rfl, Nat.le_of_ble_eq_true rfl⟩ rfl (Nat.le_of_ble_eq_true rfl) ?_
  refine z_aload_n C dL_law_656 rfl 2 rfl ?_
  refine z_aload_n C dL_law_657 rfl 0 rfl ?_
  refine z_iload_n C dL_law_658 rfl 3 rfl ?_
  refine z_iconst C dL_law_659 (v := 1) (by decide) ?_
  refine z_iadd C dL_law_660 ?_
  obtain ⟨h4, hf⟩ := q_ck hf
  refine z_sld C hX hbl hA dL_law_661 h4 ?_
  obtain ⟨r5, hc6, hf⟩ := q_bd hf
  refine z_cVi C (st := [.int r2.2]) (c_X11_order ho2 hc6) mw_X11_order ml_L_82 ho2 (by decide) rfl dL_law_662 rfl rfl rfl ⟨Nat.le_of_ble_eq_true rfl, Nat.le_of_ble_eq_true rfl⟩ rfl (Nat.le_of_ble_eq_true rfl) ?_
  exact z_icmp_eq C dL_law_665 (by decide) (fun h => z_sub [0, 1, 2, 3] rfl (b_L_law_1223 C hr hk hX hbl hA hkc hK18 r5.1 o1 o2 x3 ho1 ho2 hres (q_t hf h))) (fun h => z_sub [] rfl (b_L_law_668 C hr hk hX hbl hA hkc r5.1 hres (q_f hf h)))
def f_L_law_691 (xs : Nat → Int32) (L : Nat)  (z : St)  : Option (St × Int32) :=
  some (z, 0)
theorem b_L_law_691 {p : Program} {l : Launch} {e : Env} {s : State} {m : MethodId} {below : List Frame} {meth : Method} {c : Code} {b L : Nat} {xs : Nat → Int32} {kc : Nat × Nat} {g : Ga} {A : Nat → Prop} (C : Cx l g A p s m #[Value.ref b] c cL_law 4 RL room_1 kc) (hr : meth.sig.returnType = ret) (hk : meth.locks = false) (hX : va_X b L xs s s.heap) (hbl : b < s.heap.size) (hA : ∀ q, A q → s.heap.size ≤ q) (hkc : kc.1 ≤ 600000 ∧ kc.2 ≤ 7302250)   (z : St)   {res : St × Int32} (hres : res.2 = 1) (hf : f_L_law_691 xs L  z  = some res) : Zj p l e room_1 s m #[Value.ref b] below meth c g A 4 kc (lw_Z below #[Value.ref b] s) z 691 [] [] := by
  unfold f_L_law_691 at hf
  refine z_iconst C dL_law_691 (v := 0) (by decide) ?_
  cases hf
  exact z_lawret C hr hk hA hkc hres dL_law_692
def f_L_law_670 (xs : Nat → Int32) (L : Nat) (K18 : St → Nat → Nat → Int32 → Option (St × Int32)) (z : St) (o1 : Nat) (o2 : Nat) (x3 : Int32) : Option (St × Int32) :=
  if inb (x3 + 1) L = true then (((f_X10_must z o1 (xs (Int32.toNatClampNeg (x3 + 1)))).bind fun r2 => if inb (x3 + 1) L = true then (((f_X11_must r2.1 o2 (xs (Int32.toNatClampNeg (x3 + 1)))).bind fun r5 => if r2.2 = r5.2 then f_L_law_1223 xs L K18 r5.1 o1 o2 x3 else f_L_law_691 xs L r5.1)) else none)) else none
theorem b_L_law_670 {p : Program} {l : Launch} {e : Env} {s : State} {m : MethodId} {below : List Frame} {meth : Method} {c : Code} {b L : Nat} {xs : Nat → Int32} {kc : Nat × Nat} {g : Ga} {A : Nat → Prop} (C : Cx l g A p s m #[Value.ref b] c cL_law 4 RL room_1 kc) (hr : meth.sig.returnType = ret) (hk : meth.locks = false) (hX : va_X b L xs s s.heap) (hbl : b < s.heap.size) (hA : ∀ q, A q → s.heap.size ≤ q) (hkc : kc.1 ≤ 600000 ∧ kc.2 ≤ 7302250) {K18 : St → Nat → Nat → Int32 → Option (St × Int32)} (hK18 : ∀ (z : St) (o1 : Nat) (o2 : Nat) (x3 : Int32) (_ : kd o1 = 10) (_ : kd o2 = 11) {res : St × Int32} (_ : res.2 = 1), K18 z o1 o2 x3 = some res → Zj p l e room_1 s m #[Value.ref b] below meth c g A 4 kc (lw_Z below #[Value.ref b] s) z 18 [(0, .ref b), (1, .ref (g.1 o1)), (2, .ref (g.1 o2)), (3, .int x3)] []) (z : St) (o1 : Nat) (o2 : Nat) (x3 : Int32) (ho1 : kd o1 = 10) (ho2 : kd o2 = 11) {res : St × Int32} (hres : res.2 = 1) (hf : f_L_law_670 xs L K18 z o1 o2 x3 = some res) : Zj p l e room_1 s m #[Value.ref b] below meth c g A 4 kc (lw_Z below #[Value.ref b] s) z 670 [(0, .ref b), (1, .ref (g.1 o1)), (2, .ref (g.1 o2)), (3, .int x3)] [] := by
  unfold f_L_law_670 at hf
  refine z_aload_n C dL_law_670 rfl 1 rfl ?_
  refine z_aload_n C dL_law_671 rfl 0 rfl ?_
  refine z_iload_n C dL_law_672 rfl 3 rfl ?_
  refine z_iconst C dL_law_673 (v := 1) (by decide) ?_
  refine z_iadd C dL_law_674 ?_
  obtain ⟨h1, hf⟩ := q_ck hf
  refine z_sld C hX hbl hA dL_law_675 h1 ?_
  obtain ⟨r2, hc3, hf⟩ := q_bd hf
  refine z_cVi C (st := []) (c_X10_must ho1 hc3) mw_X10_must ml_L_83 ho1 (by decide) rfl dL_law_676 rfl rfl rfl ⟨Nat.le_of_ble_eq_true rfl, Nat.le_of_ble_eq_true rfl⟩ rfl (Nat.le_of_ble_eq_true rfl) ?_
  refine z_aload_n C dL_law_679 rfl 2 rfl ?_
  refine z_aload_n C dL_law_680 rfl 0 rfl ?_
  refine z_iload_n C dL_law_681 rfl 3 rfl ?_
  refine z_iconst C dL_law_682 (v := 1) (by decide) ?_
  refine z_iadd C dL_law_683 ?_
  obtain ⟨h4, hf⟩ := q_ck hf
  refine z_sld C hX hbl hA dL_law_684 h4 ?_
  obtain ⟨r5, hc6, hf⟩ := q_bd hf
  refine z_cVi C (st := [.int r2.2]) (c_X11_must ho2 hc6) mw_X11_must ml_L_86 ho2 (by decide) rfl dL_law_685 rfl rfl rfl ⟨Nat.le_of_ble_eq_true rfl, Nat.le_of_ble_eq_true rfl⟩ rfl (Nat.le_of_ble_eq_true rfl) ?_
  exact z_icmp_eq C dL_law_688 (by decide) (fun h => z_sub [0, 1, 2, 3] rfl (b_L_law_1223 C hr hk hX hbl hA hkc hK18 r5.1 o1 o2 x3 ho1 ho2 hres (q_t hf h))) (fun h => z_sub [] rfl (b_L_law_691 C hr hk hX hbl hA hkc r5.1 hres (q_f hf h)))
def f_L_law_714 (xs : Nat → Int32) (L : Nat)  (z : St)  : Option (St × Int32) :=
  some (z, 0)
theorem b_L_law_714 {p : Program} {l : Launch} {e : Env} {s : State} {m : MethodId} {below : List Frame} {meth : Method} {c : Code} {b L : Nat} {xs : Nat → Int32} {kc : Nat × Nat} {g : Ga} {A : Nat → Prop} (C : Cx l g A p s m #[Value.ref b] c cL_law 4 RL room_1 kc) (hr : meth.sig.returnType = ret) (hk : meth.locks = false) (hX : va_X b L xs s s.heap) (hbl : b < s.heap.size) (hA : ∀ q, A q → s.heap.size ≤ q) (hkc : kc.1 ≤ 600000 ∧ kc.2 ≤ 7302250)   (z : St)   {res : St × Int32} (hres : res.2 = 1) (hf : f_L_law_714 xs L  z  = some res) : Zj p l e room_1 s m #[Value.ref b] below meth c g A 4 kc (lw_Z below #[Value.ref b] s) z 714 [] [] := by
  unfold f_L_law_714 at hf
  refine z_iconst C dL_law_714 (v := 0) (by decide) ?_
  cases hf
  exact z_lawret C hr hk hA hkc hres dL_law_715
def f_L_law_693 (xs : Nat → Int32) (L : Nat) (K18 : St → Nat → Nat → Int32 → Option (St × Int32)) (z : St) (o1 : Nat) (o2 : Nat) (x3 : Int32) : Option (St × Int32) :=
  if inb (x3 + 1) L = true then (((f_X10_room z o1 (xs (Int32.toNatClampNeg (x3 + 1)))).bind fun r2 => if inb (x3 + 1) L = true then (((f_X11_room r2.1 o2 (xs (Int32.toNatClampNeg (x3 + 1)))).bind fun r5 => if r2.2 = r5.2 then f_L_law_1223 xs L K18 r5.1 o1 o2 x3 else f_L_law_714 xs L r5.1)) else none)) else none
theorem b_L_law_693 {p : Program} {l : Launch} {e : Env} {s : State} {m : MethodId} {below : List Frame} {meth : Method} {c : Code} {b L : Nat} {xs : Nat → Int32} {kc : Nat × Nat} {g : Ga} {A : Nat → Prop} (C : Cx l g A p s m #[Value.ref b] c cL_law 4 RL room_1 kc) (hr : meth.sig.returnType = ret) (hk : meth.locks = false) (hX : va_X b L xs s s.heap) (hbl : b < s.heap.size) (hA : ∀ q, A q → s.heap.size ≤ q) (hkc : kc.1 ≤ 600000 ∧ kc.2 ≤ 7302250) {K18 : St → Nat → Nat → Int32 → Option (St × Int32)} (hK18 : ∀ (z : St) (o1 : Nat) (o2 : Nat) (x3 : Int32) (_ : kd o1 = 10) (_ : kd o2 = 11) {res : St × Int32} (_ : res.2 = 1), K18 z o1 o2 x3 = some res → Zj p l e room_1 s m #[Value.ref b] below meth c g A 4 kc (lw_Z below #[Value.ref b] s) z 18 [(0, .ref b), (1, .ref (g.1 o1)), (2, .ref (g.1 o2)), (3, .int x3)] []) (z : St) (o1 : Nat) (o2 : Nat) (x3 : Int32) (ho1 : kd o1 = 10) (ho2 : kd o2 = 11) {res : St × Int32} (hres : res.2 = 1) (hf : f_L_law_693 xs L K18 z o1 o2 x3 = some res) : Zj p l e room_1 s m #[Value.ref b] below meth c g A 4 kc (lw_Z below #[Value.ref b] s) z 693 [(0, .ref b), (1, .ref (g.1 o1)), (2, .ref (g.1 o2)), (3, .int x3)] [] := by
  unfold f_L_law_693 at hf
  refine z_aload_n C dL_law_693 rfl 1 rfl ?_
  refine z_aload_n C dL_law_694 rfl 0 rfl ?_
  refine z_iload_n C dL_law_695 rfl 3 rfl ?_
  refine z_iconst C dL_law_696 (v := 1) (by decide) ?_
  refine z_iadd C dL_law_697 ?_
  obtain ⟨h1, hf⟩ := q_ck hf
  refine z_sld C hX hbl hA dL_law_698 h1 ?_
  obtain ⟨r2, hc3, hf⟩ := q_bd hf
  refine z_cVi C (st := []) (c_X10_room ho1 hc3) mw_X10_room ml_L_87 ho1 (by decide) rfl dL_law_699 rfl rfl rfl ⟨Nat.le_of_ble_eq_true rfl, Nat.le_of_ble_eq_true rfl⟩ rfl (Nat.le_of_ble_eq_true rfl) ?_
  refine z_aload_n C dL_law_702 rfl 2 rfl ?_
  refine z_aload_n C dL_law_703 rfl 0 rfl ?_
  refine z_iload_n C dL_law_704 rfl 3 rfl ?_
  refine z_iconst C dL_law_705 (v := 1) (by decide) ?_
  refine z_iadd C dL_law_706 ?_
  obtain ⟨h4, hf⟩ := q_ck hf
  refine z_sld C hX hbl hA dL_law_707 h4 ?_
  obtain ⟨r5, hc6, hf⟩ := q_bd hf
  refine z_cVi C (st := [.int r2.2]) (c_X11_room ho2 hc6) mw_X11_room ml_L_90 ho2 (by decide) rfl dL_law_708 rfl rfl rfl ⟨Nat.le_of_ble_eq_true rfl, Nat.le_of_ble_eq_true rfl⟩ rfl (Nat.le_of_ble_eq_true rfl) ?_
  exact z_icmp_eq C dL_law_711 (by decide) (fun h => z_sub [0, 1, 2, 3] rfl (b_L_law_1223 C hr hk hX hbl hA hkc hK18 r5.1 o1 o2 x3 ho1 ho2 hres (q_t hf h))) (fun h => z_sub [] rfl (b_L_law_714 C hr hk hX hbl hA hkc r5.1 hres (q_f hf h)))
def f_L_law_737 (xs : Nat → Int32) (L : Nat)  (z : St)  : Option (St × Int32) :=
  some (z, 0)
theorem b_L_law_737 {p : Program} {l : Launch} {e : Env} {s : State} {m : MethodId} {below : List Frame} {meth : Method} {c : Code} {b L : Nat} {xs : Nat → Int32} {kc : Nat × Nat} {g : Ga} {A : Nat → Prop} (C : Cx l g A p s m #[Value.ref b] c cL_law 4 RL room_1 kc) (hr : meth.sig.returnType = ret) (hk : meth.locks = false) (hX : va_X b L xs s s.heap) (hbl : b < s.heap.size) (hA : ∀ q, A q → s.heap.size ≤ q) (hkc : kc.1 ≤ 600000 ∧ kc.2 ≤ 7302250)   (z : St)   {res : St × Int32} (hres : res.2 = 1) (hf : f_L_law_737 xs L  z  = some res) : Zj p l e room_1 s m #[Value.ref b] below meth c g A 4 kc (lw_Z below #[Value.ref b] s) z 737 [] [] := by
  unfold f_L_law_737 at hf
  refine z_iconst C dL_law_737 (v := 0) (by decide) ?_
  cases hf
  exact z_lawret C hr hk hA hkc hres dL_law_738
def f_L_law_716 (xs : Nat → Int32) (L : Nat) (K18 : St → Nat → Nat → Int32 → Option (St × Int32)) (z : St) (o1 : Nat) (o2 : Nat) (x3 : Int32) : Option (St × Int32) :=
  if inb (x3 + 1) L = true then (((f_X10_gain z o1 (xs (Int32.toNatClampNeg (x3 + 1)))).bind fun r2 => if inb (x3 + 1) L = true then (((f_X11_gain r2.1 o2 (xs (Int32.toNatClampNeg (x3 + 1)))).bind fun r5 => if r2.2 = r5.2 then f_L_law_1223 xs L K18 r5.1 o1 o2 x3 else f_L_law_737 xs L r5.1)) else none)) else none
theorem b_L_law_716 {p : Program} {l : Launch} {e : Env} {s : State} {m : MethodId} {below : List Frame} {meth : Method} {c : Code} {b L : Nat} {xs : Nat → Int32} {kc : Nat × Nat} {g : Ga} {A : Nat → Prop} (C : Cx l g A p s m #[Value.ref b] c cL_law 4 RL room_1 kc) (hr : meth.sig.returnType = ret) (hk : meth.locks = false) (hX : va_X b L xs s s.heap) (hbl : b < s.heap.size) (hA : ∀ q, A q → s.heap.size ≤ q) (hkc : kc.1 ≤ 600000 ∧ kc.2 ≤ 7302250) {K18 : St → Nat → Nat → Int32 → Option (St × Int32)} (hK18 : ∀ (z : St) (o1 : Nat) (o2 : Nat) (x3 : Int32) (_ : kd o1 = 10) (_ : kd o2 = 11) {res : St × Int32} (_ : res.2 = 1), K18 z o1 o2 x3 = some res → Zj p l e room_1 s m #[Value.ref b] below meth c g A 4 kc (lw_Z below #[Value.ref b] s) z 18 [(0, .ref b), (1, .ref (g.1 o1)), (2, .ref (g.1 o2)), (3, .int x3)] []) (z : St) (o1 : Nat) (o2 : Nat) (x3 : Int32) (ho1 : kd o1 = 10) (ho2 : kd o2 = 11) {res : St × Int32} (hres : res.2 = 1) (hf : f_L_law_716 xs L K18 z o1 o2 x3 = some res) : Zj p l e room_1 s m #[Value.ref b] below meth c g A 4 kc (lw_Z below #[Value.ref b] s) z 716 [(0, .ref b), (1, .ref (g.1 o1)), (2, .ref (g.1 o2)), (3, .int x3)] [] := by
  unfold f_L_law_716 at hf
  refine z_aload_n C dL_law_716 rfl 1 rfl ?_
  refine z_aload_n C dL_law_717 rfl 0 rfl ?_
  refine z_iload_n C dL_law_718 rfl 3 rfl ?_
  refine z_iconst C dL_law_719 (v := 1) (by decide) ?_
  refine z_iadd C dL_law_720 ?_
  obtain ⟨h1, hf⟩ := q_ck hf
  refine z_sld C hX hbl hA dL_law_721 h1 ?_
  obtain ⟨r2, hc3, hf⟩ := q_bd hf
  refine z_cVi C (st := []) (c_X10_gain ho1 hc3) mw_X10_gain ml_L_91 ho1 (by decide) rfl dL_law_722 rfl rfl rfl ⟨Nat.le_of_ble_eq_true rfl, Nat.le_of_ble_eq_true rfl⟩ rfl (Nat.le_of_ble_eq_true rfl) ?_
  refine z_aload_n C dL_law_725 rfl 2 rfl ?_
  refine z_aload_n C dL_law_726 rfl 0 rfl ?_
  refine z_iload_n C dL_law_727 rfl 3 rfl ?_
  refine z_iconst C dL_law_728 (v := 1) (by decide) ?_
  refine z_iadd C dL_law_729 ?_
  obtain ⟨h4, hf⟩ := q_ck hf
  refine z_sld C hX hbl hA dL_law_730 h4 ?_
  obtain ⟨r5, hc6, hf⟩ := q_bd hf
  refine z_cVi C (st := [.int r2.2]) (c_X11_gain ho2 hc6) mw_X11_gain ml_L_94 ho2 (by decide) rfl dL_law_731 rfl rfl rfl ⟨Nat.le_of_ble_eq_true rfl, Nat.le_of_ble_eq_true rfl⟩ rfl (Nat.le_of_ble_eq_true rfl) ?_
  exact z_icmp_eq C dL_law_734 (by decide) (fun h => z_sub [0, 1, 2, 3] rfl (b_L_law_1223 C hr hk hX hbl hA hkc hK18 r5.1 o1 o2 x3 ho1 ho2 hres (q_t hf h))) (fun h => z_sub [] rfl (b_L_law_737 C hr hk hX hbl hA hkc r5.1 hres (q_f hf h)))
def f_L_law_771 (xs : Nat → Int32) (L : Nat)  (z : St)  : Option (St × Int32) :=
  some (z, 0)
theorem b_L_law_771 {p : Program} {l : Launch} {e : Env} {s : State} {m : MethodId} {below : List Frame} {meth : Method} {c : Code} {b L : Nat} {xs : Nat → Int32} {kc : Nat × Nat} {g : Ga} {A : Nat → Prop} (C : Cx l g A p s m #[Value.ref b] c cL_law 4 RL room_1 kc) (hr : meth.sig.returnType = ret) (hk : meth.locks = false) (hX : va_X b L xs s s.heap) (hbl : b < s.heap.size) (hA : ∀ q, A q → s.heap.size ≤ q) (hkc : kc.1 ≤ 600000 ∧ kc.2 ≤ 7302250)   (z : St)   {res : St × Int32} (hres : res.2 = 1) (hf : f_L_law_771 xs L  z  = some res) : Zj p l e room_1 s m #[Value.ref b] below meth c g A 4 kc (lw_Z below #[Value.ref b] s) z 771 [] [] := by
  unfold f_L_law_771 at hf
  refine z_iconst C dL_law_771 (v := 0) (by decide) ?_
  cases hf
  exact z_lawret C hr hk hA hkc hres dL_law_772
def f_L_law_739 (xs : Nat → Int32) (L : Nat) (K18 : St → Nat → Nat → Int32 → Option (St × Int32)) (z : St) (o1 : Nat) (o2 : Nat) (x3 : Int32) : Option (St × Int32) :=
  if inb (x3 + 1) L = true then (if inb (x3 + 2) L = true then (((f_X10_judge z o1 (xs (Int32.toNatClampNeg (x3 + 1))) (xs (Int32.toNatClampNeg (x3 + 2)))).bind fun r3 => if inb (x3 + 1) L = true then (if inb (x3 + 2) L = true then (((f_X11_judge r3.1 o2 (xs (Int32.toNatClampNeg (x3 + 1))) (xs (Int32.toNatClampNeg (x3 + 2)))).bind fun r7 => if (lg_cmp r3.2 r7.2) = 0 then f_L_law_1223 xs L K18 r7.1 o1 o2 x3 else f_L_law_771 xs L r7.1)) else none) else none)) else none) else none
theorem b_L_law_739 {p : Program} {l : Launch} {e : Env} {s : State} {m : MethodId} {below : List Frame} {meth : Method} {c : Code} {b L : Nat} {xs : Nat → Int32} {kc : Nat × Nat} {g : Ga} {A : Nat → Prop} (C : Cx l g A p s m #[Value.ref b] c cL_law 4 RL room_1 kc) (hr : meth.sig.returnType = ret) (hk : meth.locks = false) (hX : va_X b L xs s s.heap) (hbl : b < s.heap.size) (hA : ∀ q, A q → s.heap.size ≤ q) (hkc : kc.1 ≤ 600000 ∧ kc.2 ≤ 7302250) {K18 : St → Nat → Nat → Int32 → Option (St × Int32)} (hK18 : ∀ (z : St) (o1 : Nat) (o2 : Nat) (x3 : Int32) (_ : kd o1 = 10) (_ : kd o2 = 11) {res : St × Int32} (_ : res.2 = 1), K18 z o1 o2 x3 = some res → Zj p l e room_1 s m #[Value.ref b] below meth c g A 4 kc (lw_Z below #[Value.ref b] s) z 18 [(0, .ref b), (1, .ref (g.1 o1)), (2, .ref (g.1 o2)), (3, .int x3)] []) (z : St) (o1 : Nat) (o2 : Nat) (x3 : Int32) (ho1 : kd o1 = 10) (ho2 : kd o2 = 11) {res : St × Int32} (hres : res.2 = 1) (hf : f_L_law_739 xs L K18 z o1 o2 x3 = some res) : Zj p l e room_1 s m #[Value.ref b] below meth c g A 4 kc (lw_Z below #[Value.ref b] s) z 739 [(0, .ref b), (1, .ref (g.1 o1)), (2, .ref (g.1 o2)), (3, .int x3)] [] := by
  unfold f_L_law_739 at hf
  refine z_aload_n C dL_law_739 rfl 1 rfl ?_
  refine z_aload_n C dL_law_740 rfl 0 rfl ?_
  refine z_iload_n C dL_law_741 rfl 3 rfl ?_
  refine z_iconst C dL_law_742 (v := 1) (by decide) ?_
  refine z_iadd C dL_law_743 ?_
  obtain ⟨h1, hf⟩ := q_ck hf
  refine z_sld C hX hbl hA dL_law_744 h1 ?_
  refine z_aload_n C dL_law_745 rfl 0 rfl ?_
  refine z_iload_n C dL_law_746 rfl 3 rfl ?_
  refine z_iconst C dL_law_747 (v := 2) (by decide) ?_
  refine z_iadd C dL_law_748 ?_
  obtain ⟨h2, hf⟩ := q_ck hf
  refine z_sld C hX hbl hA dL_law_749 h2 ?_
  obtain ⟨r3, hc4, hf⟩ := q_bd hf
  refine z_cVl C (st := []) (c_X10_judge ho1 hc4) mw_X10_judge ml_L_95 ho1 (by decide) rfl dL_law_750 rfl rfl rfl ⟨Nat.le_of_ble_eq_true rfl, Nat.le_of_ble_eq_true rfl⟩ rfl (Nat.le_of_ble_eq_true rfl) ?_
  refine z_aload_n C dL_law_753 rfl 2 rfl ?_
  refine z_aload_n C dL_law_754 rfl 0 rfl ?_
  refine z_iload_n C dL_law_755 rfl 3 rfl ?_
  refine z_iconst C dL_law_756 (v := 1) (by decide) ?_
  refine z_iadd C dL_law_757 ?_
  obtain ⟨h5, hf⟩ := q_ck hf
  refine z_sld C hX hbl hA dL_law_758 h5 ?_
  refine z_aload_n C dL_law_759 rfl 0 rfl ?_
  refine z_iload_n C dL_law_760 rfl 3 rfl ?_
  refine z_iconst C dL_law_761 (v := 2) (by decide) ?_
  refine z_iadd C dL_law_762 ?_
  obtain ⟨h6, hf⟩ := q_ck hf
  refine z_sld C hX hbl hA dL_law_763 h6 ?_
  obtain ⟨r7, hc8, hf⟩ := q_bd hf
  refine z_cVl C (st := [.long r3.2]) (c_X11_judge ho2 hc8) mw_X11_judge ml_L_99 ho2 (by decide) rfl dL_law_764 rfl rfl rfl ⟨Nat.le_of_ble_eq_true rfl, Nat.le_of_ble_eq_true rfl⟩ rfl (Nat.le_of_ble_eq_true rfl) ?_
  refine z_lcmp C dL_law_767 ?_
  exact z_if_eq C dL_law_768 (by decide) (fun h => z_sub [0, 1, 2, 3] rfl (b_L_law_1223 C hr hk hX hbl hA hkc hK18 r7.1 o1 o2 x3 ho1 ho2 hres (q_t hf h))) (fun h => z_sub [] rfl (b_L_law_771 C hr hk hX hbl hA hkc r7.1 hres (q_f hf h)))
def f_L_law_794 (xs : Nat → Int32) (L : Nat)  (z : St)  : Option (St × Int32) :=
  some (z, 0)
theorem b_L_law_794 {p : Program} {l : Launch} {e : Env} {s : State} {m : MethodId} {below : List Frame} {meth : Method} {c : Code} {b L : Nat} {xs : Nat → Int32} {kc : Nat × Nat} {g : Ga} {A : Nat → Prop} (C : Cx l g A p s m #[Value.ref b] c cL_law 4 RL room_1 kc) (hr : meth.sig.returnType = ret) (hk : meth.locks = false) (hX : va_X b L xs s s.heap) (hbl : b < s.heap.size) (hA : ∀ q, A q → s.heap.size ≤ q) (hkc : kc.1 ≤ 600000 ∧ kc.2 ≤ 7302250)   (z : St)   {res : St × Int32} (hres : res.2 = 1) (hf : f_L_law_794 xs L  z  = some res) : Zj p l e room_1 s m #[Value.ref b] below meth c g A 4 kc (lw_Z below #[Value.ref b] s) z 794 [] [] := by
  unfold f_L_law_794 at hf
  refine z_iconst C dL_law_794 (v := 0) (by decide) ?_
  cases hf
  exact z_lawret C hr hk hA hkc hres dL_law_795
def f_L_law_773 (xs : Nat → Int32) (L : Nat) (K18 : St → Nat → Nat → Int32 → Option (St × Int32)) (z : St) (o1 : Nat) (o2 : Nat) (x3 : Int32) : Option (St × Int32) :=
  if inb (x3 + 1) L = true then (((f_X10_film z o1 (xs (Int32.toNatClampNeg (x3 + 1)))).bind fun r2 => if inb (x3 + 1) L = true then (((f_X11_film r2.1 o2 (xs (Int32.toNatClampNeg (x3 + 1)))).bind fun r5 => if r2.2 = r5.2 then f_L_law_1223 xs L K18 r5.1 o1 o2 x3 else f_L_law_794 xs L r5.1)) else none)) else none
theorem b_L_law_773 {p : Program} {l : Launch} {e : Env} {s : State} {m : MethodId} {below : List Frame} {meth : Method} {c : Code} {b L : Nat} {xs : Nat → Int32} {kc : Nat × Nat} {g : Ga} {A : Nat → Prop} (C : Cx l g A p s m #[Value.ref b] c cL_law 4 RL room_1 kc) (hr : meth.sig.returnType = ret) (hk : meth.locks = false) (hX : va_X b L xs s s.heap) (hbl : b < s.heap.size) (hA : ∀ q, A q → s.heap.size ≤ q) (hkc : kc.1 ≤ 600000 ∧ kc.2 ≤ 7302250) {K18 : St → Nat → Nat → Int32 → Option (St × Int32)} (hK18 : ∀ (z : St) (o1 : Nat) (o2 : Nat) (x3 : Int32) (_ : kd o1 = 10) (_ : kd o2 = 11) {res : St × Int32} (_ : res.2 = 1), K18 z o1 o2 x3 = some res → Zj p l e room_1 s m #[Value.ref b] below meth c g A 4 kc (lw_Z below #[Value.ref b] s) z 18 [(0, .ref b), (1, .ref (g.1 o1)), (2, .ref (g.1 o2)), (3, .int x3)] []) (z : St) (o1 : Nat) (o2 : Nat) (x3 : Int32) (ho1 : kd o1 = 10) (ho2 : kd o2 = 11) {res : St × Int32} (hres : res.2 = 1) (hf : f_L_law_773 xs L K18 z o1 o2 x3 = some res) : Zj p l e room_1 s m #[Value.ref b] below meth c g A 4 kc (lw_Z below #[Value.ref b] s) z 773 [(0, .ref b), (1, .ref (g.1 o1)), (2, .ref (g.1 o2)), (3, .int x3)] [] := by
  unfold f_L_law_773 at hf
  refine z_aload_n C dL_law_773 rfl 1 rfl ?_
  refine z_aload_n C dL_law_774 rfl 0 rfl ?_
  refine z_iload_n C dL_law_775 rfl 3 rfl ?_
  refine z_iconst C dL_law_776 (v := 1) (by decide) ?_
  refine z_iadd C dL_law_777 ?_
  obtain ⟨h1, hf⟩ := q_ck hf
  refine z_sld C hX hbl hA dL_law_778 h1 ?_
  obtain ⟨r2, hc3, hf⟩ := q_bd hf
  refine z_cVi C (st := []) (c_X10_film ho1 hc3) mw_X10_film ml_L_100 ho1 (by decide) rfl dL_law_779 rfl rfl rfl ⟨Nat.le_of_ble_eq_true rfl, Nat.le_of_ble_eq_true rfl⟩ rfl (Nat.le_of_ble_eq_true rfl) ?_
  refine z_aload_n C dL_law_782 rfl 2 rfl ?_
  refine z_aload_n C dL_law_783 rfl 0 rfl ?_
  refine z_iload_n C dL_law_784 rfl 3 rfl ?_
  refine z_iconst C dL_law_785 (v := 1) (by decide) ?_
  refine z_iadd C dL_law_786 ?_
  obtain ⟨h4, hf⟩ := q_ck hf
  refine z_sld C hX hbl hA dL_law_787 h4 ?_
  obtain ⟨r5, hc6, hf⟩ := q_bd hf
  refine z_cVi C (st := [.int r2.2]) (c_X11_film ho2 hc6) mw_X11_film ml_L_103 ho2 (by decide) rfl dL_law_788 rfl rfl rfl ⟨Nat.le_of_ble_eq_true rfl, Nat.le_of_ble_eq_true rfl⟩ rfl (Nat.le_of_ble_eq_true rfl) ?_
  exact z_icmp_eq C dL_law_791 (by decide) (fun h => z_sub [0, 1, 2, 3] rfl (b_L_law_1223 C hr hk hX hbl hA hkc hK18 r5.1 o1 o2 x3 ho1 ho2 hres (q_t hf h))) (fun h => z_sub [] rfl (b_L_law_794 C hr hk hX hbl hA hkc r5.1 hres (q_f hf h)))
def f_L_law_827 (xs : Nat → Int32) (L : Nat)  (z : St)  : Option (St × Int32) :=
  some (z, 0)
theorem b_L_law_827 {p : Program} {l : Launch} {e : Env} {s : State} {m : MethodId} {below : List Frame} {meth : Method} {c : Code} {b L : Nat} {xs : Nat → Int32} {kc : Nat × Nat} {g : Ga} {A : Nat → Prop} (C : Cx l g A p s m #[Value.ref b] c cL_law 4 RL room_1 kc) (hr : meth.sig.returnType = ret) (hk : meth.locks = false) (hX : va_X b L xs s s.heap) (hbl : b < s.heap.size) (hA : ∀ q, A q → s.heap.size ≤ q) (hkc : kc.1 ≤ 600000 ∧ kc.2 ≤ 7302250)   (z : St)   {res : St × Int32} (hres : res.2 = 1) (hf : f_L_law_827 xs L  z  = some res) : Zj p l e room_1 s m #[Value.ref b] below meth c g A 4 kc (lw_Z below #[Value.ref b] s) z 827 [] [] := by
  unfold f_L_law_827 at hf
  refine z_iconst C dL_law_827 (v := 0) (by decide) ?_
  cases hf
  exact z_lawret C hr hk hA hkc hres dL_law_828
def f_L_law_796 (xs : Nat → Int32) (L : Nat) (K18 : St → Nat → Nat → Int32 → Option (St × Int32)) (z : St) (o1 : Nat) (o2 : Nat) (x3 : Int32) : Option (St × Int32) :=
  if inb (x3 + 1) L = true then (if inb (x3 + 2) L = true then (((f_X10_drawn z o1 (xs (Int32.toNatClampNeg (x3 + 1))) (xs (Int32.toNatClampNeg (x3 + 2)))).bind fun r3 => if inb (x3 + 1) L = true then (if inb (x3 + 2) L = true then (((f_X11_drawn r3.1 o2 (xs (Int32.toNatClampNeg (x3 + 1))) (xs (Int32.toNatClampNeg (x3 + 2)))).bind fun r7 => if r3.2 = r7.2 then f_L_law_1223 xs L K18 r7.1 o1 o2 x3 else f_L_law_827 xs L r7.1)) else none) else none)) else none) else none
theorem b_L_law_796 {p : Program} {l : Launch} {e : Env} {s : State} {m : MethodId} {below : List Frame} {meth : Method} {c : Code} {b L : Nat} {xs : Nat → Int32} {kc : Nat × Nat} {g : Ga} {A : Nat → Prop} (C : Cx l g A p s m #[Value.ref b] c cL_law 4 RL room_1 kc) (hr : meth.sig.returnType = ret) (hk : meth.locks = false) (hX : va_X b L xs s s.heap) (hbl : b < s.heap.size) (hA : ∀ q, A q → s.heap.size ≤ q) (hkc : kc.1 ≤ 600000 ∧ kc.2 ≤ 7302250) {K18 : St → Nat → Nat → Int32 → Option (St × Int32)} (hK18 : ∀ (z : St) (o1 : Nat) (o2 : Nat) (x3 : Int32) (_ : kd o1 = 10) (_ : kd o2 = 11) {res : St × Int32} (_ : res.2 = 1), K18 z o1 o2 x3 = some res → Zj p l e room_1 s m #[Value.ref b] below meth c g A 4 kc (lw_Z below #[Value.ref b] s) z 18 [(0, .ref b), (1, .ref (g.1 o1)), (2, .ref (g.1 o2)), (3, .int x3)] []) (z : St) (o1 : Nat) (o2 : Nat) (x3 : Int32) (ho1 : kd o1 = 10) (ho2 : kd o2 = 11) {res : St × Int32} (hres : res.2 = 1) (hf : f_L_law_796 xs L K18 z o1 o2 x3 = some res) : Zj p l e room_1 s m #[Value.ref b] below meth c g A 4 kc (lw_Z below #[Value.ref b] s) z 796 [(0, .ref b), (1, .ref (g.1 o1)), (2, .ref (g.1 o2)), (3, .int x3)] [] := by
  unfold f_L_law_796 at hf
  refine z_aload_n C dL_law_796 rfl 1 rfl ?_
  refine z_aload_n C dL_law_797 rfl 0 rfl ?_
  refine z_iload_n C dL_law_798 rfl 3 rfl ?_
  refine z_iconst C dL_law_799 (v := 1) (by decide) ?_
  refine z_iadd C dL_law_800 ?_
  obtain ⟨h1, hf⟩ := q_ck hf
  refine z_sld C hX hbl hA dL_law_801 h1 ?_
  refine z_aload_n C dL_law_802 rfl 0 rfl ?_
  refine z_iload_n C dL_law_803 rfl 3 rfl ?_
  refine z_iconst C dL_law_804 (v := 2) (by decide) ?_
  refine z_iadd C dL_law_805 ?_
  obtain ⟨h2, hf⟩ := q_ck hf
  refine z_sld C hX hbl hA dL_law_806 h2 ?_
  obtain ⟨r3, hc4, hf⟩ := q_bd hf
  refine z_cVi C (st := []) (c_X10_drawn ho1 hc4) mw_X10_drawn ml_L_104 ho1 (by decide) rfl dL_law_807 rfl rfl rfl ⟨Nat.le_of_ble_eq_true rfl, Nat.le_of_ble_eq_true rfl⟩ rfl (Nat.le_of_ble_eq_true rfl) ?_
  refine z_aload_n C dL_law_810 rfl 2 rfl ?_
  refine z_aload_n C dL_law_811 rfl 0 rfl ?_
  refine z_iload_n C dL_law_812 rfl 3 rfl ?_
  refine z_iconst C dL_law_813 (v := 1) (by decide) ?_
  refine z_iadd C dL_law_814 ?_
  obtain ⟨h5, hf⟩ := q_ck hf
  refine z_sld C hX hbl hA dL_law_815 h5 ?_
  refine z_aload_n C dL_law_816 rfl 0 rfl ?_
  refine z_iload_n C dL_law_817 rfl 3 rfl ?_
  refine z_iconst C dL_law_818 (v := 2) (by decide) ?_
  refine z_iadd C dL_law_819 ?_
  obtain ⟨h6, hf⟩ := q_ck hf
  refine z_sld C hX hbl hA dL_law_820 h6 ?_
  obtain ⟨r7, hc8, hf⟩ := q_bd hf
  refine z_cVi C (st := [.int r3.2]) (c_X11_drawn ho2 hc8) mw_X11_drawn ml_L_107 ho2 (by decide) rfl dL_law_821 rfl rfl rfl ⟨Nat.le_of_ble_eq_true rfl, Nat.le_of_ble_eq_true rfl⟩ rfl (Nat.le_of_ble_eq_true rfl) ?_
  exact z_icmp_eq C dL_law_824 (by decide) (fun h => z_sub [0, 1, 2, 3] rfl (b_L_law_1223 C hr hk hX hbl hA hkc hK18 r7.1 o1 o2 x3 ho1 ho2 hres (q_t hf h))) (fun h => z_sub [] rfl (b_L_law_827 C hr hk hX hbl hA hkc r7.1 hres (q_f hf h)))
def f_L_law_890 (xs : Nat → Int32) (L : Nat)  (z : St)  : Option (St × Int32) :=
  some (z, 0)
theorem b_L_law_890 {p : Program} {l : Launch} {e : Env} {s : State} {m : MethodId} {below : List Frame} {meth : Method} {c : Code} {b L : Nat} {xs : Nat → Int32} {kc : Nat × Nat} {g : Ga} {A : Nat → Prop} (C : Cx l g A p s m #[Value.ref b] c cL_law 4 RL room_1 kc) (hr : meth.sig.returnType = ret) (hk : meth.locks = false) (hX : va_X b L xs s s.heap) (hbl : b < s.heap.size) (hA : ∀ q, A q → s.heap.size ≤ q) (hkc : kc.1 ≤ 600000 ∧ kc.2 ≤ 7302250)   (z : St)   {res : St × Int32} (hres : res.2 = 1) (hf : f_L_law_890 xs L  z  = some res) : Zj p l e room_1 s m #[Value.ref b] below meth c g A 4 kc (lw_Z below #[Value.ref b] s) z 890 [] [] := by
  unfold f_L_law_890 at hf
  refine z_iconst C dL_law_890 (v := 0) (by decide) ?_
  cases hf
  exact z_lawret C hr hk hA hkc hres dL_law_891
def f_L_law_829 (xs : Nat → Int32) (L : Nat) (K18 : St → Nat → Nat → Int32 → Option (St × Int32)) (z : St) (o1 : Nat) (o2 : Nat) (x3 : Int32) : Option (St × Int32) :=
  if inb (x3 + 1) L = true then (if inb (x3 + 2) L = true then (if inb (x3 + 3) L = true then (if inb (x3 + 4) L = true then (if inb (x3 + 5) L = true then (((f_X10_chance z o1 (xs (Int32.toNatClampNeg (x3 + 1))) (xs (Int32.toNatClampNeg (x3 + 2))) (xs (Int32.toNatClampNeg (x3 + 3))) (xs (Int32.toNatClampNeg (x3 + 4))) (xs (Int32.toNatClampNeg (x3 + 5)))).bind fun r6 => if inb (x3 + 1) L = true then (if inb (x3 + 2) L = true then (if inb (x3 + 3) L = true then (if inb (x3 + 4) L = true then (if inb (x3 + 5) L = true then (((f_X11_chance r6.1 o2 (xs (Int32.toNatClampNeg (x3 + 1))) (xs (Int32.toNatClampNeg (x3 + 2))) (xs (Int32.toNatClampNeg (x3 + 3))) (xs (Int32.toNatClampNeg (x3 + 4))) (xs (Int32.toNatClampNeg (x3 + 5)))).bind fun r13 => if r6.2 = r13.2 then f_L_law_1223 xs L K18 r13.1 o1 o2 x3 else f_L_law_890 xs L r13.1)) else none) else none) else none) else none) else none)) else none) else none) else none) else none) else none
theorem b_L_law_829 {p : Program} {l : Launch} {e : Env} {s : State} {m : MethodId} {below : List Frame} {meth : Method} {c : Code} {b L : Nat} {xs : Nat → Int32} {kc : Nat × Nat} {g : Ga} {A : Nat → Prop} (C : Cx l g A p s m #[Value.ref b] c cL_law 4 RL room_1 kc) (hr : meth.sig.returnType = ret) (hk : meth.locks = false) (hX : va_X b L xs s s.heap) (hbl : b < s.heap.size) (hA : ∀ q, A q → s.heap.size ≤ q) (hkc : kc.1 ≤ 600000 ∧ kc.2 ≤ 7302250) {K18 : St → Nat → Nat → Int32 → Option (St × Int32)} (hK18 : ∀ (z : St) (o1 : Nat) (o2 : Nat) (x3 : Int32) (_ : kd o1 = 10) (_ : kd o2 = 11) {res : St × Int32} (_ : res.2 = 1), K18 z o1 o2 x3 = some res → Zj p l e room_1 s m #[Value.ref b] below meth c g A 4 kc (lw_Z below #[Value.ref b] s) z 18 [(0, .ref b), (1, .ref (g.1 o1)), (2, .ref (g.1 o2)), (3, .int x3)] []) (z : St) (o1 : Nat) (o2 : Nat) (x3 : Int32) (ho1 : kd o1 = 10) (ho2 : kd o2 = 11) {res : St × Int32} (hres : res.2 = 1) (hf : f_L_law_829 xs L K18 z o1 o2 x3 = some res) : Zj p l e room_1 s m #[Value.ref b] below meth c g A 4 kc (lw_Z below #[Value.ref b] s) z 829 [(0, .ref b), (1, .ref (g.1 o1)), (2, .ref (g.1 o2)), (3, .int x3)] [] := by
  unfold f_L_law_829 at hf
  refine z_aload_n C dL_law_829 rfl 1 rfl ?_
  refine z_aload_n C dL_law_830 rfl 0 rfl ?_
  refine z_iload_n C dL_law_831 rfl 3 rfl ?_
  refine z_iconst C dL_law_832 (v := 1) (by decide) ?_
  refine z_iadd C dL_law_833 ?_
  obtain ⟨h1, hf⟩ := q_ck hf
  refine z_sld C hX hbl hA dL_law_834 h1 ?_
  refine z_aload_n C dL_law_835 rfl 0 rfl ?_
  refine z_iload_n C dL_law_836 rfl 3 rfl ?_
  refine z_iconst C dL_law_837 (v := 2) (by decide) ?_
  refine z_iadd C dL_law_838 ?_
  obtain ⟨h2, hf⟩ := q_ck hf
  refine z_sld C hX hbl hA dL_law_839 h2 ?_
  refine z_aload_n C dL_law_840 rfl 0 rfl ?_
  refine z_iload_n C dL_law_841 rfl 3 rfl ?_
  refine z_iconst C dL_law_842 (v := 3) (by decide) ?_
  refine z_iadd C dL_law_843 ?_
  obtain ⟨h3, hf⟩ := q_ck hf
  refine z_sld C hX hbl hA dL_law_844 h3 ?_
  refine z_aload_n C dL_law_845 rfl 0 rfl ?_
  refine z_iload_n C dL_law_846 rfl 3 rfl ?_
  refine z_iconst C dL_law_847 (v := 4) (by decide) ?_
  refine z_iadd C dL_law_848 ?_
  obtain ⟨h4, hf⟩ := q_ck hf
  refine z_sld C hX hbl hA dL_law_849 h4 ?_
  refine z_aload_n C dL_law_850 rfl 0 rfl ?_
  refine z_iload_n C dL_law_851 rfl 3 rfl ?_
  refine z_iconst C dL_law_852 (v := 5) (by decide) ?_
  refine z_iadd C dL_law_853 ?_
  obtain ⟨h5, hf⟩ := q_ck hf
  refine z_sld C hX hbl hA dL_law_854 h5 ?_
  obtain ⟨r6, hc7, hf⟩ := q_bd hf
  refine z_cVi C (st := []) (c_X10_chance ho1 hc7) mw_X10_chance ml_L_108 ho1 (by decide) rfl dL_law_855 rfl rfl rfl ⟨Nat.le_of_ble_eq_true rfl, Nat.le_of_ble_eq_true rfl⟩ rfl (Nat.le_of_ble_eq_true rfl) ?_
  refine z_aload_n C dL_law_858 rfl 2 rfl ?_
  refine z_aload_n C dL_law_859 rfl 0 rfl ?_
  refine z_iload_n C dL_law_860 rfl 3 rfl ?_
  refine z_iconst C dL_law_861 (v := 1) (by decide) ?_
  refine z_iadd C dL_law_862 ?_
  obtain ⟨h8, hf⟩ := q_ck hf
  refine z_sld C hX hbl hA dL_law_863 h8 ?_
  refine z_aload_n C dL_law_864 rfl 0 rfl ?_
  refine z_iload_n C dL_law_865 rfl 3 rfl ?_
  refine z_iconst C dL_law_866 (v := 2) (by decide) ?_
  refine z_iadd C dL_law_867 ?_
  obtain ⟨h9, hf⟩ := q_ck hf
  refine z_sld C hX hbl hA dL_law_868 h9 ?_
  refine z_aload_n C dL_law_869 rfl 0 rfl ?_
  refine z_iload_n C dL_law_870 rfl 3 rfl ?_
  refine z_iconst C dL_law_871 (v := 3) (by decide) ?_
  refine z_iadd C dL_law_872 ?_
  obtain ⟨h10, hf⟩ := q_ck hf
  refine z_sld C hX hbl hA dL_law_873 h10 ?_
  refine z_aload_n C dL_law_874 rfl 0 rfl ?_
  refine z_iload_n C dL_law_875 rfl 3 rfl ?_
  refine z_iconst C dL_law_876 (v := 4) (by decide) ?_
  refine z_iadd C dL_law_877 ?_
  obtain ⟨h11, hf⟩ := q_ck hf
  refine z_sld C hX hbl hA dL_law_878 h11 ?_
  refine z_aload_n C dL_law_879 rfl 0 rfl ?_
  refine z_iload_n C dL_law_880 rfl 3 rfl ?_
  refine z_iconst C dL_law_881 (v := 5) (by decide) ?_
  refine z_iadd C dL_law_882 ?_
  obtain ⟨h12, hf⟩ := q_ck hf
  refine z_sld C hX hbl hA dL_law_883 h12 ?_
  obtain ⟨r13, hc14, hf⟩ := q_bd hf
  refine z_cVi C (st := [.int r6.2]) (c_X11_chance ho2 hc14) mw_X11_chance ml_L_112 ho2 (by decide) rfl dL_law_884 rfl rfl rfl ⟨Nat.le_of_ble_eq_true rfl, Nat.le_of_ble_eq_true rfl⟩ rfl (Nat.le_of_ble_eq_true rfl) ?_
  exact z_icmp_eq C dL_law_887 (by decide) (fun h => z_sub [0, 1, 2, 3] rfl (b_L_law_1223 C hr hk hX hbl hA hkc hK18 r13.1 o1 o2 x3 ho1 ho2 hres (q_t hf h))) (fun h => z_sub [] rfl (b_L_law_890 C hr hk hX hbl hA hkc r13.1 hres (q_f hf h)))
def f_L_law_913 (xs : Nat → Int32) (L : Nat)  (z : St)  : Option (St × Int32) :=
  some (z, 0)
theorem b_L_law_913 {p : Program} {l : Launch} {e : Env} {s : State} {m : MethodId} {below : List Frame} {meth : Method} {c : Code} {b L : Nat} {xs : Nat → Int32} {kc : Nat × Nat} {g : Ga} {A : Nat → Prop} (C : Cx l g A p s m #[Value.ref b] c cL_law 4 RL room_1 kc) (hr : meth.sig.returnType = ret) (hk : meth.locks = false) (hX : va_X b L xs s s.heap) (hbl : b < s.heap.size) (hA : ∀ q, A q → s.heap.size ≤ q) (hkc : kc.1 ≤ 600000 ∧ kc.2 ≤ 7302250)   (z : St)   {res : St × Int32} (hres : res.2 = 1) (hf : f_L_law_913 xs L  z  = some res) : Zj p l e room_1 s m #[Value.ref b] below meth c g A 4 kc (lw_Z below #[Value.ref b] s) z 913 [] [] := by
  unfold f_L_law_913 at hf
  refine z_iconst C dL_law_913 (v := 0) (by decide) ?_
  cases hf
  exact z_lawret C hr hk hA hkc hres dL_law_914
def f_L_law_892 (xs : Nat → Int32) (L : Nat) (K18 : St → Nat → Nat → Int32 → Option (St × Int32)) (z : St) (o1 : Nat) (o2 : Nat) (x3 : Int32) : Option (St × Int32) :=
  if inb (x3 + 1) L = true then (((f_X10_go z o1 (xs (Int32.toNatClampNeg (x3 + 1)))).bind fun r2 => if inb (x3 + 1) L = true then (((f_X11_go r2.1 o2 (xs (Int32.toNatClampNeg (x3 + 1)))).bind fun r5 => if r2.2 = r5.2 then f_L_law_1223 xs L K18 r5.1 o1 o2 x3 else f_L_law_913 xs L r5.1)) else none)) else none
theorem b_L_law_892 {p : Program} {l : Launch} {e : Env} {s : State} {m : MethodId} {below : List Frame} {meth : Method} {c : Code} {b L : Nat} {xs : Nat → Int32} {kc : Nat × Nat} {g : Ga} {A : Nat → Prop} (C : Cx l g A p s m #[Value.ref b] c cL_law 4 RL room_1 kc) (hr : meth.sig.returnType = ret) (hk : meth.locks = false) (hX : va_X b L xs s s.heap) (hbl : b < s.heap.size) (hA : ∀ q, A q → s.heap.size ≤ q) (hkc : kc.1 ≤ 600000 ∧ kc.2 ≤ 7302250) {K18 : St → Nat → Nat → Int32 → Option (St × Int32)} (hK18 : ∀ (z : St) (o1 : Nat) (o2 : Nat) (x3 : Int32) (_ : kd o1 = 10) (_ : kd o2 = 11) {res : St × Int32} (_ : res.2 = 1), K18 z o1 o2 x3 = some res → Zj p l e room_1 s m #[Value.ref b] below meth c g A 4 kc (lw_Z below #[Value.ref b] s) z 18 [(0, .ref b), (1, .ref (g.1 o1)), (2, .ref (g.1 o2)), (3, .int x3)] []) (z : St) (o1 : Nat) (o2 : Nat) (x3 : Int32) (ho1 : kd o1 = 10) (ho2 : kd o2 = 11) {res : St × Int32} (hres : res.2 = 1) (hf : f_L_law_892 xs L K18 z o1 o2 x3 = some res) : Zj p l e room_1 s m #[Value.ref b] below meth c g A 4 kc (lw_Z below #[Value.ref b] s) z 892 [(0, .ref b), (1, .ref (g.1 o1)), (2, .ref (g.1 o2)), (3, .int x3)] [] := by
  unfold f_L_law_892 at hf
  refine z_aload_n C dL_law_892 rfl 1 rfl ?_
  refine z_aload_n C dL_law_893 rfl 0 rfl ?_
  refine z_iload_n C dL_law_894 rfl 3 rfl ?_
  refine z_iconst C dL_law_895 (v := 1) (by decide) ?_
  refine z_iadd C dL_law_896 ?_
  obtain ⟨h1, hf⟩ := q_ck hf
  refine z_sld C hX hbl hA dL_law_897 h1 ?_
  obtain ⟨r2, hc3, hf⟩ := q_bd hf
  refine z_cVi C (st := []) (c_X10_go ho1 hc3) mw_X10_go ml_L_113 ho1 (by decide) rfl dL_law_898 rfl rfl rfl ⟨Nat.le_of_ble_eq_true rfl, Nat.le_of_ble_eq_true rfl⟩ rfl (Nat.le_of_ble_eq_true rfl) ?_
  refine z_aload_n C dL_law_901 rfl 2 rfl ?_
  refine z_aload_n C dL_law_902 rfl 0 rfl ?_
  refine z_iload_n C dL_law_903 rfl 3 rfl ?_
  refine z_iconst C dL_law_904 (v := 1) (by decide) ?_
  refine z_iadd C dL_law_905 ?_
  obtain ⟨h4, hf⟩ := q_ck hf
  refine z_sld C hX hbl hA dL_law_906 h4 ?_
  obtain ⟨r5, hc6, hf⟩ := q_bd hf
  refine z_cVi C (st := [.int r2.2]) (c_X11_go ho2 hc6) mw_X11_go ml_L_116 ho2 (by decide) rfl dL_law_907 rfl rfl rfl ⟨Nat.le_of_ble_eq_true rfl, Nat.le_of_ble_eq_true rfl⟩ rfl (Nat.le_of_ble_eq_true rfl) ?_
  exact z_icmp_eq C dL_law_910 (by decide) (fun h => z_sub [0, 1, 2, 3] rfl (b_L_law_1223 C hr hk hX hbl hA hkc hK18 r5.1 o1 o2 x3 ho1 ho2 hres (q_t hf h))) (fun h => z_sub [] rfl (b_L_law_913 C hr hk hX hbl hA hkc r5.1 hres (q_f hf h)))
def f_L_law_936 (xs : Nat → Int32) (L : Nat)  (z : St)  : Option (St × Int32) :=
  some (z, 0)
theorem b_L_law_936 {p : Program} {l : Launch} {e : Env} {s : State} {m : MethodId} {below : List Frame} {meth : Method} {c : Code} {b L : Nat} {xs : Nat → Int32} {kc : Nat × Nat} {g : Ga} {A : Nat → Prop} (C : Cx l g A p s m #[Value.ref b] c cL_law 4 RL room_1 kc) (hr : meth.sig.returnType = ret) (hk : meth.locks = false) (hX : va_X b L xs s s.heap) (hbl : b < s.heap.size) (hA : ∀ q, A q → s.heap.size ≤ q) (hkc : kc.1 ≤ 600000 ∧ kc.2 ≤ 7302250)   (z : St)   {res : St × Int32} (hres : res.2 = 1) (hf : f_L_law_936 xs L  z  = some res) : Zj p l e room_1 s m #[Value.ref b] below meth c g A 4 kc (lw_Z below #[Value.ref b] s) z 936 [] [] := by
  unfold f_L_law_936 at hf
  refine z_iconst C dL_law_936 (v := 0) (by decide) ?_
  cases hf
  exact z_lawret C hr hk hA hkc hres dL_law_937
def f_L_law_915 (xs : Nat → Int32) (L : Nat) (K18 : St → Nat → Nat → Int32 → Option (St × Int32)) (z : St) (o1 : Nat) (o2 : Nat) (x3 : Int32) : Option (St × Int32) :=
  if inb (x3 + 1) L = true then (((f_X10_bench z o1 (xs (Int32.toNatClampNeg (x3 + 1)))).bind fun r2 => if inb (x3 + 1) L = true then (((f_X11_bench r2.1 o2 (xs (Int32.toNatClampNeg (x3 + 1)))).bind fun r5 => if r2.2 = r5.2 then f_L_law_1223 xs L K18 r5.1 o1 o2 x3 else f_L_law_936 xs L r5.1)) else none)) else none
theorem b_L_law_915 {p : Program} {l : Launch} {e : Env} {s : State} {m : MethodId} {below : List Frame} {meth : Method} {c : Code} {b L : Nat} {xs : Nat → Int32} {kc : Nat × Nat} {g : Ga} {A : Nat → Prop} (C : Cx l g A p s m #[Value.ref b] c cL_law 4 RL room_1 kc) (hr : meth.sig.returnType = ret) (hk : meth.locks = false) (hX : va_X b L xs s s.heap) (hbl : b < s.heap.size) (hA : ∀ q, A q → s.heap.size ≤ q) (hkc : kc.1 ≤ 600000 ∧ kc.2 ≤ 7302250) {K18 : St → Nat → Nat → Int32 → Option (St × Int32)} (hK18 : ∀ (z : St) (o1 : Nat) (o2 : Nat) (x3 : Int32) (_ : kd o1 = 10) (_ : kd o2 = 11) {res : St × Int32} (_ : res.2 = 1), K18 z o1 o2 x3 = some res → Zj p l e room_1 s m #[Value.ref b] below meth c g A 4 kc (lw_Z below #[Value.ref b] s) z 18 [(0, .ref b), (1, .ref (g.1 o1)), (2, .ref (g.1 o2)), (3, .int x3)] []) (z : St) (o1 : Nat) (o2 : Nat) (x3 : Int32) (ho1 : kd o1 = 10) (ho2 : kd o2 = 11) {res : St × Int32} (hres : res.2 = 1) (hf : f_L_law_915 xs L K18 z o1 o2 x3 = some res) : Zj p l e room_1 s m #[Value.ref b] below meth c g A 4 kc (lw_Z below #[Value.ref b] s) z 915 [(0, .ref b), (1, .ref (g.1 o1)), (2, .ref (g.1 o2)), (3, .int x3)] [] := by
  unfold f_L_law_915 at hf
  refine z_aload_n C dL_law_915 rfl 1 rfl ?_
  refine z_aload_n C dL_law_916 rfl 0 rfl ?_
  refine z_iload_n C dL_law_917 rfl 3 rfl ?_
  refine z_iconst C dL_law_918 (v := 1) (by decide) ?_
  refine z_iadd C dL_law_919 ?_
  obtain ⟨h1, hf⟩ := q_ck hf
  refine z_sld C hX hbl hA dL_law_920 h1 ?_
  obtain ⟨r2, hc3, hf⟩ := q_bd hf
  refine z_cVi C (st := []) (c_X10_bench ho1 hc3) mw_X10_bench ml_L_117 ho1 (by decide) rfl dL_law_921 rfl rfl rfl ⟨Nat.le_of_ble_eq_true rfl, Nat.le_of_ble_eq_true rfl⟩ rfl (Nat.le_of_ble_eq_true rfl) ?_
  refine z_aload_n C dL_law_924 rfl 2 rfl ?_
  refine z_aload_n C dL_law_925 rfl 0 rfl ?_
  refine z_iload_n C dL_law_926 rfl 3 rfl ?_
  refine z_iconst C dL_law_927 (v := 1) (by decide) ?_
  refine z_iadd C dL_law_928 ?_
  obtain ⟨h4, hf⟩ := q_ck hf
  refine z_sld C hX hbl hA dL_law_929 h4 ?_
  obtain ⟨r5, hc6, hf⟩ := q_bd hf
  refine z_cVi C (st := [.int r2.2]) (c_X11_bench ho2 hc6) mw_X11_bench ml_L_120 ho2 (by decide) rfl dL_law_930 rfl rfl rfl ⟨Nat.le_of_ble_eq_true rfl, Nat.le_of_ble_eq_true rfl⟩ rfl (Nat.le_of_ble_eq_true rfl) ?_
  exact z_icmp_eq C dL_law_933 (by decide) (fun h => z_sub [0, 1, 2, 3] rfl (b_L_law_1223 C hr hk hX hbl hA hkc hK18 r5.1 o1 o2 x3 ho1 ho2 hres (q_t hf h))) (fun h => z_sub [] rfl (b_L_law_936 C hr hk hX hbl hA hkc r5.1 hres (q_f hf h)))
def f_L_law_959 (xs : Nat → Int32) (L : Nat)  (z : St)  : Option (St × Int32) :=
  some (z, 0)
theorem b_L_law_959 {p : Program} {l : Launch} {e : Env} {s : State} {m : MethodId} {below : List Frame} {meth : Method} {c : Code} {b L : Nat} {xs : Nat → Int32} {kc : Nat × Nat} {g : Ga} {A : Nat → Prop} (C : Cx l g A p s m #[Value.ref b] c cL_law 4 RL room_1 kc) (hr : meth.sig.returnType = ret) (hk : meth.locks = false) (hX : va_X b L xs s s.heap) (hbl : b < s.heap.size) (hA : ∀ q, A q → s.heap.size ≤ q) (hkc : kc.1 ≤ 600000 ∧ kc.2 ≤ 7302250)   (z : St)   {res : St × Int32} (hres : res.2 = 1) (hf : f_L_law_959 xs L  z  = some res) : Zj p l e room_1 s m #[Value.ref b] below meth c g A 4 kc (lw_Z below #[Value.ref b] s) z 959 [] [] := by
  unfold f_L_law_959 at hf
  refine z_iconst C dL_law_959 (v := 0) (by decide) ?_
  cases hf
  exact z_lawret C hr hk hA hkc hres dL_law_960
def f_L_law_938 (xs : Nat → Int32) (L : Nat) (K18 : St → Nat → Nat → Int32 → Option (St × Int32)) (z : St) (o1 : Nat) (o2 : Nat) (x3 : Int32) : Option (St × Int32) :=
  if inb (x3 + 1) L = true then (((f_X10_began z o1 (xs (Int32.toNatClampNeg (x3 + 1)))).bind fun r2 => if inb (x3 + 1) L = true then (((f_X11_began r2.1 o2 (xs (Int32.toNatClampNeg (x3 + 1)))).bind fun r5 => if r2.2 = r5.2 then f_L_law_1223 xs L K18 r5.1 o1 o2 x3 else f_L_law_959 xs L r5.1)) else none)) else none
theorem b_L_law_938 {p : Program} {l : Launch} {e : Env} {s : State} {m : MethodId} {below : List Frame} {meth : Method} {c : Code} {b L : Nat} {xs : Nat → Int32} {kc : Nat × Nat} {g : Ga} {A : Nat → Prop} (C : Cx l g A p s m #[Value.ref b] c cL_law 4 RL room_1 kc) (hr : meth.sig.returnType = ret) (hk : meth.locks = false) (hX : va_X b L xs s s.heap) (hbl : b < s.heap.size) (hA : ∀ q, A q → s.heap.size ≤ q) (hkc : kc.1 ≤ 600000 ∧ kc.2 ≤ 7302250) {K18 : St → Nat → Nat → Int32 → Option (St × Int32)} (hK18 : ∀ (z : St) (o1 : Nat) (o2 : Nat) (x3 : Int32) (_ : kd o1 = 10) (_ : kd o2 = 11) {res : St × Int32} (_ : res.2 = 1), K18 z o1 o2 x3 = some res → Zj p l e room_1 s m #[Value.ref b] below meth c g A 4 kc (lw_Z below #[Value.ref b] s) z 18 [(0, .ref b), (1, .ref (g.1 o1)), (2, .ref (g.1 o2)), (3, .int x3)] []) (z : St) (o1 : Nat) (o2 : Nat) (x3 : Int32) (ho1 : kd o1 = 10) (ho2 : kd o2 = 11) {res : St × Int32} (hres : res.2 = 1) (hf : f_L_law_938 xs L K18 z o1 o2 x3 = some res) : Zj p l e room_1 s m #[Value.ref b] below meth c g A 4 kc (lw_Z below #[Value.ref b] s) z 938 [(0, .ref b), (1, .ref (g.1 o1)), (2, .ref (g.1 o2)), (3, .int x3)] [] := by
  unfold f_L_law_938 at hf
  refine z_aload_n C dL_law_938 rfl 1 rfl ?_
  refine z_aload_n C dL_law_939 rfl 0 rfl ?_
  refine z_iload_n C dL_law_940 rfl 3 rfl ?_
  refine z_iconst C dL_law_941 (v := 1) (by decide) ?_
  refine z_iadd C dL_law_942 ?_
  obtain ⟨h1, hf⟩ := q_ck hf
  refine z_sld C hX hbl hA dL_law_943 h1 ?_
  obtain ⟨r2, hc3, hf⟩ := q_bd hf
  refine z_cVi C (st := []) (c_X10_began ho1 hc3) mw_X10_began ml_L_121 ho1 (by decide) rfl dL_law_944 rfl rfl rfl ⟨Nat.le_of_ble_eq_true rfl, Nat.le_of_ble_eq_true rfl⟩ rfl (Nat.le_of_ble_eq_true rfl) ?_
  refine z_aload_n C dL_law_947 rfl 2 rfl ?_
  refine z_aload_n C dL_law_948 rfl 0 rfl ?_
  refine z_iload_n C dL_law_949 rfl 3 rfl ?_
  refine z_iconst C dL_law_950 (v := 1) (by decide) ?_
  refine z_iadd C dL_law_951 ?_
  obtain ⟨h4, hf⟩ := q_ck hf
  refine z_sld C hX hbl hA dL_law_952 h4 ?_
  obtain ⟨r5, hc6, hf⟩ := q_bd hf
  refine z_cVi C (st := [.int r2.2]) (c_X11_began ho2 hc6) mw_X11_began ml_L_124 ho2 (by decide) rfl dL_law_953 rfl rfl rfl ⟨Nat.le_of_ble_eq_true rfl, Nat.le_of_ble_eq_true rfl⟩ rfl (Nat.le_of_ble_eq_true rfl) ?_
  exact z_icmp_eq C dL_law_956 (by decide) (fun h => z_sub [0, 1, 2, 3] rfl (b_L_law_1223 C hr hk hX hbl hA hkc hK18 r5.1 o1 o2 x3 ho1 ho2 hres (q_t hf h))) (fun h => z_sub [] rfl (b_L_law_959 C hr hk hX hbl hA hkc r5.1 hres (q_f hf h)))
def f_L_law_972 (xs : Nat → Int32) (L : Nat)  (z : St)  : Option (St × Int32) :=
  some (z, 0)
theorem b_L_law_972 {p : Program} {l : Launch} {e : Env} {s : State} {m : MethodId} {below : List Frame} {meth : Method} {c : Code} {b L : Nat} {xs : Nat → Int32} {kc : Nat × Nat} {g : Ga} {A : Nat → Prop} (C : Cx l g A p s m #[Value.ref b] c cL_law 4 RL room_1 kc) (hr : meth.sig.returnType = ret) (hk : meth.locks = false) (hX : va_X b L xs s s.heap) (hbl : b < s.heap.size) (hA : ∀ q, A q → s.heap.size ≤ q) (hkc : kc.1 ≤ 600000 ∧ kc.2 ≤ 7302250)   (z : St)   {res : St × Int32} (hres : res.2 = 1) (hf : f_L_law_972 xs L  z  = some res) : Zj p l e room_1 s m #[Value.ref b] below meth c g A 4 kc (lw_Z below #[Value.ref b] s) z 972 [] [] := by
  unfold f_L_law_972 at hf
  refine z_iconst C dL_law_972 (v := 0) (by decide) ?_
  cases hf
  exact z_lawret C hr hk hA hkc hres dL_law_973
def f_L_law_961 (xs : Nat → Int32) (L : Nat) (K18 : St → Nat → Nat → Int32 → Option (St × Int32)) (z : St) (o1 : Nat) (o2 : Nat) (x3 : Int32) : Option (St × Int32) :=
  ((f_X10_image z o1).bind fun r1 => ((f_X11_image r1.1 o2).bind fun r3 => if r1.2 = r3.2 then f_L_law_1223 xs L K18 r3.1 o1 o2 x3 else f_L_law_972 xs L r3.1))
theorem b_L_law_961 {p : Program} {l : Launch} {e : Env} {s : State} {m : MethodId} {below : List Frame} {meth : Method} {c : Code} {b L : Nat} {xs : Nat → Int32} {kc : Nat × Nat} {g : Ga} {A : Nat → Prop} (C : Cx l g A p s m #[Value.ref b] c cL_law 4 RL room_1 kc) (hr : meth.sig.returnType = ret) (hk : meth.locks = false) (hX : va_X b L xs s s.heap) (hbl : b < s.heap.size) (hA : ∀ q, A q → s.heap.size ≤ q) (hkc : kc.1 ≤ 600000 ∧ kc.2 ≤ 7302250) {K18 : St → Nat → Nat → Int32 → Option (St × Int32)} (hK18 : ∀ (z : St) (o1 : Nat) (o2 : Nat) (x3 : Int32) (_ : kd o1 = 10) (_ : kd o2 = 11) {res : St × Int32} (_ : res.2 = 1), K18 z o1 o2 x3 = some res → Zj p l e room_1 s m #[Value.ref b] below meth c g A 4 kc (lw_Z below #[Value.ref b] s) z 18 [(0, .ref b), (1, .ref (g.1 o1)), (2, .ref (g.1 o2)), (3, .int x3)] []) (z : St) (o1 : Nat) (o2 : Nat) (x3 : Int32) (ho1 : kd o1 = 10) (ho2 : kd o2 = 11) {res : St × Int32} (hres : res.2 = 1) (hf : f_L_law_961 xs L K18 z o1 o2 x3 = some res) : Zj p l e room_1 s m #[Value.ref b] below meth c g A 4 kc (lw_Z below #[Value.ref b] s) z 961 [(0, .ref b), (1, .ref (g.1 o1)), (2, .ref (g.1 o2)), (3, .int x3)] [] := by
  unfold f_L_law_961 at hf
  refine z_aload_n C dL_law_961 rfl 1 rfl ?_
  obtain ⟨r1, hc2, hf⟩ := q_bd hf
  refine z_cVi C (st := []) (c_X10_image ho1 hc2) mw_X10_image ml_L_125 ho1 (by decide) rfl dL_law_962 rfl rfl rfl ⟨Nat.le_of_ble_eq_true rfl, Nat.le_of_ble_eq_true rfl⟩ rfl (Nat.le_of_ble_eq_true rfl) ?_
  refine z_aload_n C dL_law_965 rfl 2 rfl ?_
  obtain ⟨r3, hc4, hf⟩ := q_bd hf
  refine z_cVi C (st := [.int r1.2]) (c_X11_image ho2 hc4) mw_X11_image ml_L_128 ho2 (by decide) rfl dL_law_966 rfl rfl rfl ⟨Nat.le_of_ble_eq_true rfl, Nat.le_of_ble_eq_true rfl⟩ rfl (Nat.le_of_ble_eq_true rfl) ?_
  exact z_icmp_eq C dL_law_969 (by decide) (fun h => z_sub [0, 1, 2, 3] rfl (b_L_law_1223 C hr hk hX hbl hA hkc hK18 r3.1 o1 o2 x3 ho1 ho2 hres (q_t hf h))) (fun h => z_sub [] rfl (b_L_law_972 C hr hk hX hbl hA hkc r3.1 hres (q_f hf h)))
def f_L_law_985 (xs : Nat → Int32) (L : Nat)  (z : St)  : Option (St × Int32) :=
  some (z, 0)
theorem b_L_law_985 {p : Program} {l : Launch} {e : Env} {s : State} {m : MethodId} {below : List Frame} {meth : Method} {c : Code} {b L : Nat} {xs : Nat → Int32} {kc : Nat × Nat} {g : Ga} {A : Nat → Prop} (C : Cx l g A p s m #[Value.ref b] c cL_law 4 RL room_1 kc) (hr : meth.sig.returnType = ret) (hk : meth.locks = false) (hX : va_X b L xs s s.heap) (hbl : b < s.heap.size) (hA : ∀ q, A q → s.heap.size ≤ q) (hkc : kc.1 ≤ 600000 ∧ kc.2 ≤ 7302250)   (z : St)   {res : St × Int32} (hres : res.2 = 1) (hf : f_L_law_985 xs L  z  = some res) : Zj p l e room_1 s m #[Value.ref b] below meth c g A 4 kc (lw_Z below #[Value.ref b] s) z 985 [] [] := by
  unfold f_L_law_985 at hf
  refine z_iconst C dL_law_985 (v := 0) (by decide) ?_
  cases hf
  exact z_lawret C hr hk hA hkc hres dL_law_986
def f_L_law_974 (xs : Nat → Int32) (L : Nat) (K18 : St → Nat → Nat → Int32 → Option (St × Int32)) (z : St) (o1 : Nat) (o2 : Nat) (x3 : Int32) : Option (St × Int32) :=
  ((f_X10_back z o1).bind fun r1 => ((f_X11_back r1.1 o2).bind fun r3 => if r1.2 = r3.2 then f_L_law_1223 xs L K18 r3.1 o1 o2 x3 else f_L_law_985 xs L r3.1))
theorem b_L_law_974 {p : Program} {l : Launch} {e : Env} {s : State} {m : MethodId} {below : List Frame} {meth : Method} {c : Code} {b L : Nat} {xs : Nat → Int32} {kc : Nat × Nat} {g : Ga} {A : Nat → Prop} (C : Cx l g A p s m #[Value.ref b] c cL_law 4 RL room_1 kc) (hr : meth.sig.returnType = ret) (hk : meth.locks = false) (hX : va_X b L xs s s.heap) (hbl : b < s.heap.size) (hA : ∀ q, A q → s.heap.size ≤ q) (hkc : kc.1 ≤ 600000 ∧ kc.2 ≤ 7302250) {K18 : St → Nat → Nat → Int32 → Option (St × Int32)} (hK18 : ∀ (z : St) (o1 : Nat) (o2 : Nat) (x3 : Int32) (_ : kd o1 = 10) (_ : kd o2 = 11) {res : St × Int32} (_ : res.2 = 1), K18 z o1 o2 x3 = some res → Zj p l e room_1 s m #[Value.ref b] below meth c g A 4 kc (lw_Z below #[Value.ref b] s) z 18 [(0, .ref b), (1, .ref (g.1 o1)), (2, .ref (g.1 o2)), (3, .int x3)] []) (z : St) (o1 : Nat) (o2 : Nat) (x3 : Int32) (ho1 : kd o1 = 10) (ho2 : kd o2 = 11) {res : St × Int32} (hres : res.2 = 1) (hf : f_L_law_974 xs L K18 z o1 o2 x3 = some res) : Zj p l e room_1 s m #[Value.ref b] below meth c g A 4 kc (lw_Z below #[Value.ref b] s) z 974 [(0, .ref b), (1, .ref (g.1 o1)), (2, .ref (g.1 o2)), (3, .int x3)] [] := by
  unfold f_L_law_974 at hf
  refine z_aload_n C dL_law_974 rfl 1 rfl ?_
  obtain ⟨r1, hc2, hf⟩ := q_bd hf
  refine z_cVi C (st := []) (c_X10_back ho1 hc2) mw_X10_back ml_L_129 ho1 (by decide) rfl dL_law_975 rfl rfl rfl ⟨Nat.le_of_ble_eq_true rfl, Nat.le_of_ble_eq_true rfl⟩ rfl (Nat.le_of_ble_eq_true rfl) ?_
  refine z_aload_n C dL_law_978 rfl 2 rfl ?_
  obtain ⟨r3, hc4, hf⟩ := q_bd hf
  refine z_cVi C (st := [.int r1.2]) (c_X11_back ho2 hc4) mw_X11_back ml_L_132 ho2 (by decide) rfl dL_law_979 rfl rfl rfl ⟨Nat.le_of_ble_eq_true rfl, Nat.le_of_ble_eq_true rfl⟩ rfl (Nat.le_of_ble_eq_true rfl) ?_
  exact z_icmp_eq C dL_law_982 (by decide) (fun h => z_sub [0, 1, 2, 3] rfl (b_L_law_1223 C hr hk hX hbl hA hkc hK18 r3.1 o1 o2 x3 ho1 ho2 hres (q_t hf h))) (fun h => z_sub [] rfl (b_L_law_985 C hr hk hX hbl hA hkc r3.1 hres (q_f hf h)))
def f_L_law_1008 (xs : Nat → Int32) (L : Nat)  (z : St)  : Option (St × Int32) :=
  some (z, 0)
theorem b_L_law_1008 {p : Program} {l : Launch} {e : Env} {s : State} {m : MethodId} {below : List Frame} {meth : Method} {c : Code} {b L : Nat} {xs : Nat → Int32} {kc : Nat × Nat} {g : Ga} {A : Nat → Prop} (C : Cx l g A p s m #[Value.ref b] c cL_law 4 RL room_1 kc) (hr : meth.sig.returnType = ret) (hk : meth.locks = false) (hX : va_X b L xs s s.heap) (hbl : b < s.heap.size) (hA : ∀ q, A q → s.heap.size ≤ q) (hkc : kc.1 ≤ 600000 ∧ kc.2 ≤ 7302250)   (z : St)   {res : St × Int32} (hres : res.2 = 1) (hf : f_L_law_1008 xs L  z  = some res) : Zj p l e room_1 s m #[Value.ref b] below meth c g A 4 kc (lw_Z below #[Value.ref b] s) z 1008 [] [] := by
  unfold f_L_law_1008 at hf
  refine z_iconst C dL_law_1008 (v := 0) (by decide) ?_
  cases hf
  exact z_lawret C hr hk hA hkc hres dL_law_1009
def f_L_law_987 (xs : Nat → Int32) (L : Nat) (K18 : St → Nat → Nat → Int32 → Option (St × Int32)) (z : St) (o1 : Nat) (o2 : Nat) (x3 : Int32) : Option (St × Int32) :=
  if inb (x3 + 1) L = true then (((f_X10_count z o1 (xs (Int32.toNatClampNeg (x3 + 1)))).bind fun r2 => if inb (x3 + 1) L = true then (((f_X11_count r2.1 o2 (xs (Int32.toNatClampNeg (x3 + 1)))).bind fun r5 => if r2.2 = r5.2 then f_L_law_1223 xs L K18 r5.1 o1 o2 x3 else f_L_law_1008 xs L r5.1)) else none)) else none
theorem b_L_law_987 {p : Program} {l : Launch} {e : Env} {s : State} {m : MethodId} {below : List Frame} {meth : Method} {c : Code} {b L : Nat} {xs : Nat → Int32} {kc : Nat × Nat} {g : Ga} {A : Nat → Prop} (C : Cx l g A p s m #[Value.ref b] c cL_law 4 RL room_1 kc) (hr : meth.sig.returnType = ret) (hk : meth.locks = false) (hX : va_X b L xs s s.heap) (hbl : b < s.heap.size) (hA : ∀ q, A q → s.heap.size ≤ q) (hkc : kc.1 ≤ 600000 ∧ kc.2 ≤ 7302250) {K18 : St → Nat → Nat → Int32 → Option (St × Int32)} (hK18 : ∀ (z : St) (o1 : Nat) (o2 : Nat) (x3 : Int32) (_ : kd o1 = 10) (_ : kd o2 = 11) {res : St × Int32} (_ : res.2 = 1), K18 z o1 o2 x3 = some res → Zj p l e room_1 s m #[Value.ref b] below meth c g A 4 kc (lw_Z below #[Value.ref b] s) z 18 [(0, .ref b), (1, .ref (g.1 o1)), (2, .ref (g.1 o2)), (3, .int x3)] []) (z : St) (o1 : Nat) (o2 : Nat) (x3 : Int32) (ho1 : kd o1 = 10) (ho2 : kd o2 = 11) {res : St × Int32} (hres : res.2 = 1) (hf : f_L_law_987 xs L K18 z o1 o2 x3 = some res) : Zj p l e room_1 s m #[Value.ref b] below meth c g A 4 kc (lw_Z below #[Value.ref b] s) z 987 [(0, .ref b), (1, .ref (g.1 o1)), (2, .ref (g.1 o2)), (3, .int x3)] [] := by
  unfold f_L_law_987 at hf
  refine z_aload_n C dL_law_987 rfl 1 rfl ?_
  refine z_aload_n C dL_law_988 rfl 0 rfl ?_
  refine z_iload_n C dL_law_989 rfl 3 rfl ?_
  refine z_iconst C dL_law_990 (v := 1) (by decide) ?_
  refine z_iadd C dL_law_991 ?_
  obtain ⟨h1, hf⟩ := q_ck hf
  refine z_sld C hX hbl hA dL_law_992 h1 ?_
  obtain ⟨r2, hc3, hf⟩ := q_bd hf
  refine z_cVi C (st := []) (c_X10_count ho1 hc3) mw_X10_count ml_L_133 ho1 (by decide) rfl dL_law_993 rfl rfl rfl ⟨Nat.le_of_ble_eq_true rfl, Nat.le_of_ble_eq_true rfl⟩ rfl (Nat.le_of_ble_eq_true rfl) ?_
  refine z_aload_n C dL_law_996 rfl 2 rfl ?_
  refine z_aload_n C dL_law_997 rfl 0 rfl ?_
  refine z_iload_n C dL_law_998 rfl 3 rfl ?_
  refine z_iconst C dL_law_999 (v := 1) (by decide) ?_
  refine z_iadd C dL_law_1000 ?_
  obtain ⟨h4, hf⟩ := q_ck hf
  refine z_sld C hX hbl hA dL_law_1001 h4 ?_
  obtain ⟨r5, hc6, hf⟩ := q_bd hf
  refine z_cVi C (st := [.int r2.2]) (c_X11_count ho2 hc6) mw_X11_count ml_L_136 ho2 (by decide) rfl dL_law_1002 rfl rfl rfl ⟨Nat.le_of_ble_eq_true rfl, Nat.le_of_ble_eq_true rfl⟩ rfl (Nat.le_of_ble_eq_true rfl) ?_
  exact z_icmp_eq C dL_law_1005 (by decide) (fun h => z_sub [0, 1, 2, 3] rfl (b_L_law_1223 C hr hk hX hbl hA hkc hK18 r5.1 o1 o2 x3 ho1 ho2 hres (q_t hf h))) (fun h => z_sub [] rfl (b_L_law_1008 C hr hk hX hbl hA hkc r5.1 hres (q_f hf h)))
def f_L_law_1051 (xs : Nat → Int32) (L : Nat)  (z : St)  : Option (St × Int32) :=
  some (z, 0)
theorem b_L_law_1051 {p : Program} {l : Launch} {e : Env} {s : State} {m : MethodId} {below : List Frame} {meth : Method} {c : Code} {b L : Nat} {xs : Nat → Int32} {kc : Nat × Nat} {g : Ga} {A : Nat → Prop} (C : Cx l g A p s m #[Value.ref b] c cL_law 4 RL room_1 kc) (hr : meth.sig.returnType = ret) (hk : meth.locks = false) (hX : va_X b L xs s s.heap) (hbl : b < s.heap.size) (hA : ∀ q, A q → s.heap.size ≤ q) (hkc : kc.1 ≤ 600000 ∧ kc.2 ≤ 7302250)   (z : St)   {res : St × Int32} (hres : res.2 = 1) (hf : f_L_law_1051 xs L  z  = some res) : Zj p l e room_1 s m #[Value.ref b] below meth c g A 4 kc (lw_Z below #[Value.ref b] s) z 1051 [] [] := by
  unfold f_L_law_1051 at hf
  refine z_iconst C dL_law_1051 (v := 0) (by decide) ?_
  cases hf
  exact z_lawret C hr hk hA hkc hres dL_law_1052
def f_L_law_1010 (xs : Nat → Int32) (L : Nat) (K18 : St → Nat → Nat → Int32 → Option (St × Int32)) (z : St) (o1 : Nat) (o2 : Nat) (x3 : Int32) : Option (St × Int32) :=
  if inb (x3 + 1) L = true then (if inb (x3 + 2) L = true then (if inb (x3 + 3) L = true then (((f_X10_sheet z o1 (xs (Int32.toNatClampNeg (x3 + 1))) (xs (Int32.toNatClampNeg (x3 + 2))) (xs (Int32.toNatClampNeg (x3 + 3)))).bind fun r4 => if inb (x3 + 1) L = true then (if inb (x3 + 2) L = true then (if inb (x3 + 3) L = true then (((f_X11_sheet r4.1 o2 (xs (Int32.toNatClampNeg (x3 + 1))) (xs (Int32.toNatClampNeg (x3 + 2))) (xs (Int32.toNatClampNeg (x3 + 3)))).bind fun r9 => if r4.2 = r9.2 then f_L_law_1223 xs L K18 r9.1 o1 o2 x3 else f_L_law_1051 xs L r9.1)) else none) else none) else none)) else none) else none) else none
theorem b_L_law_1010 {p : Program} {l : Launch} {e : Env} {s : State} {m : MethodId} {below : List Frame} {meth : Method} {c : Code} {b L : Nat} {xs : Nat → Int32} {kc : Nat × Nat} {g : Ga} {A : Nat → Prop} (C : Cx l g A p s m #[Value.ref b] c cL_law 4 RL room_1 kc) (hr : meth.sig.returnType = ret) (hk : meth.locks = false) (hX : va_X b L xs s s.heap) (hbl : b < s.heap.size) (hA : ∀ q, A q → s.heap.size ≤ q) (hkc : kc.1 ≤ 600000 ∧ kc.2 ≤ 7302250) {K18 : St → Nat → Nat → Int32 → Option (St × Int32)} (hK18 : ∀ (z : St) (o1 : Nat) (o2 : Nat) (x3 : Int32) (_ : kd o1 = 10) (_ : kd o2 = 11) {res : St × Int32} (_ : res.2 = 1), K18 z o1 o2 x3 = some res → Zj p l e room_1 s m #[Value.ref b] below meth c g A 4 kc (lw_Z below #[Value.ref b] s) z 18 [(0, .ref b), (1, .ref (g.1 o1)), (2, .ref (g.1 o2)), (3, .int x3)] []) (z : St) (o1 : Nat) (o2 : Nat) (x3 : Int32) (ho1 : kd o1 = 10) (ho2 : kd o2 = 11) {res : St × Int32} (hres : res.2 = 1) (hf : f_L_law_1010 xs L K18 z o1 o2 x3 = some res) : Zj p l e room_1 s m #[Value.ref b] below meth c g A 4 kc (lw_Z below #[Value.ref b] s) z 1010 [(0, .ref b), (1, .ref (g.1 o1)), (2, .ref (g.1 o2)), (3, .int x3)] [] := by
  unfold f_L_law_1010 at hf
  refine z_aload_n C dL_law_1010 rfl 1 rfl ?_
  refine z_aload_n C dL_law_1011 rfl 0 rfl ?_
  refine z_iload_n C dL_law_1012 rfl 3 rfl ?_
  refine z_iconst C dL_law_1013 (v := 1) (by decide) ?_
  refine z_iadd C dL_law_1014 ?_
  obtain ⟨h1, hf⟩ := q_ck hf
  refine z_sld C hX hbl hA dL_law_1015 h1 ?_
  refine z_aload_n C dL_law_1016 rfl 0 rfl ?_
  refine z_iload_n C dL_law_1017 rfl 3 rfl ?_
  refine z_iconst C dL_law_1018 (v := 2) (by decide) ?_
  refine z_iadd C dL_law_1019 ?_
  obtain ⟨h2, hf⟩ := q_ck hf
  refine z_sld C hX hbl hA dL_law_1020 h2 ?_
  refine z_aload_n C dL_law_1021 rfl 0 rfl ?_
  refine z_iload_n C dL_law_1022 rfl 3 rfl ?_
  refine z_iconst C dL_law_1023 (v := 3) (by decide) ?_
  refine z_iadd C dL_law_1024 ?_
  obtain ⟨h3, hf⟩ := q_ck hf
  refine z_sld C hX hbl hA dL_law_1025 h3 ?_
  obtain ⟨r4, hc5, hf⟩ := q_bd hf
  refine z_cVi C (st := []) (c_X10_sheet ho1 hc5) mw_X10_sheet ml_L_137 ho1 (by decide) rfl dL_law_1026 rfl rfl rfl ⟨Nat.le_of_ble_eq_true rfl, Nat.le_of_ble_eq_true rfl⟩ rfl (Nat.le_of_ble_eq_true rfl) ?_
  refine z_aload_n C dL_law_1029 rfl 2 rfl ?_
  refine z_aload_n C dL_law_1030 rfl 0 rfl ?_
  refine z_iload_n C dL_law_1031 rfl 3 rfl ?_
  refine z_iconst C dL_law_1032 (v := 1) (by decide) ?_
  refine z_iadd C dL_law_1033 ?_
  obtain ⟨h6, hf⟩ := q_ck hf
  refine z_sld C hX hbl hA dL_law_1034 h6 ?_
  refine z_aload_n C dL_law_1035 rfl 0 rfl ?_
  refine z_iload_n C dL_law_1036 rfl 3 rfl ?_
  refine z_iconst C dL_law_1037 (v := 2) (by decide) ?_
  refine z_iadd C dL_law_1038 ?_
  obtain ⟨h7, hf⟩ := q_ck hf
  refine z_sld C hX hbl hA dL_law_1039 h7 ?_
  refine z_aload_n C dL_law_1040 rfl 0 rfl ?_
  refine z_iload_n C dL_law_1041 rfl 3 rfl ?_
  refine z_iconst C dL_law_1042 (v := 3) (by decide) ?_
  refine z_iadd C dL_law_1043 ?_
  obtain ⟨h8, hf⟩ := q_ck hf
  refine z_sld C hX hbl hA dL_law_1044 h8 ?_
  obtain ⟨r9, hc10, hf⟩ := q_bd hf
  refine z_cVi C (st := [.int r4.2]) (c_X11_sheet ho2 hc10) mw_X11_sheet ml_L_140 ho2 (by decide) rfl dL_law_1045 rfl rfl rfl ⟨Nat.le_of_ble_eq_true rfl, Nat.le_of_ble_eq_true rfl⟩ rfl (Nat.le_of_ble_eq_true rfl) ?_
  exact z_icmp_eq C dL_law_1048 (by decide) (fun h => z_sub [0, 1, 2, 3] rfl (b_L_law_1223 C hr hk hX hbl hA hkc hK18 r9.1 o1 o2 x3 ho1 ho2 hres (q_t hf h))) (fun h => z_sub [] rfl (b_L_law_1051 C hr hk hX hbl hA hkc r9.1 hres (q_f hf h)))
def f_L_law_1124 (xs : Nat → Int32) (L : Nat)  (z : St)  : Option (St × Int32) :=
  some (z, 0)
theorem b_L_law_1124 {p : Program} {l : Launch} {e : Env} {s : State} {m : MethodId} {below : List Frame} {meth : Method} {c : Code} {b L : Nat} {xs : Nat → Int32} {kc : Nat × Nat} {g : Ga} {A : Nat → Prop} (C : Cx l g A p s m #[Value.ref b] c cL_law 4 RL room_1 kc) (hr : meth.sig.returnType = ret) (hk : meth.locks = false) (hX : va_X b L xs s s.heap) (hbl : b < s.heap.size) (hA : ∀ q, A q → s.heap.size ≤ q) (hkc : kc.1 ≤ 600000 ∧ kc.2 ≤ 7302250)   (z : St)   {res : St × Int32} (hres : res.2 = 1) (hf : f_L_law_1124 xs L  z  = some res) : Zj p l e room_1 s m #[Value.ref b] below meth c g A 4 kc (lw_Z below #[Value.ref b] s) z 1124 [] [] := by
  unfold f_L_law_1124 at hf
  refine z_iconst C dL_law_1124 (v := 0) (by decide) ?_
  cases hf
  exact z_lawret C hr hk hA hkc hres dL_law_1125
def f_L_law_1053 (xs : Nat → Int32) (L : Nat) (K18 : St → Nat → Nat → Int32 → Option (St × Int32)) (z : St) (o1 : Nat) (o2 : Nat) (x3 : Int32) : Option (St × Int32) :=
  if inb (x3 + 1) L = true then (if inb (x3 + 2) L = true then (if inb (x3 + 3) L = true then (if inb (x3 + 4) L = true then (((f_X10_put z o1 (xs (Int32.toNatClampNeg (x3 + 1))) (xs (Int32.toNatClampNeg (x3 + 2))) (((Int32.toInt64 (xs (Int32.toNatClampNeg (x3 + 3)))) <<< (Int32.toInt64 32 &&& 63)) ||| ((Int32.toInt64 (xs (Int32.toNatClampNeg (x3 + 4)))) &&& 4294967295))).bind fun r5 => if inb (x3 + 1) L = true then (if inb (x3 + 2) L = true then (if inb (x3 + 3) L = true then (if inb (x3 + 4) L = true then (((f_X11_put r5.1 o2 (xs (Int32.toNatClampNeg (x3 + 1))) (xs (Int32.toNatClampNeg (x3 + 2))) (((Int32.toInt64 (xs (Int32.toNatClampNeg (x3 + 3)))) <<< (Int32.toInt64 32 &&& 63)) ||| ((Int32.toInt64 (xs (Int32.toNatClampNeg (x3 + 4)))) &&& 4294967295))).bind fun r11 => if r5.2 = r11.2 then f_L_law_1223 xs L K18 r11.1 o1 o2 x3 else f_L_law_1124 xs L r11.1)) else none) else none) else none) else none)) else none) else none) else none) else none
theorem b_L_law_1053 {p : Program} {l : Launch} {e : Env} {s : State} {m : MethodId} {below : List Frame} {meth : Method} {c : Code} {b L : Nat} {xs : Nat → Int32} {kc : Nat × Nat} {g : Ga} {A : Nat → Prop} (C : Cx l g A p s m #[Value.ref b] c cL_law 4 RL room_1 kc) (hr : meth.sig.returnType = ret) (hk : meth.locks = false) (hX : va_X b L xs s s.heap) (hbl : b < s.heap.size) (hA : ∀ q, A q → s.heap.size ≤ q) (hkc : kc.1 ≤ 600000 ∧ kc.2 ≤ 7302250) {K18 : St → Nat → Nat → Int32 → Option (St × Int32)} (hK18 : ∀ (z : St) (o1 : Nat) (o2 : Nat) (x3 : Int32) (_ : kd o1 = 10) (_ : kd o2 = 11) {res : St × Int32} (_ : res.2 = 1), K18 z o1 o2 x3 = some res → Zj p l e room_1 s m #[Value.ref b] below meth c g A 4 kc (lw_Z below #[Value.ref b] s) z 18 [(0, .ref b), (1, .ref (g.1 o1)), (2, .ref (g.1 o2)), (3, .int x3)] []) (z : St) (o1 : Nat) (o2 : Nat) (x3 : Int32) (ho1 : kd o1 = 10) (ho2 : kd o2 = 11) {res : St × Int32} (hres : res.2 = 1) (hf : f_L_law_1053 xs L K18 z o1 o2 x3 = some res) : Zj p l e room_1 s m #[Value.ref b] below meth c g A 4 kc (lw_Z below #[Value.ref b] s) z 1053 [(0, .ref b), (1, .ref (g.1 o1)), (2, .ref (g.1 o2)), (3, .int x3)] [] := by
  unfold f_L_law_1053 at hf
  refine z_aload_n C dL_law_1053 rfl 1 rfl ?_
  refine z_aload_n C dL_law_1054 rfl 0 rfl ?_
  refine z_iload_n C dL_law_1055 rfl 3 rfl ?_
  refine z_iconst C dL_law_1056 (v := 1) (by decide) ?_
  refine z_iadd C dL_law_1057 ?_
  obtain ⟨h1, hf⟩ := q_ck hf
  refine z_sld C hX hbl hA dL_law_1058 h1 ?_
  refine z_aload_n C dL_law_1059 rfl 0 rfl ?_
  refine z_iload_n C dL_law_1060 rfl 3 rfl ?_
  refine z_iconst C dL_law_1061 (v := 2) (by decide) ?_
  refine z_iadd C dL_law_1062 ?_
  obtain ⟨h2, hf⟩ := q_ck hf
  refine z_sld C hX hbl hA dL_law_1063 h2 ?_
  refine z_aload_n C dL_law_1064 rfl 0 rfl ?_
  refine z_iload_n C dL_law_1065 rfl 3 rfl ?_
  refine z_iconst C dL_law_1066 (v := 3) (by decide) ?_
  refine z_iadd C dL_law_1067 ?_
  obtain ⟨h3, hf⟩ := q_ck hf
  refine z_sld C hX hbl hA dL_law_1068 h3 ?_
  refine z_i2l C dL_law_1069 ?_
  refine z_bipush C dL_law_1070 (v := 32) (by decide) ?_
  refine z_lshl C dL_law_1072 ?_
  refine z_aload_n C dL_law_1073 rfl 0 rfl ?_
  refine z_iload_n C dL_law_1074 rfl 3 rfl ?_
  refine z_iconst C dL_law_1075 (v := 4) (by decide) ?_
  refine z_iadd C dL_law_1076 ?_
  obtain ⟨h4, hf⟩ := q_ck hf
  refine z_sld C hX hbl hA dL_law_1077 h4 ?_
  refine z_i2l C dL_law_1078 ?_
  refine z_ldc2 C dL_law_1079 kc_L_141 ?_
  refine z_land C dL_law_1082 ?_
  refine z_lor C dL_law_1083 ?_
  obtain ⟨r5, hc6, hf⟩ := q_bd hf
  refine z_cVi C (st := []) (c_X10_put ho1 hc6) mw_X10_put ml_L_143 ho1 (by decide) rfl dL_law_1084 rfl rfl rfl ⟨Nat.le_of_ble_eq_true rfl, Nat.le_of_ble_eq_true rfl⟩ rfl (Nat.le_of_ble_eq_true rfl) ?_
  refine z_aload_n C dL_law_1087 rfl 2 rfl ?_
  refine z_aload_n C dL_law_1088 rfl 0 rfl ?_
  refine z_iload_n C dL_law_1089 rfl 3 rfl ?_
  refine z_iconst C dL_law_1090 (v := 1) (by decide) ?_
  refine z_iadd C dL_law_1091 ?_
  obtain ⟨h7, hf⟩ := q_ck hf
  refine z_sld C hX hbl hA dL_law_1092 h7 ?_
  refine z_aload_n C dL_law_1093 rfl 0 rfl ?_
  refine z_iload_n C dL_law_1094 rfl 3 rfl ?_
  refine z_iconst C dL_law_1095 (v := 2) (by decide) ?_
  refine z_iadd C dL_law_1096 ?_
  obtain ⟨h8, hf⟩ := q_ck hf
  refine z_sld C hX hbl hA dL_law_1097 h8 ?_
  refine z_aload_n C dL_law_1098 rfl 0 rfl ?_
  refine z_iload_n C dL_law_1099 rfl 3 rfl ?_
  refine z_iconst C dL_law_1100 (v := 3) (by decide) ?_
  refine z_iadd C dL_law_1101 ?_
  obtain ⟨h9, hf⟩ := q_ck hf
  refine z_sld C hX hbl hA dL_law_1102 h9 ?_
  refine z_i2l C dL_law_1103 ?_
  refine z_bipush C dL_law_1104 (v := 32) (by decide) ?_
  refine z_lshl C dL_law_1106 ?_
  refine z_aload_n C dL_law_1107 rfl 0 rfl ?_
  refine z_iload_n C dL_law_1108 rfl 3 rfl ?_
  refine z_iconst C dL_law_1109 (v := 4) (by decide) ?_
  refine z_iadd C dL_law_1110 ?_
  obtain ⟨h10, hf⟩ := q_ck hf
  refine z_sld C hX hbl hA dL_law_1111 h10 ?_
  refine z_i2l C dL_law_1112 ?_
  refine z_ldc2 C dL_law_1113 kc_L_141 ?_
  refine z_land C dL_law_1116 ?_
  refine z_lor C dL_law_1117 ?_
  obtain ⟨r11, hc12, hf⟩ := q_bd hf
  refine z_cVi C (st := [.int r5.2]) (c_X11_put ho2 hc12) mw_X11_put ml_L_147 ho2 (by decide) rfl dL_law_1118 rfl rfl rfl ⟨Nat.le_of_ble_eq_true rfl, Nat.le_of_ble_eq_true rfl⟩ rfl (Nat.le_of_ble_eq_true rfl) ?_
  exact z_icmp_eq C dL_law_1121 (by decide) (fun h => z_sub [0, 1, 2, 3] rfl (b_L_law_1223 C hr hk hX hbl hA hkc hK18 r11.1 o1 o2 x3 ho1 ho2 hres (q_t hf h))) (fun h => z_sub [] rfl (b_L_law_1124 C hr hk hX hbl hA hkc r11.1 hres (q_f hf h)))
def f_L_law_1158 (xs : Nat → Int32) (L : Nat)  (z : St)  : Option (St × Int32) :=
  some (z, 0)
theorem b_L_law_1158 {p : Program} {l : Launch} {e : Env} {s : State} {m : MethodId} {below : List Frame} {meth : Method} {c : Code} {b L : Nat} {xs : Nat → Int32} {kc : Nat × Nat} {g : Ga} {A : Nat → Prop} (C : Cx l g A p s m #[Value.ref b] c cL_law 4 RL room_1 kc) (hr : meth.sig.returnType = ret) (hk : meth.locks = false) (hX : va_X b L xs s s.heap) (hbl : b < s.heap.size) (hA : ∀ q, A q → s.heap.size ≤ q) (hkc : kc.1 ≤ 600000 ∧ kc.2 ≤ 7302250)   (z : St)   {res : St × Int32} (hres : res.2 = 1) (hf : f_L_law_1158 xs L  z  = some res) : Zj p l e room_1 s m #[Value.ref b] below meth c g A 4 kc (lw_Z below #[Value.ref b] s) z 1158 [] [] := by
  unfold f_L_law_1158 at hf
  refine z_iconst C dL_law_1158 (v := 0) (by decide) ?_
  cases hf
  exact z_lawret C hr hk hA hkc hres dL_law_1159
def f_L_law_1126 (xs : Nat → Int32) (L : Nat) (K18 : St → Nat → Nat → Int32 → Option (St × Int32)) (z : St) (o1 : Nat) (o2 : Nat) (x3 : Int32) : Option (St × Int32) :=
  if inb (x3 + 1) L = true then (if inb (x3 + 2) L = true then (((f_X10_item z o1 (xs (Int32.toNatClampNeg (x3 + 1))) (xs (Int32.toNatClampNeg (x3 + 2)))).bind fun r3 => if inb (x3 + 1) L = true then (if inb (x3 + 2) L = true then (((f_X11_item_ r3.1 o2 (xs (Int32.toNatClampNeg (x3 + 1))) (xs (Int32.toNatClampNeg (x3 + 2)))).bind fun r7 => if (lg_cmp r3.2 r7.2) = 0 then f_L_law_1223 xs L K18 r7.1 o1 o2 x3 else f_L_law_1158 xs L r7.1)) else none) else none)) else none) else none
theorem b_L_law_1126 {p : Program} {l : Launch} {e : Env} {s : State} {m : MethodId} {below : List Frame} {meth : Method} {c : Code} {b L : Nat} {xs : Nat → Int32} {kc : Nat × Nat} {g : Ga} {A : Nat → Prop} (C : Cx l g A p s m #[Value.ref b] c cL_law 4 RL room_1 kc) (hr : meth.sig.returnType = ret) (hk : meth.locks = false) (hX : va_X b L xs s s.heap) (hbl : b < s.heap.size) (hA : ∀ q, A q → s.heap.size ≤ q) (hkc : kc.1 ≤ 600000 ∧ kc.2 ≤ 7302250) {K18 : St → Nat → Nat → Int32 → Option (St × Int32)} (hK18 : ∀ (z : St) (o1 : Nat) (o2 : Nat) (x3 : Int32) (_ : kd o1 = 10) (_ : kd o2 = 11) {res : St × Int32} (_ : res.2 = 1), K18 z o1 o2 x3 = some res → Zj p l e room_1 s m #[Value.ref b] below meth c g A 4 kc (lw_Z below #[Value.ref b] s) z 18 [(0, .ref b), (1, .ref (g.1 o1)), (2, .ref (g.1 o2)), (3, .int x3)] []) (z : St) (o1 : Nat) (o2 : Nat) (x3 : Int32) (ho1 : kd o1 = 10) (ho2 : kd o2 = 11) {res : St × Int32} (hres : res.2 = 1) (hf : f_L_law_1126 xs L K18 z o1 o2 x3 = some res) : Zj p l e room_1 s m #[Value.ref b] below meth c g A 4 kc (lw_Z below #[Value.ref b] s) z 1126 [(0, .ref b), (1, .ref (g.1 o1)), (2, .ref (g.1 o2)), (3, .int x3)] [] := by
  unfold f_L_law_1126 at hf
  refine z_aload_n C dL_law_1126 rfl 1 rfl ?_
  refine z_aload_n C dL_law_1127 rfl 0 rfl ?_
  refine z_iload_n C dL_law_1128 rfl 3 rfl ?_
  refine z_iconst C dL_law_1129 (v := 1) (by decide) ?_
  refine z_iadd C dL_law_1130 ?_
  obtain ⟨h1, hf⟩ := q_ck hf
  refine z_sld C hX hbl hA dL_law_1131 h1 ?_
  refine z_aload_n C dL_law_1132 rfl 0 rfl ?_
  refine z_iload_n C dL_law_1133 rfl 3 rfl ?_
  refine z_iconst C dL_law_1134 (v := 2) (by decide) ?_
  refine z_iadd C dL_law_1135 ?_
  obtain ⟨h2, hf⟩ := q_ck hf
  refine z_sld C hX hbl hA dL_law_1136 h2 ?_
  obtain ⟨r3, hc4, hf⟩ := q_bd hf
  refine z_cVl C (st := []) (c_X10_item ho1 hc4) mw_X10_item ml_L_148 ho1 (by decide) rfl dL_law_1137 rfl rfl rfl ⟨Nat.le_of_ble_eq_true rfl, Nat.le_of_ble_eq_true rfl⟩ rfl (Nat.le_of_ble_eq_true rfl) ?_
  refine z_aload_n C dL_law_1140 rfl 2 rfl ?_
  refine z_aload_n C dL_law_1141 rfl 0 rfl ?_
  refine z_iload_n C dL_law_1142 rfl 3 rfl ?_
  refine z_iconst C dL_law_1143 (v := 1) (by decide) ?_
  refine z_iadd C dL_law_1144 ?_
  obtain ⟨h5, hf⟩ := q_ck hf
  refine z_sld C hX hbl hA dL_law_1145 h5 ?_
  refine z_aload_n C dL_law_1146 rfl 0 rfl ?_
  refine z_iload_n C dL_law_1147 rfl 3 rfl ?_
  refine z_iconst C dL_law_1148 (v := 2) (by decide) ?_
  refine z_iadd C dL_law_1149 ?_
  obtain ⟨h6, hf⟩ := q_ck hf
  refine z_sld C hX hbl hA dL_law_1150 h6 ?_
  obtain ⟨r7, hc8, hf⟩ := q_bd hf
  refine z_cVl C (st := [.long r3.2]) (c_X11_item_ ho2 hc8) mw_X11_item_ ml_L_151 ho2 (by decide) rfl dL_law_1151 rfl rfl rfl ⟨Nat.le_of_ble_eq_true rfl, Nat.le_of_ble_eq_true rfl⟩ rfl (Nat.le_of_ble_eq_true rfl) ?_
  refine z_lcmp C dL_law_1154 ?_
  exact z_if_eq C dL_law_1155 (by decide) (fun h => z_sub [0, 1, 2, 3] rfl (b_L_law_1223 C hr hk hX hbl hA hkc hK18 r7.1 o1 o2 x3 ho1 ho2 hres (q_t hf h))) (fun h => z_sub [] rfl (b_L_law_1158 C hr hk hX hbl hA hkc r7.1 hres (q_f hf h)))
def f_L_law_1221 (xs : Nat → Int32) (L : Nat)  (z : St)  : Option (St × Int32) :=
  some (z, 0)
theorem b_L_law_1221 {p : Program} {l : Launch} {e : Env} {s : State} {m : MethodId} {below : List Frame} {meth : Method} {c : Code} {b L : Nat} {xs : Nat → Int32} {kc : Nat × Nat} {g : Ga} {A : Nat → Prop} (C : Cx l g A p s m #[Value.ref b] c cL_law 4 RL room_1 kc) (hr : meth.sig.returnType = ret) (hk : meth.locks = false) (hX : va_X b L xs s s.heap) (hbl : b < s.heap.size) (hA : ∀ q, A q → s.heap.size ≤ q) (hkc : kc.1 ≤ 600000 ∧ kc.2 ≤ 7302250)   (z : St)   {res : St × Int32} (hres : res.2 = 1) (hf : f_L_law_1221 xs L  z  = some res) : Zj p l e room_1 s m #[Value.ref b] below meth c g A 4 kc (lw_Z below #[Value.ref b] s) z 1221 [] [] := by
  unfold f_L_law_1221 at hf
  refine z_iconst C dL_law_1221 (v := 0) (by decide) ?_
  cases hf
  exact z_lawret C hr hk hA hkc hres dL_law_1222
def f_L_law_1160 (xs : Nat → Int32) (L : Nat) (K18 : St → Nat → Nat → Int32 → Option (St × Int32)) (z : St) (o1 : Nat) (o2 : Nat) (x3 : Int32) : Option (St × Int32) :=
  if inb (x3 + 1) L = true then (if inb (x3 + 2) L = true then (if inb (x3 + 3) L = true then (if inb (x3 + 4) L = true then (if inb (x3 + 5) L = true then (((f_X10_copy z o1 (xs (Int32.toNatClampNeg (x3 + 1))) (xs (Int32.toNatClampNeg (x3 + 2))) (xs (Int32.toNatClampNeg (x3 + 3))) (xs (Int32.toNatClampNeg (x3 + 4))) (xs (Int32.toNatClampNeg (x3 + 5)))).bind fun r6 => if inb (x3 + 1) L = true then (if inb (x3 + 2) L = true then (if inb (x3 + 3) L = true then (if inb (x3 + 4) L = true then (if inb (x3 + 5) L = true then (((f_X11_copy r6.1 o2 (xs (Int32.toNatClampNeg (x3 + 1))) (xs (Int32.toNatClampNeg (x3 + 2))) (xs (Int32.toNatClampNeg (x3 + 3))) (xs (Int32.toNatClampNeg (x3 + 4))) (xs (Int32.toNatClampNeg (x3 + 5)))).bind fun r13 => if r6.2 = r13.2 then f_L_law_1223 xs L K18 r13.1 o1 o2 x3 else f_L_law_1221 xs L r13.1)) else none) else none) else none) else none) else none)) else none) else none) else none) else none) else none
theorem b_L_law_1160 {p : Program} {l : Launch} {e : Env} {s : State} {m : MethodId} {below : List Frame} {meth : Method} {c : Code} {b L : Nat} {xs : Nat → Int32} {kc : Nat × Nat} {g : Ga} {A : Nat → Prop} (C : Cx l g A p s m #[Value.ref b] c cL_law 4 RL room_1 kc) (hr : meth.sig.returnType = ret) (hk : meth.locks = false) (hX : va_X b L xs s s.heap) (hbl : b < s.heap.size) (hA : ∀ q, A q → s.heap.size ≤ q) (hkc : kc.1 ≤ 600000 ∧ kc.2 ≤ 7302250) {K18 : St → Nat → Nat → Int32 → Option (St × Int32)} (hK18 : ∀ (z : St) (o1 : Nat) (o2 : Nat) (x3 : Int32) (_ : kd o1 = 10) (_ : kd o2 = 11) {res : St × Int32} (_ : res.2 = 1), K18 z o1 o2 x3 = some res → Zj p l e room_1 s m #[Value.ref b] below meth c g A 4 kc (lw_Z below #[Value.ref b] s) z 18 [(0, .ref b), (1, .ref (g.1 o1)), (2, .ref (g.1 o2)), (3, .int x3)] []) (z : St) (o1 : Nat) (o2 : Nat) (x3 : Int32) (ho1 : kd o1 = 10) (ho2 : kd o2 = 11) {res : St × Int32} (hres : res.2 = 1) (hf : f_L_law_1160 xs L K18 z o1 o2 x3 = some res) : Zj p l e room_1 s m #[Value.ref b] below meth c g A 4 kc (lw_Z below #[Value.ref b] s) z 1160 [(0, .ref b), (1, .ref (g.1 o1)), (2, .ref (g.1 o2)), (3, .int x3)] [] := by
  unfold f_L_law_1160 at hf
  refine z_aload_n C dL_law_1160 rfl 1 rfl ?_
  refine z_aload_n C dL_law_1161 rfl 0 rfl ?_
  refine z_iload_n C dL_law_1162 rfl 3 rfl ?_
  refine z_iconst C dL_law_1163 (v := 1) (by decide) ?_
  refine z_iadd C dL_law_1164 ?_
  obtain ⟨h1, hf⟩ := q_ck hf
  refine z_sld C hX hbl hA dL_law_1165 h1 ?_
  refine z_aload_n C dL_law_1166 rfl 0 rfl ?_
  refine z_iload_n C dL_law_1167 rfl 3 rfl ?_
  refine z_iconst C dL_law_1168 (v := 2) (by decide) ?_
  refine z_iadd C dL_law_1169 ?_
  obtain ⟨h2, hf⟩ := q_ck hf
  refine z_sld C hX hbl hA dL_law_1170 h2 ?_
  refine z_aload_n C dL_law_1171 rfl 0 rfl ?_
  refine z_iload_n C dL_law_1172 rfl 3 rfl ?_
  refine z_iconst C dL_law_1173 (v := 3) (by decide) ?_
  refine z_iadd C dL_law_1174 ?_
  obtain ⟨h3, hf⟩ := q_ck hf
  refine z_sld C hX hbl hA dL_law_1175 h3 ?_
  refine z_aload_n C dL_law_1176 rfl 0 rfl ?_
  refine z_iload_n C dL_law_1177 rfl 3 rfl ?_
  refine z_iconst C dL_law_1178 (v := 4) (by decide) ?_
  refine z_iadd C dL_law_1179 ?_
  obtain ⟨h4, hf⟩ := q_ck hf
  refine z_sld C hX hbl hA dL_law_1180 h4 ?_
  refine z_aload_n C dL_law_1181 rfl 0 rfl ?_
  refine z_iload_n C dL_law_1182 rfl 3 rfl ?_
  refine z_iconst C dL_law_1183 (v := 5) (by decide) ?_
  refine z_iadd C dL_law_1184 ?_
  obtain ⟨h5, hf⟩ := q_ck hf
  refine z_sld C hX hbl hA dL_law_1185 h5 ?_
  obtain ⟨r6, hc7, hf⟩ := q_bd hf
  refine z_cVi C (st := []) (c_X10_copy ho1 hc7) mw_X10_copy ml_L_152 ho1 (by decide) rfl dL_law_1186 rfl rfl rfl ⟨Nat.le_of_ble_eq_true rfl, Nat.le_of_ble_eq_true rfl⟩ rfl (Nat.le_of_ble_eq_true rfl) ?_
  refine z_aload_n C dL_law_1189 rfl 2 rfl ?_
  refine z_aload_n C dL_law_1190 rfl 0 rfl ?_
  refine z_iload_n C dL_law_1191 rfl 3 rfl ?_
  refine z_iconst C dL_law_1192 (v := 1) (by decide) ?_
  refine z_iadd C dL_law_1193 ?_
  obtain ⟨h8, hf⟩ := q_ck hf
  refine z_sld C hX hbl hA dL_law_1194 h8 ?_
  refine z_aload_n C dL_law_1195 rfl 0 rfl ?_
  refine z_iload_n C dL_law_1196 rfl 3 rfl ?_
  refine z_iconst C dL_law_1197 (v := 2) (by decide) ?_
  refine z_iadd C dL_law_1198 ?_
  obtain ⟨h9, hf⟩ := q_ck hf
  refine z_sld C hX hbl hA dL_law_1199 h9 ?_
  refine z_aload_n C dL_law_1200 rfl 0 rfl ?_
  refine z_iload_n C dL_law_1201 rfl 3 rfl ?_
  refine z_iconst C dL_law_1202 (v := 3) (by decide) ?_
  refine z_iadd C dL_law_1203 ?_
  obtain ⟨h10, hf⟩ := q_ck hf
  refine z_sld C hX hbl hA dL_law_1204 h10 ?_
  refine z_aload_n C dL_law_1205 rfl 0 rfl ?_
  refine z_iload_n C dL_law_1206 rfl 3 rfl ?_
  refine z_iconst C dL_law_1207 (v := 4) (by decide) ?_
  refine z_iadd C dL_law_1208 ?_
  obtain ⟨h11, hf⟩ := q_ck hf
  refine z_sld C hX hbl hA dL_law_1209 h11 ?_
  refine z_aload_n C dL_law_1210 rfl 0 rfl ?_
  refine z_iload_n C dL_law_1211 rfl 3 rfl ?_
  refine z_iconst C dL_law_1212 (v := 5) (by decide) ?_
  refine z_iadd C dL_law_1213 ?_
  obtain ⟨h12, hf⟩ := q_ck hf
  refine z_sld C hX hbl hA dL_law_1214 h12 ?_
  obtain ⟨r13, hc14, hf⟩ := q_bd hf
  refine z_cVi C (st := [.int r6.2]) (c_X11_copy ho2 hc14) mw_X11_copy ml_L_155 ho2 (by decide) rfl dL_law_1215 rfl rfl rfl ⟨Nat.le_of_ble_eq_true rfl, Nat.le_of_ble_eq_true rfl⟩ rfl (Nat.le_of_ble_eq_true rfl) ?_
  exact z_icmp_eq C dL_law_1218 (by decide) (fun h => z_sub [0, 1, 2, 3] rfl (b_L_law_1223 C hr hk hX hbl hA hkc hK18 r13.1 o1 o2 x3 ho1 ho2 hres (q_t hf h))) (fun h => z_sub [] rfl (b_L_law_1221 C hr hk hX hbl hA hkc r13.1 hres (q_f hf h)))
def f_L_law_27 (xs : Nat → Int32) (L : Nat) (K18 : St → Nat → Nat → Int32 → Option (St × Int32)) (z : St) (o1 : Nat) (o2 : Nat) (x3 : Int32) : Option (St × Int32) :=
  if inb x3 L = true then (if ((xs (Int32.toNatClampNeg x3)) &&& 63) = 0 then f_L_law_180 xs L K18 z o1 o2 x3 else if ((xs (Int32.toNatClampNeg x3)) &&& 63) = 1 then f_L_law_255 xs L K18 z o1 o2 x3 else if ((xs (Int32.toNatClampNeg x3)) &&& 63) = 2 then f_L_law_268 xs L K18 z o1 o2 x3 else if ((xs (Int32.toNatClampNeg x3)) &&& 63) = 3 then f_L_law_321 xs L K18 z o1 o2 x3 else if ((xs (Int32.toNatClampNeg x3)) &&& 63) = 4 then f_L_law_364 xs L K18 z o1 o2 x3 else if ((xs (Int32.toNatClampNeg x3)) &&& 63) = 5 then f_L_law_397 xs L K18 z o1 o2 x3 else if ((xs (Int32.toNatClampNeg x3)) &&& 63) = 6 then f_L_law_420 xs L K18 z o1 o2 x3 else if ((xs (Int32.toNatClampNeg x3)) &&& 63) = 7 then f_L_law_453 xs L K18 z o1 o2 x3 else if ((xs (Int32.toNatClampNeg x3)) &&& 63) = 8 then f_L_law_486 xs L K18 z o1 o2 x3 else if ((xs (Int32.toNatClampNeg x3)) &&& 63) = 9 then f_L_law_509 xs L K18 z o1 o2 x3 else if ((xs (Int32.toNatClampNeg x3)) &&& 63) = 10 then f_L_law_532 xs L K18 z o1 o2 x3 else if ((xs (Int32.toNatClampNeg x3)) &&& 63) = 11 then f_L_law_565 xs L K18 z o1 o2 x3 else if ((xs (Int32.toNatClampNeg x3)) &&& 63) = 12 then f_L_law_588 xs L K18 z o1 o2 x3 else if ((xs (Int32.toNatClampNeg x3)) &&& 63) = 13 then f_L_law_611 xs L K18 z o1 o2 x3 else if ((xs (Int32.toNatClampNeg x3)) &&& 63) = 14 then f_L_law_634 xs L K18 z o1 o2 x3 else if ((xs (Int32.toNatClampNeg x3)) &&& 63) = 15 then f_L_law_647 xs L K18 z o1 o2 x3 else if ((xs (Int32.toNatClampNeg x3)) &&& 63) = 16 then f_L_law_670 xs L K18 z o1 o2 x3 else if ((xs (Int32.toNatClampNeg x3)) &&& 63) = 17 then f_L_law_693 xs L K18 z o1 o2 x3 else if ((xs (Int32.toNatClampNeg x3)) &&& 63) = 18 then f_L_law_716 xs L K18 z o1 o2 x3 else if ((xs (Int32.toNatClampNeg x3)) &&& 63) = 19 then f_L_law_739 xs L K18 z o1 o2 x3 else if ((xs (Int32.toNatClampNeg x3)) &&& 63) = 20 then f_L_law_773 xs L K18 z o1 o2 x3 else if ((xs (Int32.toNatClampNeg x3)) &&& 63) = 21 then f_L_law_796 xs L K18 z o1 o2 x3 else if ((xs (Int32.toNatClampNeg x3)) &&& 63) = 22 then f_L_law_829 xs L K18 z o1 o2 x3 else if ((xs (Int32.toNatClampNeg x3)) &&& 63) = 23 then f_L_law_892 xs L K18 z o1 o2 x3 else if ((xs (Int32.toNatClampNeg x3)) &&& 63) = 24 then f_L_law_915 xs L K18 z o1 o2 x3 else if ((xs (Int32.toNatClampNeg x3)) &&& 63) = 25 then f_L_law_938 xs L K18 z o1 o2 x3 else if ((xs (Int32.toNatClampNeg x3)) &&& 63) = 26 then f_L_law_961 xs L K18 z o1 o2 x3 else if ((xs (Int32.toNatClampNeg x3)) &&& 63) = 27 then f_L_law_974 xs L K18 z o1 o2 x3 else if ((xs (Int32.toNatClampNeg x3)) &&& 63) = 28 then f_L_law_987 xs L K18 z o1 o2 x3 else if ((xs (Int32.toNatClampNeg x3)) &&& 63) = 29 then f_L_law_1010 xs L K18 z o1 o2 x3 else if ((xs (Int32.toNatClampNeg x3)) &&& 63) = 30 then f_L_law_1053 xs L K18 z o1 o2 x3 else if ((xs (Int32.toNatClampNeg x3)) &&& 63) = 31 then f_L_law_1126 xs L K18 z o1 o2 x3 else if ((xs (Int32.toNatClampNeg x3)) &&& 63) = 32 then f_L_law_1160 xs L K18 z o1 o2 x3 else f_L_law_1223 xs L K18 z o1 o2 x3) else none
theorem b_L_law_27 {p : Program} {l : Launch} {e : Env} {s : State} {m : MethodId} {below : List Frame} {meth : Method} {c : Code} {b L : Nat} {xs : Nat → Int32} {kc : Nat × Nat} {g : Ga} {A : Nat → Prop} (C : Cx l g A p s m #[Value.ref b] c cL_law 4 RL room_1 kc) (hr : meth.sig.returnType = ret) (hk : meth.locks = false) (hX : va_X b L xs s s.heap) (hbl : b < s.heap.size) (hA : ∀ q, A q → s.heap.size ≤ q) (hkc : kc.1 ≤ 600000 ∧ kc.2 ≤ 7302250) {K18 : St → Nat → Nat → Int32 → Option (St × Int32)} (hK18 : ∀ (z : St) (o1 : Nat) (o2 : Nat) (x3 : Int32) (_ : kd o1 = 10) (_ : kd o2 = 11) {res : St × Int32} (_ : res.2 = 1), K18 z o1 o2 x3 = some res → Zj p l e room_1 s m #[Value.ref b] below meth c g A 4 kc (lw_Z below #[Value.ref b] s) z 18 [(0, .ref b), (1, .ref (g.1 o1)), (2, .ref (g.1 o2)), (3, .int x3)] []) (z : St) (o1 : Nat) (o2 : Nat) (x3 : Int32) (ho1 : kd o1 = 10) (ho2 : kd o2 = 11) {res : St × Int32} (hres : res.2 = 1) (hf : f_L_law_27 xs L K18 z o1 o2 x3 = some res) : Zj p l e room_1 s m #[Value.ref b] below meth c g A 4 kc (lw_Z below #[Value.ref b] s) z 27 [(0, .ref b), (1, .ref (g.1 o1)), (2, .ref (g.1 o2)), (3, .int x3)] [] := by
  unfold f_L_law_27 at hf
  refine z_aload_n C dL_law_27 rfl 0 rfl ?_
  refine z_iload_n C dL_law_28 rfl 3 rfl ?_
  obtain ⟨h1, hf⟩ := q_ck hf
  refine z_sld C hX hbl hA dL_law_29 h1 ?_
  refine z_bipush C dL_law_30 (v := 63) (by decide) ?_
  refine z_iand C dL_law_32 ?_
  by_cases h2 : ((xs (Int32.toNatClampNeg x3)) &&& 63) = 0
  · exact z_tblK C dL_law_33 (k := 0) h2 (by decide) (by decide) (off := 147) (by decide) (by decide) (z_sub [0, 1, 2, 3] rfl (b_L_law_180 C hr hk hX hbl hA hkc hK18 z o1 o2 x3 ho1 ho2 hres (q_t hf h2)))
  replace hf := q_f hf h2
  by_cases h3 : ((xs (Int32.toNatClampNeg x3)) &&& 63) = 1
  · exact z_tblK C dL_law_33 (k := 1) h3 (by decide) (by decide) (off := 222) (by decide) (by decide) (z_sub [0, 1, 2, 3] rfl (b_L_law_255 C hr hk hX hbl hA hkc hK18 z o1 o2 x3 ho1 ho2 hres (q_t hf h3)))
  replace hf := q_f hf h3
  by_cases h4 : ((xs (Int32.toNatClampNeg x3)) &&& 63) = 2
  · exact z_tblK C dL_law_33 (k := 2) h4 (by decide) (by decide) (off := 235) (by decide) (by decide) (z_sub [0, 1, 2, 3] rfl (b_L_law_268 C hr hk hX hbl hA hkc hK18 z o1 o2 x3 ho1 ho2 hres (q_t hf h4)))
  replace hf := q_f hf h4
  by_cases h5 : ((xs (Int32.toNatClampNeg x3)) &&& 63) = 3
  · exact z_tblK C dL_law_33 (k := 3) h5 (by decide) (by decide) (off := 288) (by decide) (by decide) (z_sub [0, 1, 2, 3] rfl (b_L_law_321 C hr hk hX hbl hA hkc hK18 z o1 o2 x3 ho1 ho2 hres (q_t hf h5)))
  replace hf := q_f hf h5
  by_cases h6 : ((xs (Int32.toNatClampNeg x3)) &&& 63) = 4
  · exact z_tblK C dL_law_33 (k := 4) h6 (by decide) (by decide) (off := 331) (by decide) (by decide) (z_sub [0, 1, 2, 3] rfl (b_L_law_364 C hr hk hX hbl hA hkc hK18 z o1 o2 x3 ho1 ho2 hres (q_t hf h6)))
  replace hf := q_f hf h6
  by_cases h7 : ((xs (Int32.toNatClampNeg x3)) &&& 63) = 5
  · exact z_tblK C dL_law_33 (k := 5) h7 (by decide) (by decide) (off := 364) (by decide) (by decide) (z_sub [0, 1, 2, 3] rfl (b_L_law_397 C hr hk hX hbl hA hkc hK18 z o1 o2 x3 ho1 ho2 hres (q_t hf h7)))
  replace hf := q_f hf h7
  by_cases h8 : ((xs (Int32.toNatClampNeg x3)) &&& 63) = 6
  · exact z_tblK C dL_law_33 (k := 6) h8 (by decide) (by decide) (off := 387) (by decide) (by decide) (z_sub [0, 1, 2, 3] rfl (b_L_law_420 C hr hk hX hbl hA hkc hK18 z o1 o2 x3 ho1 ho2 hres (q_t hf h8)))
  replace hf := q_f hf h8
  by_cases h9 : ((xs (Int32.toNatClampNeg x3)) &&& 63) = 7
  · exact z_tblK C dL_law_33 (k := 7) h9 (by decide) (by decide) (off := 420) (by decide) (by decide) (z_sub [0, 1, 2, 3] rfl (b_L_law_453 C hr hk hX hbl hA hkc hK18 z o1 o2 x3 ho1 ho2 hres (q_t hf h9)))
  replace hf := q_f hf h9
  by_cases h10 : ((xs (Int32.toNatClampNeg x3)) &&& 63) = 8
  · exact z_tblK C dL_law_33 (k := 8) h10 (by decide) (by decide) (off := 453) (by decide) (by decide) (z_sub [0, 1, 2, 3] rfl (b_L_law_486 C hr hk hX hbl hA hkc hK18 z o1 o2 x3 ho1 ho2 hres (q_t hf h10)))
  replace hf := q_f hf h10
  by_cases h11 : ((xs (Int32.toNatClampNeg x3)) &&& 63) = 9
  · exact z_tblK C dL_law_33 (k := 9) h11 (by decide) (by decide) (off := 476) (by decide) (by decide) (z_sub [0, 1, 2, 3] rfl (b_L_law_509 C hr hk hX hbl hA hkc hK18 z o1 o2 x3 ho1 ho2 hres (q_t hf h11)))
  replace hf := q_f hf h11
  by_cases h12 : ((xs (Int32.toNatClampNeg x3)) &&& 63) = 10
  · exact z_tblK C dL_law_33 (k := 10) h12 (by decide) (by decide) (off := 499) (by decide) (by decide) (z_sub [0, 1, 2, 3] rfl (b_L_law_532 C hr hk hX hbl hA hkc hK18 z o1 o2 x3 ho1 ho2 hres (q_t hf h12)))
  replace hf := q_f hf h12
  by_cases h13 : ((xs (Int32.toNatClampNeg x3)) &&& 63) = 11
  · exact z_tblK C dL_law_33 (k := 11) h13 (by decide) (by decide) (off := 532) (by decide) (by decide) (z_sub [0, 1, 2, 3] rfl (b_L_law_565 C hr hk hX hbl hA hkc hK18 z o1 o2 x3 ho1 ho2 hres (q_t hf h13)))
  replace hf := q_f hf h13
  by_cases h14 : ((xs (Int32.toNatClampNeg x3)) &&& 63) = 12
  · exact z_tblK C dL_law_33 (k := 12) h14 (by decide) (by decide) (off := 555) (by decide) (by decide) (z_sub [0, 1, 2, 3] rfl (b_L_law_588 C hr hk hX hbl hA hkc hK18 z o1 o2 x3 ho1 ho2 hres (q_t hf h14)))
  replace hf := q_f hf h14
  by_cases h15 : ((xs (Int32.toNatClampNeg x3)) &&& 63) = 13
  · exact z_tblK C dL_law_33 (k := 13) h15 (by decide) (by decide) (off := 578) (by decide) (by decide) (z_sub [0, 1, 2, 3] rfl (b_L_law_611 C hr hk hX hbl hA hkc hK18 z o1 o2 x3 ho1 ho2 hres (q_t hf h15)))
  replace hf := q_f hf h15
  by_cases h16 : ((xs (Int32.toNatClampNeg x3)) &&& 63) = 14
  · exact z_tblK C dL_law_33 (k := 14) h16 (by decide) (by decide) (off := 601) (by decide) (by decide) (z_sub [0, 1, 2, 3] rfl (b_L_law_634 C hr hk hX hbl hA hkc hK18 z o1 o2 x3 ho1 ho2 hres (q_t hf h16)))
  replace hf := q_f hf h16
  by_cases h17 : ((xs (Int32.toNatClampNeg x3)) &&& 63) = 15
  · exact z_tblK C dL_law_33 (k := 15) h17 (by decide) (by decide) (off := 614) (by decide) (by decide) (z_sub [0, 1, 2, 3] rfl (b_L_law_647 C hr hk hX hbl hA hkc hK18 z o1 o2 x3 ho1 ho2 hres (q_t hf h17)))
  replace hf := q_f hf h17
  by_cases h18 : ((xs (Int32.toNatClampNeg x3)) &&& 63) = 16
  · exact z_tblK C dL_law_33 (k := 16) h18 (by decide) (by decide) (off := 637) (by decide) (by decide) (z_sub [0, 1, 2, 3] rfl (b_L_law_670 C hr hk hX hbl hA hkc hK18 z o1 o2 x3 ho1 ho2 hres (q_t hf h18)))
  replace hf := q_f hf h18
  by_cases h19 : ((xs (Int32.toNatClampNeg x3)) &&& 63) = 17
  · exact z_tblK C dL_law_33 (k := 17) h19 (by decide) (by decide) (off := 660) (by decide) (by decide) (z_sub [0, 1, 2, 3] rfl (b_L_law_693 C hr hk hX hbl hA hkc hK18 z o1 o2 x3 ho1 ho2 hres (q_t hf h19)))
  replace hf := q_f hf h19
  by_cases h20 : ((xs (Int32.toNatClampNeg x3)) &&& 63) = 18
  · exact z_tblK C dL_law_33 (k := 18) h20 (by decide) (by decide) (off := 683) (by decide) (by decide) (z_sub [0, 1, 2, 3] rfl (b_L_law_716 C hr hk hX hbl hA hkc hK18 z o1 o2 x3 ho1 ho2 hres (q_t hf h20)))
  replace hf := q_f hf h20
  by_cases h21 : ((xs (Int32.toNatClampNeg x3)) &&& 63) = 19
  · exact z_tblK C dL_law_33 (k := 19) h21 (by decide) (by decide) (off := 706) (by decide) (by decide) (z_sub [0, 1, 2, 3] rfl (b_L_law_739 C hr hk hX hbl hA hkc hK18 z o1 o2 x3 ho1 ho2 hres (q_t hf h21)))
  replace hf := q_f hf h21
  by_cases h22 : ((xs (Int32.toNatClampNeg x3)) &&& 63) = 20
  · exact z_tblK C dL_law_33 (k := 20) h22 (by decide) (by decide) (off := 740) (by decide) (by decide) (z_sub [0, 1, 2, 3] rfl (b_L_law_773 C hr hk hX hbl hA hkc hK18 z o1 o2 x3 ho1 ho2 hres (q_t hf h22)))
  replace hf := q_f hf h22
  by_cases h23 : ((xs (Int32.toNatClampNeg x3)) &&& 63) = 21
  · exact z_tblK C dL_law_33 (k := 21) h23 (by decide) (by decide) (off := 763) (by decide) (by decide) (z_sub [0, 1, 2, 3] rfl (b_L_law_796 C hr hk hX hbl hA hkc hK18 z o1 o2 x3 ho1 ho2 hres (q_t hf h23)))
  replace hf := q_f hf h23
  by_cases h24 : ((xs (Int32.toNatClampNeg x3)) &&& 63) = 22
  · exact z_tblK C dL_law_33 (k := 22) h24 (by decide) (by decide) (off := 796) (by decide) (by decide) (z_sub [0, 1, 2, 3] rfl (b_L_law_829 C hr hk hX hbl hA hkc hK18 z o1 o2 x3 ho1 ho2 hres (q_t hf h24)))
  replace hf := q_f hf h24
  by_cases h25 : ((xs (Int32.toNatClampNeg x3)) &&& 63) = 23
  · exact z_tblK C dL_law_33 (k := 23) h25 (by decide) (by decide) (off := 859) (by decide) (by decide) (z_sub [0, 1, 2, 3] rfl (b_L_law_892 C hr hk hX hbl hA hkc hK18 z o1 o2 x3 ho1 ho2 hres (q_t hf h25)))
  replace hf := q_f hf h25
  by_cases h26 : ((xs (Int32.toNatClampNeg x3)) &&& 63) = 24
  · exact z_tblK C dL_law_33 (k := 24) h26 (by decide) (by decide) (off := 882) (by decide) (by decide) (z_sub [0, 1, 2, 3] rfl (b_L_law_915 C hr hk hX hbl hA hkc hK18 z o1 o2 x3 ho1 ho2 hres (q_t hf h26)))
  replace hf := q_f hf h26
  by_cases h27 : ((xs (Int32.toNatClampNeg x3)) &&& 63) = 25
  · exact z_tblK C dL_law_33 (k := 25) h27 (by decide) (by decide) (off := 905) (by decide) (by decide) (z_sub [0, 1, 2, 3] rfl (b_L_law_938 C hr hk hX hbl hA hkc hK18 z o1 o2 x3 ho1 ho2 hres (q_t hf h27)))
  replace hf := q_f hf h27
  by_cases h28 : ((xs (Int32.toNatClampNeg x3)) &&& 63) = 26
  · exact z_tblK C dL_law_33 (k := 26) h28 (by decide) (by decide) (off := 928) (by decide) (by decide) (z_sub [0, 1, 2, 3] rfl (b_L_law_961 C hr hk hX hbl hA hkc hK18 z o1 o2 x3 ho1 ho2 hres (q_t hf h28)))
  replace hf := q_f hf h28
  by_cases h29 : ((xs (Int32.toNatClampNeg x3)) &&& 63) = 27
  · exact z_tblK C dL_law_33 (k := 27) h29 (by decide) (by decide) (off := 941) (by decide) (by decide) (z_sub [0, 1, 2, 3] rfl (b_L_law_974 C hr hk hX hbl hA hkc hK18 z o1 o2 x3 ho1 ho2 hres (q_t hf h29)))
  replace hf := q_f hf h29
  by_cases h30 : ((xs (Int32.toNatClampNeg x3)) &&& 63) = 28
  · exact z_tblK C dL_law_33 (k := 28) h30 (by decide) (by decide) (off := 954) (by decide) (by decide) (z_sub [0, 1, 2, 3] rfl (b_L_law_987 C hr hk hX hbl hA hkc hK18 z o1 o2 x3 ho1 ho2 hres (q_t hf h30)))
  replace hf := q_f hf h30
  by_cases h31 : ((xs (Int32.toNatClampNeg x3)) &&& 63) = 29
  · exact z_tblK C dL_law_33 (k := 29) h31 (by decide) (by decide) (off := 977) (by decide) (by decide) (z_sub [0, 1, 2, 3] rfl (b_L_law_1010 C hr hk hX hbl hA hkc hK18 z o1 o2 x3 ho1 ho2 hres (q_t hf h31)))
  replace hf := q_f hf h31
  by_cases h32 : ((xs (Int32.toNatClampNeg x3)) &&& 63) = 30
  · exact z_tblK C dL_law_33 (k := 30) h32 (by decide) (by decide) (off := 1020) (by decide) (by decide) (z_sub [0, 1, 2, 3] rfl (b_L_law_1053 C hr hk hX hbl hA hkc hK18 z o1 o2 x3 ho1 ho2 hres (q_t hf h32)))
  replace hf := q_f hf h32
  by_cases h33 : ((xs (Int32.toNatClampNeg x3)) &&& 63) = 31
  · exact z_tblK C dL_law_33 (k := 31) h33 (by decide) (by decide) (off := 1093) (by decide) (by decide) (z_sub [0, 1, 2, 3] rfl (b_L_law_1126 C hr hk hX hbl hA hkc hK18 z o1 o2 x3 ho1 ho2 hres (q_t hf h33)))
  replace hf := q_f hf h33
  by_cases h34 : ((xs (Int32.toNatClampNeg x3)) &&& 63) = 32
  · exact z_tblK C dL_law_33 (k := 32) h34 (by decide) (by decide) (off := 1127) (by decide) (by decide) (z_sub [0, 1, 2, 3] rfl (b_L_law_1160 C hr hk hX hbl hA hkc hK18 z o1 o2 x3 ho1 ho2 hres (q_t hf h34)))
  replace hf := q_f hf h34
  exact z_tblOut C dL_law_33 (tbl_out (lo := 0) (hi := 32) (fun k q1 q2 => by
    rcases (show k = 0 ∨ k = 1 ∨ k = 2 ∨ k = 3 ∨ k = 4 ∨ k = 5 ∨ k = 6 ∨ k = 7 ∨ k = 8 ∨ k = 9 ∨ k = 10 ∨ k = 11 ∨ k = 12 ∨ k = 13 ∨ k = 14 ∨ k = 15 ∨ k = 16 ∨ k = 17 ∨ k = 18 ∨ k = 19 ∨ k = 20 ∨ k = 21 ∨ k = 22 ∨ k = 23 ∨ k = 24 ∨ k = 25 ∨ k = 26 ∨ k = 27 ∨ k = 28 ∨ k = 29 ∨ k = 30 ∨ k = 31 ∨ k = 32 by omega) with rfl | rfl | rfl | rfl | rfl | rfl | rfl | rfl | rfl | rfl | rfl | rfl | rfl | rfl | rfl | rfl | rfl | rfl | rfl | rfl | rfl | rfl | rfl | rfl | rfl | rfl | rfl | rfl | rfl | rfl | rfl | rfl | rfl
    · exact fun e => h2 (e.symm.trans (by decide))
    · exact fun e => h3 (e.symm.trans (by decide))
    · exact fun e => h4 (e.symm.trans (by decide))
    · exact fun e => h5 (e.symm.trans (by decide))
    · exact fun e => h6 (e.symm.trans (by decide))
    · exact fun e => h7 (e.symm.trans (by decide))
    · exact fun e => h8 (e.symm.trans (by decide))
    · exact fun e => h9 (e.symm.trans (by decide))
    · exact fun e => h10 (e.symm.trans (by decide))
    · exact fun e => h11 (e.symm.trans (by decide))
    · exact fun e => h12 (e.symm.trans (by decide))
    · exact fun e => h13 (e.symm.trans (by decide))
    · exact fun e => h14 (e.symm.trans (by decide))
    · exact fun e => h15 (e.symm.trans (by decide))
    · exact fun e => h16 (e.symm.trans (by decide))
    · exact fun e => h17 (e.symm.trans (by decide))
    · exact fun e => h18 (e.symm.trans (by decide))
    · exact fun e => h19 (e.symm.trans (by decide))
    · exact fun e => h20 (e.symm.trans (by decide))
    · exact fun e => h21 (e.symm.trans (by decide))
    · exact fun e => h22 (e.symm.trans (by decide))
    · exact fun e => h23 (e.symm.trans (by decide))
    · exact fun e => h24 (e.symm.trans (by decide))
    · exact fun e => h25 (e.symm.trans (by decide))
    · exact fun e => h26 (e.symm.trans (by decide))
    · exact fun e => h27 (e.symm.trans (by decide))
    · exact fun e => h28 (e.symm.trans (by decide))
    · exact fun e => h29 (e.symm.trans (by decide))
    · exact fun e => h30 (e.symm.trans (by decide))
    · exact fun e => h31 (e.symm.trans (by decide))
    · exact fun e => h32 (e.symm.trans (by decide))
    · exact fun e => h33 (e.symm.trans (by decide))
    · exact fun e => h34 (e.symm.trans (by decide)))) (by decide) (z_sub [0, 1, 2, 3] rfl (b_L_law_1223 C hr hk hX hbl hA hkc hK18 z o1 o2 x3 ho1 ho2 hres hf))
def f_L_law_1229 (xs : Nat → Int32) (L : Nat)  (z : St)  : Option (St × Int32) :=
  some (z, 1)
theorem b_L_law_1229 {p : Program} {l : Launch} {e : Env} {s : State} {m : MethodId} {below : List Frame} {meth : Method} {c : Code} {b L : Nat} {xs : Nat → Int32} {kc : Nat × Nat} {g : Ga} {A : Nat → Prop} (C : Cx l g A p s m #[Value.ref b] c cL_law 4 RL room_1 kc) (hr : meth.sig.returnType = ret) (hk : meth.locks = false) (hX : va_X b L xs s s.heap) (hbl : b < s.heap.size) (hA : ∀ q, A q → s.heap.size ≤ q) (hkc : kc.1 ≤ 600000 ∧ kc.2 ≤ 7302250)   (z : St)   {res : St × Int32} (hres : res.2 = 1) (hf : f_L_law_1229 xs L  z  = some res) : Zj p l e room_1 s m #[Value.ref b] below meth c g A 4 kc (lw_Z below #[Value.ref b] s) z 1229 [] [] := by
  unfold f_L_law_1229 at hf
  refine z_iconst C dL_law_1229 (v := 1) (by decide) ?_
  cases hf
  exact z_lawret C hr hk hA hkc hres dL_law_1230
def f_L_law_18 (xs : Nat → Int32) (L : Nat)  : Nat → St → Nat → Nat → Int32 → Option (St × Int32)
  | 0, _, _, _, _ => none
  | n + 1, z, o1, o2, x3 => if ((Int32.ofNat L) - 7) < x3 then f_L_law_1229 xs L z else f_L_law_27 xs L (f_L_law_18 xs L n) z o1 o2 x3
theorem b_L_law_18 {p : Program} {l : Launch} {e : Env} {s : State} {m : MethodId} {below : List Frame} {meth : Method} {c : Code} {b L : Nat} {xs : Nat → Int32} {kc : Nat × Nat} {g : Ga} {A : Nat → Prop} (C : Cx l g A p s m #[Value.ref b] c cL_law 4 RL room_1 kc) (hr : meth.sig.returnType = ret) (hk : meth.locks = false) (hX : va_X b L xs s s.heap) (hbl : b < s.heap.size) (hA : ∀ q, A q → s.heap.size ≤ q) (hkc : kc.1 ≤ 600000 ∧ kc.2 ≤ 7302250)   : ∀ (n : Nat) (z : St) (o1 : Nat) (o2 : Nat) (x3 : Int32) (_ : kd o1 = 10) (_ : kd o2 = 11) {res : St × Int32} (_ : res.2 = 1) (_ : f_L_law_18 xs L  n z o1 o2 x3 = some res), Zj p l e room_1 s m #[Value.ref b] below meth c g A 4 kc (lw_Z below #[Value.ref b] s) z 18 [(0, .ref b), (1, .ref (g.1 o1)), (2, .ref (g.1 o2)), (3, .int x3)] [] := by
  intro n
  induction n with
  | zero =>
    intro z o1 o2 x3 ho1 ho2 res hres hf
    cases hf
  | succ n ih =>
    intro z o1 o2 x3 ho1 ho2 res hres hf
    rw [f_L_law_18] at hf
    refine z_iload_n C dL_law_18 rfl 3 rfl ?_
    refine z_aload_n C dL_law_19 rfl 0 rfl ?_
    refine z_slen C hX hbl hA dL_law_20 ?_
    refine z_bipush C dL_law_21 (v := 7) (by decide) ?_
    refine z_isub C dL_law_23 ?_
    exact z_icmp_gt C dL_law_24 (by decide) (fun h => z_sub [] rfl (b_L_law_1229 C hr hk hX hbl hA hkc z hres (q_t hf h))) (fun h => z_sub [0, 1, 2, 3] rfl (b_L_law_27 C hr hk hX hbl hA hkc ih z o1 o2 x3 ho1 ho2 hres (q_f hf h)))
def f_L_law_16 (xs : Nat → Int32) (L : Nat)  (z : St) (o1 : Nat) (o2 : Nat) : Option (St × Int32) :=
  f_L_law_18 xs L FU z o1 o2 0
theorem b_L_law_16 {p : Program} {l : Launch} {e : Env} {s : State} {m : MethodId} {below : List Frame} {meth : Method} {c : Code} {b L : Nat} {xs : Nat → Int32} {kc : Nat × Nat} {g : Ga} {A : Nat → Prop} (C : Cx l g A p s m #[Value.ref b] c cL_law 4 RL room_1 kc) (hr : meth.sig.returnType = ret) (hk : meth.locks = false) (hX : va_X b L xs s s.heap) (hbl : b < s.heap.size) (hA : ∀ q, A q → s.heap.size ≤ q) (hkc : kc.1 ≤ 600000 ∧ kc.2 ≤ 7302250)   (z : St) (o1 : Nat) (o2 : Nat) (ho1 : kd o1 = 10) (ho2 : kd o2 = 11) {res : St × Int32} (hres : res.2 = 1) (hf : f_L_law_16 xs L  z o1 o2 = some res) : Zj p l e room_1 s m #[Value.ref b] below meth c g A 4 kc (lw_Z below #[Value.ref b] s) z 16 [(0, .ref b), (1, .ref (g.1 o1)), (2, .ref (g.1 o2))] [] := by
  unfold f_L_law_16 at hf
  refine z_iconst C dL_law_16 (v := 0) (by decide) ?_
  refine z_istore_n C (lv2 := [(3, .int 0), (0, .ref b), (1, .ref (g.1 o1)), (2, .ref (g.1 o2))]) dL_law_17 rfl (by decide) rfl ?_
  exact z_sub [1, 2, 3, 0] rfl (b_L_law_18 C hr hk hX hbl hA hkc FU z o1 o2 0 ho1 ho2 hres hf)
