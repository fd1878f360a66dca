/-! the law's words: all of them hold at the law's start -/
theorem zsel {C : String} {x f y : MethodName} {s : State} {args : Array Value} (hC : (Cond.selects C x f).before args s = true) (hcls : y.cls = f.cls) (hy : y.cls ≠ "java/lang/invoke/MethodHandle" ∧ y.cls ≠ "java/lang/invoke/VarHandle") (hpriv : (Cond.privateMethod y).before args s = true) (hinst : (Cond.instanceMethod y).before args s = true) : (Cond.selects C y y).before args s = true := by
  obtain ⟨c, r, mf, hc, -, hf, -, k, hk, hni⟩ := Cond.selects_spec hC
  obtain ⟨mk, methM, hnamed, hmethM, -, -⟩ := Cond.instanceMethod_spec hinst
  have hfound : s.methodFound? y.cls y.name y.desc = some mk := State.methodFound?_of_named hnamed hy
  have hm : mk.cls = mf.cls := Option.some.inj ((findClass_of_methodNamed hnamed).symm.trans (by rw [hcls]; exact findClass_of_methodNamed hf))
  have hsel : selectMethod {} s.vm c mk = .method mk := selectMethod_private hmethM (Cond.privateMethod_at hpriv mk methM hnamed hmethM)
  simp only [Cond.before, Cond.holds, Cond.value, hc, hfound, hnamed, hsel, hm, hk]
  simp; exact hni
def zTbl : List Cond := [.selects RX2 yX1_bringDown yX1_bringDown, .selects RX6 yX1_bringDown yX1_bringDown] ++ lw_tbl
theorem zTbl_hts {s : State} {args : Array Value} (hts : ∀ w ∈ lw_tbl, w.before args s = true) : ∀ w ∈ zTbl, w.before args s = true := by
  have h1 : (Cond.privateMethod yX1_bringDown).before args s = true := hts _ (List.mem_append_right _ (List.mem_of_getElem? (i := 548) (by decide +kernel)))
  have h2 : (Cond.instanceMethod yX1_bringDown).before args s = true := hts _ (List.mem_append_right _ (List.mem_of_getElem? (i := 549) (by decide +kernel)))
  have h3 : (Cond.selects RX6 ⟨"SumsToAll$Signs", "follow", "(LSumsToAll$Plan;)V"⟩ ⟨"SumsToAll$Follower", "follow", "(LSumsToAll$Plan;)V"⟩).before args s = true := hts _ (List.mem_append_right _ (List.mem_of_getElem? (i := 519) (by decide +kernel)))
  have h4 : (Cond.selects RX2 ⟨"SumsToAll$Heaps", "follow", "(LSumsToAll$Plan;)V"⟩ ⟨"SumsToAll$Follower", "follow", "(LSumsToAll$Plan;)V"⟩).before args s = true := hts _ (List.mem_append_right _ (List.mem_of_getElem? (i := 607) (by decide +kernel)))
  intro w hw
  rcases List.mem_append.mp hw with hw | hw
  · rcases List.mem_cons.mp hw with rfl | hw
    · exact zsel h4 rfl (by decide) h1 h2
    · rcases List.mem_cons.mp hw with rfl | hw
      · exact zsel h3 rfl (by decide) h1 h2
      · cases hw
  · exact hts w hw
set_option maxRecDepth 100000 in
set_option maxHeartbeats 4000000 in
theorem zT_wsL_law0_r1 : GoodIn zTbl wsL_law0_r1 := goodIn_r _ [75, 76, 57, 819, 820, 67, 168, 77, 78, 79, 80, 81, 82, 83, 84, 58, 242, 130, 131, 61, 243, 146, 147, 62] (by decide +kernel) (by decide +kernel)
set_option maxRecDepth 100000 in
set_option maxHeartbeats 4000000 in
theorem zT_wsL_law0_r2 : GoodIn zTbl wsL_law0_r2 := goodIn_r _ [244, 169, 170, 63, 245, 182, 183, 64, 246, 207, 208, 65, 247, 229, 230, 66, 248, 249, 85, 86, 87, 88, 128, 100] (by decide +kernel) (by decide +kernel)
set_option maxRecDepth 100000 in
set_option maxHeartbeats 4000000 in
theorem zT_wsL_law0_r3 : GoodIn zTbl wsL_law0_r3 := goodIn_r _ [129, 101, 102, 103, 104, 105, 89, 90, 91, 92, 106, 108, 93, 94, 59, 95, 96, 98, 2, 99, 107, 133, 134, 139] (by decide +kernel) (by decide +kernel)
set_option maxRecDepth 100000 in
set_option maxHeartbeats 4000000 in
theorem zT_wsL_law0_r4 : GoodIn zTbl wsL_law0_r4 := goodIn_r _ [140, 136, 60, 137, 138, 149, 150, 152, 153, 154, 155, 172, 173, 174, 175, 176, 185, 186, 187, 210, 211, 212, 213, 214] (by decide +kernel) (by decide +kernel)
set_option maxRecDepth 100000 in
set_option maxHeartbeats 4000000 in
theorem zT_wsL_law0_r5 : GoodIn zTbl wsL_law0_r5 := goodIn_r _ [215, 232, 233, 234, 235, 821, 822, 823, 824, 830, 831, 832, 833, 834, 835, 836, 838, 825, 814, 842, 843, 844, 845, 846] (by decide +kernel) (by decide +kernel)
set_option maxRecDepth 100000 in
set_option maxHeartbeats 4000000 in
theorem zT_wsL_law0_r6 : GoodIn zTbl wsL_law0_r6 := goodIn_r _ [847, 848, 826, 828, 32, 829, 267, 268, 269, 270, 271, 272, 273, 274, 275, 276, 277, 278, 279, 280, 236, 892, 893, 894] (by decide +kernel) (by decide +kernel)
set_option maxRecDepth 100000 in
set_option maxHeartbeats 4000000 in
theorem zT_wsL_law0_r7 : GoodIn zTbl wsL_law0_r7 := goodIn_r _ [895, 841, 837, 896, 897, 898, 281, 282, 283, 284, 285, 286, 287, 288, 289, 290, 291, 292, 293, 294, 295, 296, 297, 298] (by decide +kernel) (by decide +kernel)
set_option maxRecDepth 100000 in
set_option maxHeartbeats 4000000 in
theorem zT_wsL_law0_r8 : GoodIn zTbl wsL_law0_r8 := goodIn_r _ [299, 300, 301, 302, 303, 304, 305, 306, 307, 308, 309, 310, 311, 899, 900, 901, 902, 903, 905, 33, 906, 907, 909, 34] (by decide +kernel) (by decide +kernel)
set_option maxRecDepth 100000 in
set_option maxHeartbeats 4000000 in
theorem zT_wsL_law0_r9 : GoodIn zTbl wsL_law0_r9 := goodIn_r _ [910, 312, 313, 314, 315, 316, 317, 318, 319, 320, 322, 3, 323, 324, 325, 68, 326, 327, 328, 329, 330, 331, 332, 333] (by decide +kernel) (by decide +kernel)
set_option maxRecDepth 100000 in
set_option maxHeartbeats 4000000 in
theorem zT_wsL_law0_r10 : GoodIn zTbl wsL_law0_r10 := goodIn_r _ [334, 911, 912, 913, 914, 915, 916, 918, 35, 919, 920, 922, 36, 923, 335, 336, 337, 338, 339, 340, 341, 342, 343, 344] (by decide +kernel) (by decide +kernel)
set_option maxRecDepth 100000 in
set_option maxHeartbeats 4000000 in
theorem zT_wsL_law0_r11 : GoodIn zTbl wsL_law0_r11 := goodIn_r _ [345, 346, 347, 348, 349, 351, 352, 924, 925, 926, 927, 741, 742, 56, 743, 744, 745, 746, 747, 748, 749, 72, 815, 816] (by decide +kernel) (by decide +kernel)
set_option maxRecDepth 100000 in
set_option maxHeartbeats 4000000 in
theorem zT_wsL_law0_r12 : GoodIn zTbl wsL_law0_r12 := goodIn_r _ [817, 818, 928, 929, 930, 931, 888, 889, 890, 891, 353, 354, 355, 356, 357, 358, 359, 360, 361, 362, 363, 364, 365, 366] (by decide +kernel) (by decide +kernel)
set_option maxRecDepth 100000 in
set_option maxHeartbeats 4000000 in
theorem zT_wsL_law0_r13 : GoodIn zTbl wsL_law0_r13 := goodIn_r _ [367, 368, 932, 933, 934, 935, 936, 938, 37, 939, 940, 942, 38, 943, 369, 370, 371, 372, 373, 374, 375, 376, 377, 944] (by decide +kernel) (by decide +kernel)
set_option maxRecDepth 100000 in
set_option maxHeartbeats 4000000 in
theorem zT_wsL_law0_r14 : GoodIn zTbl wsL_law0_r14 := goodIn_r _ [945, 946, 947, 948, 378, 379, 380, 381, 382, 383, 384, 385, 386, 387, 388, 389, 390, 391, 392, 393, 394, 395, 396, 397] (by decide +kernel) (by decide +kernel)
set_option maxRecDepth 100000 in
set_option maxHeartbeats 4000000 in
theorem zT_wsL_law0_r15 : GoodIn zTbl wsL_law0_r15 := goodIn_r _ [398, 399, 400, 401, 402, 403, 404, 405, 406, 408, 4, 409, 949, 950, 951, 952, 953, 954, 955, 956, 958, 39, 959, 410] (by decide +kernel) (by decide +kernel)
set_option maxRecDepth 100000 in
set_option maxHeartbeats 4000000 in
theorem zT_wsL_law0_r16 : GoodIn zTbl wsL_law0_r16 := goodIn_r _ [411, 412, 413, 414, 415, 416, 417, 418, 190, 193, 188, 421, 422, 423, 424, 426, 5, 427, 189, 191, 192, 428, 429, 430] (by decide +kernel) (by decide +kernel)
set_option maxRecDepth 100000 in
set_option maxHeartbeats 4000000 in
theorem zT_wsL_law0_r17 : GoodIn zTbl wsL_law0_r17 := goodIn_r _ [431, 432, 433, 434, 436, 6, 437, 438, 440, 7, 441, 442, 444, 8, 445, 446, 448, 9, 449, 450, 452, 10, 453, 454] (by decide +kernel) (by decide +kernel)
set_option maxRecDepth 100000 in
set_option maxHeartbeats 4000000 in
theorem zT_wsL_law0_r18 : GoodIn zTbl wsL_law0_r18 := goodIn_r _ [456, 11, 457, 458, 459, 460, 461, 462, 463, 464, 465, 466, 467, 469, 12, 470, 471, 472, 474, 13, 475, 476, 478, 14] (by decide +kernel) (by decide +kernel)
set_option maxRecDepth 100000 in
set_option maxHeartbeats 4000000 in
theorem zT_wsL_law0_r19 : GoodIn zTbl wsL_law0_r19 := goodIn_r _ [479, 480, 482, 15, 483, 484, 486, 16, 487, 488, 490, 17, 491, 492, 494, 18, 495, 496, 498, 19, 499, 500, 502, 20] (by decide +kernel) (by decide +kernel)
set_option maxRecDepth 100000 in
set_option maxHeartbeats 4000000 in
theorem zT_wsL_law0_r20 : GoodIn zTbl wsL_law0_r20 := goodIn_r _ [503, 960, 961, 962, 963, 839, 964, 966, 40, 967, 840, 968, 970, 41, 971, 972, 973, 974, 975, 977, 42, 978, 979, 981] (by decide +kernel) (by decide +kernel)
set_option maxRecDepth 100000 in
set_option maxHeartbeats 4000000 in
theorem zT_wsL_law0_r21 : GoodIn zTbl wsL_law0_r21 := goodIn_r _ [43, 982, 983, 985, 44, 986, 987, 989, 45, 990, 991, 993, 46, 994, 995, 996, 997, 998, 1000, 47, 1001, 1002, 1004, 48] (by decide +kernel) (by decide +kernel)
set_option maxRecDepth 100000 in
set_option maxHeartbeats 4000000 in
theorem zT_wsL_law0_r22 : GoodIn zTbl wsL_law0_r22 := goodIn_r _ [1005, 1006, 1008, 49, 1009, 1010, 1012, 50, 1013, 1014, 1015, 1016, 504, 505, 506, 507, 1017, 1018, 1019, 1020, 508, 509, 510, 511] (by decide +kernel) (by decide +kernel)
set_option maxRecDepth 100000 in
set_option maxHeartbeats 4000000 in
theorem zT_wsL_law0_r23 : GoodIn zTbl wsL_law0_r23 := goodIn_r _ [512, 513, 514, 515, 516, 517, 518, 519, 520, 521, 522, 523, 524, 525, 526, 527, 528, 529, 530, 531, 532, 533, 534, 535] (by decide +kernel) (by decide +kernel)
set_option maxRecDepth 100000 in
set_option maxHeartbeats 4000000 in
theorem zT_wsL_law0_r24 : GoodIn zTbl wsL_law0_r24 := goodIn_r _ [536, 537, 1021, 1022, 1023, 1024, 538, 539, 540, 541, 542, 543, 544, 545, 546, 547, 548, 549, 550, 551, 552, 553, 1025, 1026] (by decide +kernel) (by decide +kernel)
set_option maxRecDepth 100000 in
set_option maxHeartbeats 4000000 in
theorem zT_wsL_law0_r25 : GoodIn zTbl wsL_law0_r25 := goodIn_r _ [1027, 1028, 554, 555, 556, 557, 558, 559, 560, 561, 562, 652, 653, 73, 654, 563, 564, 566, 21, 567, 156, 568, 570, 22] (by decide +kernel) (by decide +kernel)
set_option maxRecDepth 100000 in
set_option maxHeartbeats 4000000 in
theorem zT_wsL_law0_r26 : GoodIn zTbl wsL_law0_r26 := goodIn_r _ [571, 572, 573, 575, 576, 577, 578, 579, 580, 581, 582, 583, 585, 586, 587, 588, 589, 591, 592, 593, 594, 595, 596, 597] (by decide +kernel) (by decide +kernel)
set_option maxRecDepth 100000 in
set_option maxHeartbeats 4000000 in
theorem zT_wsL_law0_r27 : GoodIn zTbl wsL_law0_r27 := goodIn_r _ [599, 600, 601, 602, 603, 1080, 0, 605, 606, 607, 608, 610, 611, 612, 613, 614, 615, 616, 617, 619, 620, 621, 622, 623] (by decide +kernel) (by decide +kernel)
set_option maxRecDepth 100000 in
set_option maxHeartbeats 4000000 in
theorem zT_wsL_law0_r28 : GoodIn zTbl wsL_law0_r28 := goodIn_r _ [624, 625, 1, 626, 628, 23, 629, 631, 632, 633, 634, 635, 636, 638, 639, 640, 641, 643, 24, 644, 646, 647, 648, 650] (by decide +kernel) (by decide +kernel)
set_option maxRecDepth 100000 in
set_option maxHeartbeats 4000000 in
theorem zT_wsL_law0_r29 : GoodIn zTbl wsL_law0_r29 := goodIn_r _ [25, 651, 655, 656, 1029, 1030, 1031, 1032, 1033, 1035, 51, 1036, 1037, 1039, 52, 1040, 657, 658, 659, 660, 661, 662, 663, 1041] (by decide +kernel) (by decide +kernel)
set_option maxRecDepth 100000 in
set_option maxHeartbeats 4000000 in
theorem zT_wsL_law0_r30 : GoodIn zTbl wsL_law0_r30 := goodIn_r _ [1042, 1043, 1044, 664, 665, 666, 667, 668, 669, 670, 671, 680, 681, 682, 672, 673, 674, 675, 676, 677, 678, 679, 683, 1045] (by decide +kernel) (by decide +kernel)
set_option maxRecDepth 100000 in
set_option maxHeartbeats 4000000 in
theorem zT_wsL_law0_r31 : GoodIn zTbl wsL_law0_r31 := goodIn_r _ [1046, 1047, 1048, 1049, 1051, 53, 1052, 1053, 1055, 54, 1056, 1057, 1058, 1059, 684, 685, 686, 687, 688, 689, 690, 691, 701, 703] (by decide +kernel) (by decide +kernel)
set_option maxRecDepth 100000 in
set_option maxHeartbeats 4000000 in
theorem zT_wsL_law0_r32 : GoodIn zTbl wsL_law0_r32 := goodIn_r _ [702, 74, 692, 693, 694, 695, 696, 698, 26, 699, 700, 1060, 1061, 1062, 1063, 704, 705, 706, 707, 708, 710, 27, 711, 1068] (by decide +kernel) (by decide +kernel)
set_option maxRecDepth 100000 in
set_option maxHeartbeats 4000000 in
theorem zT_wsL_law0_r33 : GoodIn zTbl wsL_law0_r33 := goodIn_r _ [1069, 1070, 1071, 712, 713, 714, 715, 1064, 1065, 1066, 1067, 716, 717, 718, 719, 720, 721, 722, 723, 724, 216, 217, 725, 726] (by decide +kernel) (by decide +kernel)
set_option maxRecDepth 100000 in
set_option maxHeartbeats 4000000 in
theorem zT_wsL_law0_r34 : GoodIn zTbl wsL_law0_r34 := goodIn_r _ [728, 28, 729, 730, 731, 732, 733, 735, 29, 736, 737, 739, 30, 740, 1072, 1073, 1074, 1075, 1076, 1078, 55, 1079] (by decide +kernel) (by decide +kernel)
set_option maxRecDepth 100000 in
set_option maxHeartbeats 4000000 in
theorem zT_wsX80 : GoodIn zTbl wsX80 := goodIn_r _ [250, 252, 254, 256, 258, 260, 262, 264] (by decide +kernel) (by decide +kernel)
set_option maxRecDepth 100000 in
set_option maxHeartbeats 4000000 in
theorem zT_wsX90 : GoodIn zTbl wsX90 := goodIn_r _ [849, 851, 853, 855, 857, 859, 861, 863, 865, 867, 869, 871, 873, 875, 877, 879, 881, 883, 885] (by decide +kernel) (by decide +kernel)
set_option maxRecDepth 100000 in
set_option maxHeartbeats 4000000 in
theorem zT_wsX30 : GoodIn zTbl wsX30 := goodIn_r _ [109, 111, 113, 115, 117, 119, 121, 123, 125] (by decide +kernel) (by decide +kernel)
set_option maxRecDepth 100000 in
set_option maxHeartbeats 4000000 in
theorem zT_wsX20 : GoodIn zTbl wsX20 := goodIn_r _ [141, 143] (by decide +kernel) (by decide +kernel)
set_option maxRecDepth 100000 in
set_option maxHeartbeats 4000000 in
theorem zT_wsX60 : GoodIn zTbl wsX60 := goodIn_r _ [157, 159, 161, 163, 165] (by decide +kernel) (by decide +kernel)
set_option maxRecDepth 100000 in
set_option maxHeartbeats 4000000 in
theorem zT_wsX00 : GoodIn zTbl wsX00 := goodIn_r _ [177, 179] (by decide +kernel) (by decide +kernel)
set_option maxRecDepth 100000 in
set_option maxHeartbeats 4000000 in
theorem zT_wsX70 : GoodIn zTbl wsX70 := goodIn_r _ [194, 196, 198, 200, 202, 204] (by decide +kernel) (by decide +kernel)
set_option maxRecDepth 100000 in
set_option maxHeartbeats 4000000 in
theorem zT_wsX50 : GoodIn zTbl wsX50 := goodIn_r _ [218, 220, 222, 224, 226] (by decide +kernel) (by decide +kernel)
set_option maxRecDepth 100000 in
set_option maxHeartbeats 4000000 in
theorem zT_wsX40 : GoodIn zTbl wsX40 := goodIn_r _ [237, 239] (by decide +kernel) (by decide +kernel)
theorem zTbl_l0 : GoodIn zTbl wsL_law0 := (goodIn_app (goodIn_app (goodIn_app (goodIn_app (goodIn_app (goodIn_app (goodIn_app (goodIn_app (goodIn_app (goodIn_app (goodIn_app zT_wsL_law0_r1 (goodIn_app zT_wsL_law0_r2 (goodIn_app zT_wsL_law0_r3 (goodIn_app zT_wsL_law0_r4 (goodIn_app zT_wsL_law0_r5 (goodIn_app zT_wsL_law0_r6 (goodIn_app zT_wsL_law0_r7 (goodIn_app zT_wsL_law0_r8 (goodIn_app zT_wsL_law0_r9 (goodIn_app zT_wsL_law0_r10 (goodIn_app zT_wsL_law0_r11 (goodIn_app zT_wsL_law0_r12 (goodIn_app zT_wsL_law0_r13 (goodIn_app zT_wsL_law0_r14 (goodIn_app zT_wsL_law0_r15 (goodIn_app zT_wsL_law0_r16 (goodIn_app zT_wsL_law0_r17 (goodIn_app zT_wsL_law0_r18 (goodIn_app zT_wsL_law0_r19 (goodIn_app zT_wsL_law0_r20 (goodIn_app zT_wsL_law0_r21 (goodIn_app zT_wsL_law0_r22 (goodIn_app zT_wsL_law0_r23 (goodIn_app zT_wsL_law0_r24 (goodIn_app zT_wsL_law0_r25 (goodIn_app zT_wsL_law0_r26 (goodIn_app zT_wsL_law0_r27 (goodIn_app zT_wsL_law0_r28 (goodIn_app zT_wsL_law0_r29 (goodIn_app zT_wsL_law0_r30 (goodIn_app zT_wsL_law0_r31 (goodIn_app zT_wsL_law0_r32 (goodIn_app zT_wsL_law0_r33 zT_wsL_law0_r34))))))))))))))))))))))))))))))))) zT_wsX80) zT_wsX90) zT_wsX30) zT_wsX20) zT_wsX60) zT_wsX00) zT_wsX70) zT_wsX50) zT_wsX40) (fun _ h => absurd h List.not_mem_nil))
set_option maxRecDepth 100000 in
set_option maxHeartbeats 4000000 in
theorem zTbl_lx : ∀ w ∈ zxA.filter goodWord, w ∈ lw_tbl := by decide +kernel
theorem zTbl_law {s : State} {args : Array Value} (hts : ∀ w ∈ lw_tbl, w.before args s = true) : ∀ w ∈ wsLw, w.before args s = true := fun w hw =>
  (List.mem_append.mp hw).elim (fun h => zTbl_hts hts w (zTbl_l0 w h).1) (fun h => hts w (zTbl_lx w h))
