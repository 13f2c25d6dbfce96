def bt_ok : List Cond → List Nat → Bool
  | [], _ => true
  | _ :: _, [] => false
  | w :: ws, i :: js => decide (lw_tbl[i]? = some w) && bt_ok ws js
theorem bt_sound : ∀ (ws : List Cond) (js : List Nat), bt_ok ws js = true → ∀ w ∈ ws, w ∈ lw_tbl
  | [], _, _ => fun _ h => absurd h List.not_mem_nil
  | _ :: _, [], h => absurd h (by simp [bt_ok])
  | w :: ws, i :: js, h => by
    have h2 : decide (lw_tbl[i]? = some w) = true ∧ bt_ok ws js = true := by simpa [bt_ok] using h
    exact List.forall_mem_cons.mpr ⟨List.mem_of_getElem? (of_decide_eq_true h2.1), bt_sound ws js h2.2⟩
theorem bt_join {n : Nat} {ws : List Cond} (h1 : ∀ w ∈ ws.take n, w ∈ lw_tbl) (h2 : ∀ w ∈ ws.drop n, w ∈ lw_tbl) : ∀ w ∈ ws, w ∈ lw_tbl := by
  intro w h
  rw [← List.take_append_drop n ws] at h
  exact (List.mem_append.mp h).elim (h1 w) (h2 w)
theorem bt_map (ws : List Cond) (js : List Nat) (h : ws.map some = js.map (fun i => lw_tbl[i]?)) : ∀ w ∈ ws, w ∈ lw_tbl := by
  intro w hw
  have h1 : some w ∈ ws.map some := List.mem_map.mpr ⟨w, hw, rfl⟩
  rw [h] at h1
  obtain ⟨i, -, hi⟩ := List.mem_map.mp h1
  exact List.mem_of_getElem? hi
def bd_0 : List Cond := BW0
def bd_1 : List Cond := bd_0.drop 40
def bd_2 : List Cond := bd_1.drop 40
def bd_3 : List Cond := bd_2.drop 40
def bd_4 : List Cond := bd_3.drop 40
def bd_5 : List Cond := bd_4.drop 40
def bd_6 : List Cond := bd_5.drop 40
def bd_7 : List Cond := bd_6.drop 40
def bd_8 : List Cond := bd_7.drop 40
def bd_9 : List Cond := bd_8.drop 40
def bd_10 : List Cond := bd_9.drop 40
def bd_11 : List Cond := bd_10.drop 10
def bd_12 : List Cond := bd_11.drop 10
def bd_13 : List Cond := bd_12.drop 10
def bd_14 : List Cond := bd_13.drop 10
def bd_15 : List Cond := bd_14.drop 40
def bd_16 : List Cond := bd_15.drop 40
def bd_17 : List Cond := bd_16.drop 40
def bd_18 : List Cond := bd_17.drop 40
def bd_19 : List Cond := bd_18.drop 40
def bd_20 : List Cond := bd_19.drop 40
def bd_21 : List Cond := bd_20.drop 40
def bd_22 : List Cond := bd_21.drop 40
def bd_23 : List Cond := bd_22.drop 22
set_option maxRecDepth 100000 in
theorem bt_0 : bt_ok (bd_0.take 40) [284, 285, 287, 73, 286, 505, 497, 498, 500, 499, 501, 105, 104, 300, 301, 302, 81, 303, 304, 306, 82, 305, 338, 341, 74, 340, 4, 293, 295, 294, 296, 299, 298, 1, 581, 325, 324, 2, 129, 130] = true := by decide +kernel
set_option maxRecDepth 100000 in
theorem bt_1 : bt_ok (bd_1.take 40) [128, 528, 529, 531, 530, 141, 147, 363, 292, 291, 0, 145, 156, 157, 142, 131, 143, 148, 150, 458, 461, 75, 460, 12, 107, 462, 465, 464, 13, 466, 469, 468, 14, 151, 152, 153, 154, 155, 511, 354] = true := by decide +kernel
set_option maxRecDepth 100000 in
theorem bt_2 : bt_ok (bd_2.take 40) [359, 362, 361, 8, 524, 527, 76, 526, 17, 548, 551, 550, 19, 561, 564, 563, 22, 573, 576, 575, 25, 565, 568, 567, 23, 569, 572, 571, 24, 577, 580, 579, 26, 557, 560, 559, 21, 200, 713, 704] = true := by decide +kernel
set_option maxRecDepth 100000 in
theorem bt_3 : bt_ok (bd_3.take 40) [78, 703, 46, 714, 715, 717, 718, 716, 215, 645, 647, 646, 652, 654, 79, 653, 662, 663, 214, 216, 213, 655, 337, 336, 3, 656, 658, 657, 659, 661, 660, 664, 666, 665, 667, 108, 668, 671, 670, 38] = true := by decide +kernel
set_option maxRecDepth 100000 in
theorem bt_4 : bt_ok (bd_4.take 40) [680, 683, 682, 41, 232, 769, 740, 77, 739, 50, 228, 701, 231, 230, 775, 237, 239, 240, 241, 234, 236, 132, 226, 610, 109, 615, 618, 617, 30, 611, 386, 385, 612, 613, 614, 629, 632, 631, 33, 628] = true := by decide +kernel
set_option maxRecDepth 100000 in
theorem bt_5 : bt_ok (bd_5.take 40) [633, 636, 635, 34, 619, 227, 641, 644, 643, 36, 648, 651, 650, 37, 676, 679, 678, 40, 696, 699, 698, 45, 688, 691, 690, 43, 692, 695, 694, 44, 700, 705, 706, 707, 708, 709, 712, 711, 47, 727] = true := by decide +kernel
set_option maxRecDepth 100000 in
theorem bt_6 : bt_ok (bd_6.take 40) [723, 726, 725, 49, 728, 624, 627, 626, 32, 637, 640, 639, 35, 672, 675, 674, 39, 684, 687, 686, 42, 719, 722, 721, 48, 602, 605, 604, 28, 606, 609, 608, 29, 620, 623, 622, 31, 268, 144, 281] = true := by decide +kernel
set_option maxRecDepth 100000 in
theorem bt_7 : bt_ok (bd_7.take 40) [283, 282, 267, 106, 288, 289, 322, 334, 346, 349, 348, 5, 350, 353, 352, 6, 355, 358, 357, 7, 269, 368, 371, 370, 9, 146, 149, 158, 233, 235, 793, 794, 795, 798, 893, 896, 80, 895, 53, 917] = true := by decide +kernel
set_option maxRecDepth 100000 in
theorem bt_8 : bt_ok (bd_8.take 40) [920, 919, 55, 921, 924, 923, 56, 796, 797, 799, 800, 801, 802, 803, 804, 805, 806, 807, 809, 808, 792, 892, 909, 912, 911, 54, 933, 934, 937, 936, 57, 810, 811, 950, 953, 952, 59, 946, 949, 948] = true := by decide +kernel
set_option maxRecDepth 100000 in
theorem bt_9 : bt_ok (bd_9.take 40) [58, 812, 962, 965, 964, 60, 978, 818, 819, 820, 821, 966, 969, 968, 61, 999, 1001, 1000, 986, 974, 977, 976, 63, 998, 991, 993, 992, 822, 1006, 1009, 1008, 68, 994, 997, 996, 66, 815, 983, 816, 817] = true := by decide +kernel
set_option maxRecDepth 100000 in
theorem bt_10 : (bd_10.take 10).map some = ([814, 1017, 1010, 1013, 1012, 69, 1018, 1021, 1020, 70] : List Nat).map (fun i => lw_tbl[i]?) := by rfl
set_option maxRecDepth 100000 in
theorem bt_11 : (bd_11.take 10).map some = ([1016, 984, 1015, 1014, 985, 813, 979, 982, 981, 64] : List Nat).map (fun i => lw_tbl[i]?) := by rfl
set_option maxRecDepth 100000 in
theorem bt_12 : (bd_12.take 10).map some = ([987, 990, 989, 65, 1002, 1005, 1004, 67, 970, 973] : List Nat).map (fun i => lw_tbl[i]?) := by rfl
set_option maxRecDepth 100000 in
theorem bt_13 : (bd_13.take 10).map some = ([972, 62, 1034, 1037, 1036, 71, 103, 96, 97, 115] : List Nat).map (fun i => lw_tbl[i]?) := by rfl
set_option maxRecDepth 100000 in
theorem bt_14 : bt_ok (bd_14.take 40) [127, 140, 121, 122, 123, 124, 126, 125, 199, 204, 212, 193, 194, 195, 196, 198, 197, 205, 206, 207, 208, 209, 211, 210, 95, 98, 99, 100, 102, 101, 116, 117, 118, 120, 119, 188, 189, 190, 192, 191] = true := by decide +kernel
set_option maxRecDepth 100000 in
theorem bt_15 : bt_ok (bd_15.take 40) [791, 384, 387, 87, 454, 457, 456, 11, 494, 496, 495, 502, 504, 503, 478, 88, 507, 510, 509, 15, 520, 523, 522, 16, 544, 547, 546, 18, 553, 556, 555, 20, 598, 601, 600, 27, 238, 737, 741, 89] = true := by decide +kernel
set_option maxRecDepth 100000 in
theorem bt_16 : bt_ok (bd_16.take 40) [229, 757, 765, 768, 767, 51, 771, 774, 773, 52, 785, 380, 383, 381, 382, 379, 389, 378, 474, 477, 475, 476, 473, 480, 472, 515, 518, 516, 517, 514, 540, 543, 541, 542, 539, 585, 588, 586, 587, 584] = true := by decide +kernel
set_option maxRecDepth 100000 in
theorem bt_17 : bt_ok (bd_17.take 40) [593, 596, 594, 595, 592, 733, 736, 734, 735, 732, 743, 731, 761, 764, 762, 763, 760, 779, 782, 780, 781, 778, 1046, 277, 280, 278, 279, 888, 891, 889, 890, 318, 321, 319, 320, 897, 900, 898, 899, 326] = true := by decide +kernel
set_option maxRecDepth 100000 in
theorem bt_18 : bt_ok (bd_18.take 40) [329, 327, 328, 901, 904, 902, 903, 330, 333, 331, 332, 905, 908, 906, 907, 376, 72, 377, 913, 916, 914, 915, 884, 887, 885, 886, 470, 471, 925, 928, 926, 927, 342, 345, 343, 344, 929, 932, 930, 931] = true := by decide +kernel
set_option maxRecDepth 100000 in
theorem bt_19 : bt_ok (bd_19.take 40) [512, 513, 938, 941, 939, 940, 537, 538, 942, 945, 943, 944, 582, 583, 954, 957, 955, 956, 590, 591, 958, 961, 959, 960, 364, 367, 365, 366, 1022, 1025, 1023, 1024, 729, 730, 1026, 1029, 1027, 1028, 758, 759] = true := by decide +kernel
set_option maxRecDepth 100000 in
theorem bt_20 : bt_ok (bd_20.take 40) [1030, 1033, 1031, 1032, 776, 777, 1038, 1041, 1039, 1040, 372, 375, 373, 374, 1042, 1045, 1043, 1044, 90, 91, 92, 94, 93, 786, 787, 788, 790, 789, 110, 112, 133, 135, 137, 159, 161, 163, 165, 167, 169, 171] = true := by decide +kernel
set_option maxRecDepth 100000 in
theorem bt_21 : bt_ok (bd_21.take 40) [173, 175, 177, 179, 181, 183, 185, 201, 217, 219, 221, 223, 242, 244, 246, 248, 250, 252, 254, 256, 258, 260, 262, 264, 270, 272, 274, 823, 825, 827, 829, 831, 833, 835, 837, 839, 841, 843, 845, 847] = true := by decide +kernel
set_option maxRecDepth 100000 in
theorem bt_22 : bt_ok (bd_22.take 22) [849, 851, 853, 855, 857, 859, 861, 863, 865, 867, 869, 871, 873, 875, 877, 879, 881, 314, 315, 317, 316, 83] = true := by decide +kernel
theorem bt_23 : ∀ w ∈ bd_23, w ∈ lw_tbl := by
  have e : bd_23 = [] := by decide +kernel
  rw [e]
  exact fun _ h => absurd h List.not_mem_nil
theorem bs_22 : ∀ w ∈ bd_22, w ∈ lw_tbl := bt_join (n := 22) (bt_sound _ _ bt_22) bt_23
theorem bs_21 : ∀ w ∈ bd_21, w ∈ lw_tbl := bt_join (n := 40) (bt_sound _ _ bt_21) bs_22
theorem bs_20 : ∀ w ∈ bd_20, w ∈ lw_tbl := bt_join (n := 40) (bt_sound _ _ bt_20) bs_21
theorem bs_19 : ∀ w ∈ bd_19, w ∈ lw_tbl := bt_join (n := 40) (bt_sound _ _ bt_19) bs_20
theorem bs_18 : ∀ w ∈ bd_18, w ∈ lw_tbl := bt_join (n := 40) (bt_sound _ _ bt_18) bs_19
theorem bs_17 : ∀ w ∈ bd_17, w ∈ lw_tbl := bt_join (n := 40) (bt_sound _ _ bt_17) bs_18
theorem bs_16 : ∀ w ∈ bd_16, w ∈ lw_tbl := bt_join (n := 40) (bt_sound _ _ bt_16) bs_17
theorem bs_15 : ∀ w ∈ bd_15, w ∈ lw_tbl := bt_join (n := 40) (bt_sound _ _ bt_15) bs_16
theorem bs_14 : ∀ w ∈ bd_14, w ∈ lw_tbl := bt_join (n := 40) (bt_sound _ _ bt_14) bs_15
theorem bs_13 : ∀ w ∈ bd_13, w ∈ lw_tbl := bt_join (n := 10) (bt_map _ _ bt_13) bs_14
theorem bs_12 : ∀ w ∈ bd_12, w ∈ lw_tbl := bt_join (n := 10) (bt_map _ _ bt_12) bs_13
theorem bs_11 : ∀ w ∈ bd_11, w ∈ lw_tbl := bt_join (n := 10) (bt_map _ _ bt_11) bs_12
theorem bs_10 : ∀ w ∈ bd_10, w ∈ lw_tbl := bt_join (n := 10) (bt_map _ _ bt_10) bs_11
theorem bs_9 : ∀ w ∈ bd_9, w ∈ lw_tbl := bt_join (n := 40) (bt_sound _ _ bt_9) bs_10
theorem bs_8 : ∀ w ∈ bd_8, w ∈ lw_tbl := bt_join (n := 40) (bt_sound _ _ bt_8) bs_9
theorem bs_7 : ∀ w ∈ bd_7, w ∈ lw_tbl := bt_join (n := 40) (bt_sound _ _ bt_7) bs_8
theorem bs_6 : ∀ w ∈ bd_6, w ∈ lw_tbl := bt_join (n := 40) (bt_sound _ _ bt_6) bs_7
theorem bs_5 : ∀ w ∈ bd_5, w ∈ lw_tbl := bt_join (n := 40) (bt_sound _ _ bt_5) bs_6
theorem bs_4 : ∀ w ∈ bd_4, w ∈ lw_tbl := bt_join (n := 40) (bt_sound _ _ bt_4) bs_5
theorem bs_3 : ∀ w ∈ bd_3, w ∈ lw_tbl := bt_join (n := 40) (bt_sound _ _ bt_3) bs_4
theorem bs_2 : ∀ w ∈ bd_2, w ∈ lw_tbl := bt_join (n := 40) (bt_sound _ _ bt_2) bs_3
theorem bs_1 : ∀ w ∈ bd_1, w ∈ lw_tbl := bt_join (n := 40) (bt_sound _ _ bt_1) bs_2
theorem bs_0 : ∀ w ∈ bd_0, w ∈ lw_tbl := bt_join (n := 40) (bt_sound _ _ bt_0) bs_1
set_option maxRecDepth 100000 in
theorem ba_IAE : ∀ w ∈ AT_IAE.filter (fun w => !isR w), w ∈ lw_tbl := by decide +kernel
set_option maxRecDepth 100000 in
theorem ba_ISE : ∀ w ∈ AT_ISE.filter (fun w => !isR w), w ∈ lw_tbl := by decide +kernel
set_option maxRecDepth 100000 in
theorem ba_IOE : ∀ w ∈ AT_IOE.filter (fun w => !isR w), w ∈ lw_tbl := by decide +kernel
theorem bw_tbl : ∀ w ∈ BW, w ∈ lw_tbl := by
  intro w h
  unfold BW at h
  simp only [List.mem_append] at h
  rcases h with ((h | h) | h) | h
  · exact bs_0 w h
  · exact ba_IAE w h
  · exact ba_ISE w h
  · exact ba_IOE w h
