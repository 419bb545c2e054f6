/-- of a method: static?, parameters, places of its words in lw_tbl -/
def mx_ps (j : Nat) : Bool × Nat × Nat × Nat × Nat × Nat := bif Nat.ble 75 j then (bif Nat.ble 112 j then (bif Nat.ble 131 j then (bif Nat.ble 140 j then (bif Nat.ble 145 j then (bif Nat.ble 147 j then (bif Nat.ble 148 j then (bif Nat.ble 149 j then ((true, 2, 291, 94, 290, 0)) else ((true, 1, 494, 97, 493, 0))) else ((true, 1, 452, 97, 451, 0))) else (bif Nat.ble 146 j then ((false, 1, 1016, 95, 1014, 1015)) else ((false, 1, 1012, 95, 1010, 1011)))) else (bif Nat.ble 142 j then (bif Nat.ble 143 j then (bif Nat.ble 144 j then ((false, 1, 1008, 95, 1006, 1007)) else ((false, 0, 1004, 95, 1002, 1003))) else ((false, 1, 1000, 95, 999, 85))) else (bif Nat.ble 141 j then ((false, 1, 996, 95, 995, 84)) else ((false, 0, 992, 95, 991, 83))))) else (bif Nat.ble 135 j then (bif Nat.ble 137 j then (bif Nat.ble 138 j then (bif Nat.ble 139 j then ((false, 0, 988, 95, 987, 82)) else ((false, 1, 984, 95, 982, 983))) else ((false, 0, 980, 95, 978, 979))) else (bif Nat.ble 136 j then ((false, 2, 976, 95, 974, 975)) else ((true, 2, 972, 95, 971, 0)))) else (bif Nat.ble 133 j then (bif Nat.ble 134 j then ((false, 4, 968, 95, 966, 967)) else ((false, 3, 964, 95, 963, 81))) else (bif Nat.ble 132 j then ((false, 3, 960, 95, 958, 959)) else ((false, 3, 956, 95, 955, 80)))))) else (bif Nat.ble 121 j then (bif Nat.ble 126 j then (bif Nat.ble 128 j then (bif Nat.ble 129 j then (bif Nat.ble 130 j then ((false, 3, 952, 95, 950, 951)) else ((true, 1, 948, 95, 947, 0))) else ((false, 3, 945, 95, 943, 944))) else (bif Nat.ble 127 j then ((false, 2, 941, 95, 939, 940)) else ((false, 0, 937, 95, 935, 936)))) else (bif Nat.ble 123 j then (bif Nat.ble 124 j then (bif Nat.ble 125 j then ((false, 1, 933, 95, 931, 932)) else ((false, 1, 929, 95, 927, 928))) else ((false, 0, 925, 95, 924, 79))) else (bif Nat.ble 122 j then ((false, 2, 921, 95, 919, 920)) else ((false, 1, 917, 95, 916, 78))))) else (bif Nat.ble 116 j then (bif Nat.ble 118 j then (bif Nat.ble 119 j then (bif Nat.ble 120 j then ((false, 0, 913, 95, 912, 77)) else ((false, 2, 909, 95, 908, 76))) else ((false, 1, 905, 95, 903, 904))) else (bif Nat.ble 117 j then ((false, 2, 901, 95, 899, 900)) else ((false, 3, 897, 95, 896, 75)))) else (bif Nat.ble 114 j then (bif Nat.ble 115 j then ((false, 3, 893, 95, 892, 74)) else ((false, 1, 889, 95, 888, 73))) else (bif Nat.ble 113 j then ((false, 2, 885, 95, 884, 72)) else ((true, 1, 881, 95, 880, 0))))))) else (bif Nat.ble 93 j then (bif Nat.ble 102 j then (bif Nat.ble 107 j then (bif Nat.ble 109 j then (bif Nat.ble 110 j then (bif Nat.ble 111 j then ((false, 4, 878, 95, 877, 71)) else ((false, 2, 874, 95, 873, 70))) else ((false, 2, 870, 95, 869, 69))) else (bif Nat.ble 108 j then ((false, 1, 866, 95, 865, 68)) else ((false, 0, 862, 95, 861, 67)))) else (bif Nat.ble 104 j then (bif Nat.ble 105 j then (bif Nat.ble 106 j then ((false, 1, 858, 95, 857, 66)) else ((false, 2, 854, 95, 852, 853))) else ((false, 1, 850, 95, 849, 65))) else (bif Nat.ble 103 j then ((false, 1, 846, 95, 845, 64)) else ((false, 2, 842, 95, 840, 841))))) else (bif Nat.ble 97 j then (bif Nat.ble 99 j then (bif Nat.ble 100 j then (bif Nat.ble 101 j then ((false, 0, 838, 95, 837, 63)) else ((false, 0, 834, 95, 833, 62))) else ((false, 0, 830, 95, 829, 61))) else (bif Nat.ble 98 j then ((false, 1, 826, 95, 825, 60)) else ((false, 1, 822, 95, 821, 59)))) else (bif Nat.ble 95 j then (bif Nat.ble 96 j then ((false, 0, 818, 95, 817, 58)) else ((true, 1, 814, 95, 813, 0))) else (bif Nat.ble 94 j then ((false, 1, 811, 95, 810, 57)) else ((false, 0, 807, 95, 806, 56)))))) else (bif Nat.ble 84 j then (bif Nat.ble 88 j then (bif Nat.ble 90 j then (bif Nat.ble 91 j then (bif Nat.ble 92 j then ((false, 0, 803, 95, 801, 802)) else ((false, 0, 799, 95, 797, 798))) else ((true, 3, 795, 95, 794, 0))) else (bif Nat.ble 89 j then ((false, 1, 792, 95, 790, 791)) else ((true, 2, 687, 95, 686, 0)))) else (bif Nat.ble 86 j then (bif Nat.ble 87 j then ((false, 0, 684, 95, 683, 55)) else ((true, 3, 680, 95, 679, 0))) else (bif Nat.ble 85 j then ((false, 4, 677, 95, 676, 54)) else ((false, 2, 673, 95, 672, 53))))) else (bif Nat.ble 79 j then (bif Nat.ble 81 j then (bif Nat.ble 82 j then (bif Nat.ble 83 j then ((true, 2, 669, 95, 668, 0)) else ((true, 1, 666, 95, 665, 0))) else ((false, 2, 663, 95, 662, 52))) else (bif Nat.ble 80 j then ((false, 0, 659, 95, 658, 51)) else ((false, 1, 649, 87, 647, 648)))) else (bif Nat.ble 77 j then (bif Nat.ble 78 j then ((false, 1, 645, 87, 643, 644)) else ((false, 1, 641, 87, 639, 640))) else (bif Nat.ble 76 j then ((false, 0, 633, 87, 632, 50)) else ((false, 0, 629, 87, 627, 628)))))))) else (bif Nat.ble 37 j then (bif Nat.ble 56 j then (bif Nat.ble 65 j then (bif Nat.ble 70 j then (bif Nat.ble 72 j then (bif Nat.ble 73 j then (bif Nat.ble 74 j then ((false, 1, 620, 87, 618, 619)) else ((false, 0, 616, 87, 614, 615))) else ((false, 2, 608, 87, 606, 607))) else (bif Nat.ble 71 j then ((true, 2, 604, 87, 603, 0)) else ((true, 2, 601, 87, 600, 0)))) else (bif Nat.ble 67 j then (bif Nat.ble 68 j then (bif Nat.ble 69 j then ((false, 4, 597, 87, 595, 596)) else ((false, 3, 584, 87, 582, 583))) else ((false, 3, 562, 87, 560, 561))) else (bif Nat.ble 66 j then ((false, 0, 557, 87, 556, 42)) else ((false, 0, 553, 87, 552, 41))))) else (bif Nat.ble 60 j then (bif Nat.ble 62 j then (bif Nat.ble 63 j then (bif Nat.ble 64 j then ((false, 1, 549, 87, 548, 40)) else ((false, 1, 545, 87, 544, 39))) else ((false, 3, 541, 87, 539, 540))) else (bif Nat.ble 61 j then ((false, 2, 537, 87, 535, 536)) else ((false, 0, 533, 87, 531, 532)))) else (bif Nat.ble 58 j then (bif Nat.ble 59 j then ((false, 0, 529, 87, 528, 38)) else ((false, 1, 525, 87, 524, 37))) else (bif Nat.ble 57 j then ((false, 1, 521, 87, 519, 520)) else ((false, 1, 511, 87, 509, 510)))))) else (bif Nat.ble 46 j then (bif Nat.ble 51 j then (bif Nat.ble 53 j then (bif Nat.ble 54 j then (bif Nat.ble 55 j then ((false, 0, 503, 87, 502, 34)) else ((false, 2, 499, 87, 497, 498))) else ((false, 0, 491, 87, 490, 33))) else (bif Nat.ble 52 j then ((false, 1, 486, 87, 485, 32)) else ((false, 0, 482, 87, 481, 31)))) else (bif Nat.ble 48 j then (bif Nat.ble 49 j then (bif Nat.ble 50 j then ((false, 1, 478, 87, 476, 477)) else ((false, 2, 474, 87, 472, 473))) else ((false, 0, 445, 87, 444, 26))) else (bif Nat.ble 47 j then ((false, 2, 438, 87, 436, 437)) else ((false, 1, 434, 87, 433, 25))))) else (bif Nat.ble 41 j then (bif Nat.ble 43 j then (bif Nat.ble 44 j then (bif Nat.ble 45 j then ((false, 1, 429, 87, 428, 24)) else ((false, 2, 425, 87, 423, 424))) else ((true, 2, 411, 87, 410, 0))) else (bif Nat.ble 42 j then ((false, 0, 373, 87, 371, 372)) else ((false, 0, 369, 87, 367, 368)))) else (bif Nat.ble 39 j then (bif Nat.ble 40 j then ((false, 1, 361, 87, 359, 360)) else ((true, 5, 307, 87, 306, 0))) else (bif Nat.ble 38 j then ((false, 0, 265, 87, 264, 4)) else ((true, 3, 247, 87, 246, 0))))))) else (bif Nat.ble 18 j then (bif Nat.ble 27 j then (bif Nat.ble 32 j then (bif Nat.ble 34 j then (bif Nat.ble 35 j then (bif Nat.ble 36 j then ((false, 4, 304, 90, 303, 12)) else ((false, 1, 284, 90, 283, 8))) else ((false, 1, 280, 90, 279, 7))) else (bif Nat.ble 33 j then ((false, 1, 276, 90, 275, 6)) else ((false, 1, 269, 90, 268, 5)))) else (bif Nat.ble 29 j then (bif Nat.ble 30 j then (bif Nat.ble 31 j then ((false, 0, 415, 88, 414, 22)) else ((false, 0, 408, 88, 407, 21))) else ((false, 0, 404, 88, 403, 20))) else (bif Nat.ble 28 j then ((false, 0, 400, 88, 399, 19)) else ((false, 1, 396, 88, 395, 18))))) else (bif Nat.ble 22 j then (bif Nat.ble 24 j then (bif Nat.ble 25 j then (bif Nat.ble 26 j then ((false, 0, 389, 88, 388, 17)) else ((true, 1, 385, 88, 384, 0))) else ((false, 0, 382, 88, 381, 16))) else (bif Nat.ble 23 j then ((false, 0, 377, 88, 376, 15)) else ((false, 1, 365, 88, 364, 14)))) else (bif Nat.ble 20 j then (bif Nat.ble 21 j then ((false, 2, 624, 92, 623, 49)) else ((false, 3, 612, 92, 611, 48))) else (bif Nat.ble 19 j then ((false, 3, 588, 89, 587, 46)) else ((false, 2, 572, 89, 571, 44)))))) else (bif Nat.ble 9 j then (bif Nat.ble 13 j then (bif Nat.ble 15 j then (bif Nat.ble 16 j then (bif Nat.ble 17 j then ((false, 2, 515, 89, 514, 36)) else ((false, 2, 507, 89, 506, 35))) else ((false, 1, 420, 89, 419, 23))) else (bif Nat.ble 14 j then ((false, 1, 261, 89, 260, 3)) else ((false, 3, 257, 89, 256, 2)))) else (bif Nat.ble 11 j then (bif Nat.ble 12 j then ((false, 1, 253, 89, 252, 1)) else ((false, 1, 244, 89, 243, 0))) else (bif Nat.ble 10 j then ((false, 3, 593, 91, 592, 47)) else ((false, 1, 576, 91, 575, 45))))) else (bif Nat.ble 4 j then (bif Nat.ble 6 j then (bif Nat.ble 7 j then (bif Nat.ble 8 j then ((false, 3, 566, 91, 565, 43)) else ((false, 3, 469, 91, 468, 30))) else ((false, 3, 465, 91, 464, 29))) else (bif Nat.ble 5 j then ((false, 3, 461, 91, 460, 28)) else ((false, 3, 449, 91, 448, 27)))) else (bif Nat.ble 2 j then (bif Nat.ble 3 j then ((false, 4, 311, 91, 310, 13)) else ((false, 5, 299, 91, 298, 11))) else (bif Nat.ble 1 j then ((false, 5, 295, 91, 294, 10)) else ((false, 2, 288, 91, 287, 9))))))))
def mx_T (k : Nat) : u_T := match k with
  | 0 => TX0
  | 1 => TX1
  | 2 => TX2
  | 3 => TX3
  | 4 => TX4
  | 5 => TX5
  | _ => TX6
/-- field links: class, index, class of the field, field, place of the word -/
def mx_flP : List (Nat × Nat × Nat × Nat × Nat) := [(0, 9, 0, 0, 208), (0, 15, 0, 1, 210), (0, 18, 0, 2, 212), (1, 9, 1, 0, 118), (1, 15, 1, 1, 122), (1, 18, 1, 2, 124), (1, 22, 1, 3, 128), (1, 25, 1, 4, 132), (2, 9, 2, 0, 227), (2, 15, 2, 1, 228), (2, 18, 2, 2, 229), (2, 21, 2, 3, 230), (3, 9, 3, 0, 148), (3, 18, 3, 1, 149), (3, 22, 3, 2, 151), (3, 26, 3, 3, 153), (3, 29, 3, 4, 154), (3, 32, 3, 5, 155), (3, 35, 3, 6, 157), (4, 9, 4, 0, 181), (4, 15, 4, 1, 185), (4, 18, 4, 2, 188), (4, 21, 4, 3, 190), (5, 10, 5, 0, 312), (5, 19, 5, 1, 313), (5, 26, 5, 2, 314), (5, 33, 5, 3, 315), (5, 37, 5, 4, 316), (5, 40, 5, 5, 317), (5, 43, 5, 6, 318), (5, 47, 5, 7, 319), (5, 51, 5, 8, 320), (5, 54, 5, 9, 321), (5, 60, 5, 10, 322), (5, 64, 5, 11, 323), (5, 68, 5, 12, 324), (5, 71, 5, 13, 325), (5, 74, 5, 14, 326), (6, 7, 6, 1, 689), (6, 13, 6, 12, 700), (6, 16, 6, 13, 701), (6, 19, 6, 14, 702), (6, 22, 6, 15, 703), (6, 25, 6, 17, 705), (6, 28, 6, 18, 706), (6, 32, 6, 19, 707), (6, 35, 6, 20, 708), (6, 38, 6, 21, 709), (6, 41, 6, 24, 712), (6, 44, 6, 25, 713), (6, 47, 6, 26, 714), (6, 50, 6, 27, 715), (6, 53, 6, 28, 716), (6, 56, 6, 30, 718), (6, 59, 6, 31, 719), (6, 65, 6, 10, 698), (6, 80, 6, 0, 688), (6, 91, 6, 29, 717), (6, 106, 6, 2, 690), (6, 109, 6, 3, 691), (6, 115, 6, 5, 693), (6, 118, 6, 4, 692), (6, 121, 6, 6, 694), (6, 128, 6, 7, 695), (6, 138, 6, 11, 699), (6, 157, 6, 8, 696), (6, 160, 6, 9, 697), (6, 167, 6, 22, 710), (6, 170, 6, 16, 704), (6, 173, 6, 23, 711), (6, 247, 6, 32, 720)]
def mx_flN : List (Nat × Nat × Nat × Nat × Nat) := [(0, 27, 1, 3, 129), (0, 33, 1, 0, 119), (0, 36, 1, 2, 126), (0, 50, 4, 3, 191), (0, 92, 4, 0, 184), (0, 95, 4, 1, 187), (1, 51, 4, 1, 186), (1, 54, 4, 0, 183), (3, 53, 1, 3, 130), (3, 59, 1, 4, 135), (3, 65, 1, 2, 127), (3, 72, 1, 0, 121), (4, 25, 1, 1, 123), (4, 34, 1, 4, 133), (5, 81, 1, 2, 125), (5, 95, 3, 2, 152), (5, 105, 3, 5, 156), (5, 108, 3, 1, 150), (5, 115, 1, 4, 134), (5, 118, 2, 3, 231), (5, 128, 1, 0, 120), (5, 131, 4, 3, 192), (5, 139, 4, 0, 182), (5, 149, 4, 2, 189), (5, 162, 0, 0, 209), (5, 170, 0, 1, 211), (5, 223, 1, 3, 131)]
/-- method links: class, index, method, place of the word -/
def mx_mlP : List (Nat × Nat × Nat × Nat) := [(0, 21, 149, 289), (0, 39, 1, 292), (0, 43, 2, 296), (0, 46, 3, 308), (0, 69, 147, 450), (0, 75, 7, 466), (0, 79, 4, 567), (0, 83, 5, 568), (0, 98, 6, 462), (1, 34, 13, 254), (1, 38, 14, 258), (3, 42, 24, 379), (3, 45, 27, 393), (3, 49, 28, 397), (3, 56, 29, 401), (3, 62, 31, 412), (3, 68, 30, 405), (3, 82, 25, 383), (3, 85, 26, 386), (4, 35, 33, 273), (4, 39, 34, 277), (4, 43, 35, 281), (5, 84, 37, 245), (5, 92, 38, 262), (5, 121, 45, 426), (5, 125, 46, 431), (5, 132, 43, 430), (5, 152, 48, 442), (5, 165, 147, 470), (5, 173, 51, 479), (5, 176, 53, 488), (5, 179, 55, 500), (5, 190, 58, 522), (5, 193, 63, 542), (5, 196, 59, 526), (5, 199, 64, 546), (5, 220, 44, 580), (5, 236, 149, 598), (5, 242, 70, 599), (5, 246, 71, 602), (5, 258, 76, 630), (5, 276, 52, 483), (5, 283, 148, 492), (5, 286, 65, 550), (5, 289, 66, 554), (6, 62, 80, 656), (6, 69, 81, 660), (6, 73, 84, 670), (6, 77, 87, 681), (6, 83, 82, 664), (6, 87, 83, 667), (6, 94, 85, 674), (6, 98, 86, 678), (6, 102, 90, 793), (6, 112, 94, 808), (6, 124, 95, 812), (6, 131, 96, 815), (6, 135, 93, 804), (6, 141, 100, 831), (6, 144, 98, 823), (6, 148, 97, 819), (6, 151, 99, 827), (6, 154, 101, 835), (6, 163, 88, 685), (6, 176, 116, 894), (6, 179, 115, 890), (6, 182, 111, 875), (6, 186, 108, 863), (6, 190, 110, 871), (6, 194, 112, 879), (6, 197, 114, 886), (6, 200, 109, 867), (6, 203, 113, 882), (6, 206, 103, 843), (6, 209, 104, 847), (6, 212, 106, 855), (6, 215, 107, 859), (6, 218, 121, 914), (6, 221, 119, 906), (6, 224, 120, 910), (6, 228, 123, 922), (6, 231, 129, 946), (6, 234, 131, 953), (6, 238, 133, 961), (6, 243, 135, 970), (6, 250, 140, 989), (6, 253, 141, 993), (6, 256, 142, 997), (6, 259, 139, 985)]
def mx_mlN : List (Nat × Nat × Nat × Nat) := [(0, 55, 33, 300), (0, 59, 36, 301), (0, 86, 34, 456), (0, 89, 35, 457), (1, 42, 34, 516), (1, 48, 35, 517), (2, 25, 39, 625), (3, 38, 11, 378), (3, 75, 14, 416), (3, 78, 43, 409), (4, 46, 39, 305), (5, 77, 11, 241), (5, 88, 12, 250), (5, 98, 22, 362), (5, 101, 23, 374), (5, 111, 15, 417), (5, 136, 33, 439), (5, 142, 34, 440), (5, 146, 35, 441), (5, 155, 4, 446), (5, 159, 5, 458), (5, 182, 16, 504), (5, 186, 17, 512), (5, 202, 8, 563), (5, 205, 18, 569), (5, 209, 9, 573), (5, 212, 2, 578), (5, 216, 3, 579), (5, 226, 19, 585), (5, 229, 1, 589), (5, 232, 10, 590), (5, 250, 20, 609), (5, 254, 21, 621), (5, 269, 32, 266), (5, 272, 0, 285), (5, 279, 7, 487), (5, 292, 6, 558), (5, 296, 36, 634)]
def mx_acl : List (Nat × Nat × Nat) := [(0, 63, 577), (1, 28, 421), (4, 28, 270)]
def mx_mxl : List (Nat × Nat × Nat) := [(5, 261, 635)]
def mx_mnl : List (Nat × Nat × Nat) := [(3, 88, 390)]
def mx_csl : List (Nat × Nat × Nat × Nat) := [(8, 265, 1431655765, 453), (8, 266, 858993459, 454), (8, 267, 252645135, 455), (8, 264, 65536, 495)]
def mx_cll : List (Nat × Nat × Nat × Nat) := [(6, 241, 10, 969)]
def mx_len (i : Instr) : Nat := match i with
  | .iload _ => 2
  | .lload _ => 2
  | .aload _ => 2
  | .istore _ => 2
  | .lstore _ => 2
  | .astore _ => 2
  | .bipush _ => 2
  | .sipush _ => 3
  | .ldc_w _ => 3
  | .ldc2_w _ => 3
  | .iinc _ _ => 3
  | .goto _ => 3
  | .ifCond _ _ => 3
  | .if_icmp _ _ => 3
  | .getfield _ => 3
  | .putfield _ => 3
  | .getstatic _ => 3
  | .invokevirtual _ => 3
  | .invokestatic _ => 3
  | _ => 1
def mx_pc (mi j : Nat) : Nat := match mx_row mi j with
  | some r => r.1
  | none => 0
/-- a link of a list of links -/
def mx_inF (l : List (Nat × Nat × Nat × Nat × Nat)) (own idx a b : Nat) : Bool := l.any (fun e => e.1 == own && e.2.1 == idx && e.2.2.1 == a && e.2.2.2.1 == b)
def mx_inM (l : List (Nat × Nat × Nat × Nat)) (own idx a : Nat) : Bool := l.any (fun e => e.1 == own && e.2.1 == idx && e.2.2.1 == a)
def mx_nx (mi pc : Nat) (ins : Instr) (nx : Nat) : Bool := mx_pc mi nx == pc + mx_len ins
def mx_ex (mi : Nat) (ins : Instr) (a b : Nat) (x : Int32) : Bool := match ins with
  | .iconst n => decide (Int32.ofInt n = x)
  | .bipush n => decide ((Int8.ofInt n).toInt32 = x)
  | .sipush n => decide ((Int16.ofInt n).toInt32 = x)
  | .lconst n => (n : Nat) == a
  | .ldc_w idx => mx_csl.any (fun e => e.1 == mx_own mi && e.2.1 == idx && decide (Int32.ofNat e.2.2.1 = x))
  | .ldc2_w idx => mx_inM mx_cll (mx_own mi) idx a
  | .iload_n k => (k : Nat) == a
  | .lload_n k => (k : Nat) == a
  | .aload_n k => (k : Nat) == a
  | .istore_n k => (k : Nat) == a
  | .lstore_n k => (k : Nat) == a
  | .astore_n k => (k : Nat) == a
  | .iload k => k == a
  | .lload k => k == a
  | .aload k => k == a
  | .istore k => k == a
  | .lstore k => k == a
  | .astore k => k == a
  | .iinc i n => i == a && decide (Int32.ofInt n = x)
  | .getfield idx => mx_inF mx_flP (mx_own mi) idx a b || mx_inF mx_flN (mx_own mi) idx a b
  | .putfield idx => (mx_inF mx_flP (mx_own mi) idx a b || mx_inF mx_flN (mx_own mi) idx a b) && !((mx_T a b).2.2.2)
  | .getstatic idx => mx_own mi == 5 && idx == 266
  | .invokevirtual idx => (mx_inM mx_mlP (mx_own mi) idx a || mx_inM mx_mlN (mx_own mi) idx a) && !((mx_ps a).1) && (mx_ps a).2.1 + 1 == b
  | .invokestatic idx => if b = 99 then mx_acl.any (fun e => e.1 == mx_own mi && e.2.1 == idx) else if b = 98 then mx_mxl.any (fun e => e.1 == mx_own mi && e.2.1 == idx) else if b = 97 then mx_mnl.any (fun e => e.1 == mx_own mi && e.2.1 == idx) else (mx_inM mx_mlP (mx_own mi) idx a || mx_inM mx_mlN (mx_own mi) idx a) && (mx_ps a).1 && (mx_ps a).2.1 == b
  | _ => true
def mx_dc (mi pc : Nat) (ins : Instr) : Bool := decide (decode (mx_code mi) pc = .ok (ins, mx_len ins))
def mx_ck (mi pc : Nat) (ins : Instr) (nx a b : Nat) (x : Int32) : Bool := match ins with
  | .tableswitch _ _ _ _ => true
  | .lookupswitch _ _ => true
  | .ireturn => mx_dc mi pc .ireturn
  | .lreturn => mx_dc mi pc .lreturn
  | .return_ => mx_dc mi pc .return_
  | .goto off => mx_dc mi pc (.goto off) && decide ((pc : Int) + off = (mx_pc mi nx : Int))
  | .ifCond q off => mx_dc mi pc (.ifCond q off) && mx_nx mi pc (.ifCond q off) nx && decide ((pc : Int) + off = (mx_pc mi a : Int))
  | .if_icmp q off => mx_dc mi pc (.if_icmp q off) && mx_nx mi pc (.if_icmp q off) nx && decide ((pc : Int) + off = (mx_pc mi a : Int))
  | i => mx_dc mi pc i && mx_nx mi pc i nx && mx_ex mi i a b x
def mx_ckj (mi j : Nat) : Bool := match mx_row mi j with
  | none => false
  | some (pc, ins, nx, a, b, x) => mx_ck mi pc ins nx a b x
def mx_ckM (mi : Nat) : Bool := (List.range (mx_n mi)).all (mx_ckj mi)
abbrev mx_fw (e : Nat × Nat × Nat × Nat × Nat) : Cond := .fieldLink (mx_cn e.1) e.2.1 (mx_cn e.2.2.1) (mx_T e.2.2.1 e.2.2.2.1).2.1 (mx_T e.2.2.1 e.2.2.2.1).2.2.1
abbrev mx_fwN (e : Nat × Nat × Nat × Nat × Nat) : Cond := .fieldLinkNest (mx_cn e.1) e.2.1 (mx_cn e.2.2.1) (mx_T e.2.2.1 e.2.2.2.1).2.1 (mx_T e.2.2.1 e.2.2.2.1).2.2.1 "MotionDesk"
abbrev mx_mw (e : Nat × Nat × Nat × Nat) : Cond := .methodLink (mx_cn e.1) e.2.1 (mx_y e.2.2.1)
abbrev mx_mwN (e : Nat × Nat × Nat × Nat) : Cond := .methodLinkNest (mx_cn e.1) e.2.1 (mx_y e.2.2.1) "MotionDesk"
theorem mx_flP_ok : mx_flP.all (fun e => decide (lw_tbl[e.2.2.2.2]? = some (mx_fw e))) = true := by decide +kernel
theorem mx_flN_ok : mx_flN.all (fun e => decide (lw_tbl[e.2.2.2.2]? = some (mx_fwN e))) = true := by decide +kernel
theorem mx_mlP_ok : mx_mlP.all (fun e => decide (lw_tbl[e.2.2.2]? = some (mx_mw e))) = true := by decide +kernel
theorem mx_mlN_ok : mx_mlN.all (fun e => decide (lw_tbl[e.2.2.2]? = some (mx_mwN e))) = true := by decide +kernel
theorem mx_acl_ok : mx_acl.all (fun e => decide (lw_tbl[e.2.2]? = some (.methodLink (mx_cn e.1) e.2.1 arraycopyName))) = true := by decide +kernel
theorem mx_mxl_ok : mx_mxl.all (fun e => decide (lw_tbl[e.2.2]? = some (.methodLink (mx_cn e.1) e.2.1 Lib.Math.max.name))) = true := by decide +kernel
theorem mx_mxl_w : lw_tbl[636]? = some (.static Lib.Math.max.name) ∧ lw_tbl[96]? = some (.initialized "java/lang/Math") ∧ lw_tbl[637]? = some (.code Lib.Math.max.name Lib.Math.max.code 2 (some .int)) := by decide +kernel
theorem mx_mnl_ok : mx_mnl.all (fun e => decide (lw_tbl[e.2.2]? = some (.methodLink (mx_cn e.1) e.2.1 Lib.Math.min.name))) = true := by decide +kernel
theorem mx_mnl_w : lw_tbl[391]? = some (.static Lib.Math.min.name) ∧ lw_tbl[96]? = some (.initialized "java/lang/Math") ∧ lw_tbl[392]? = some (.code Lib.Math.min.name Lib.Math.min.code 2 (some .int)) := by decide +kernel
theorem mx_ac_w : lw_tbl[272]? = some (.native arraycopyName) ∧ lw_tbl[271]? = some (.static arraycopyName) ∧ lw_tbl[93]? = some (.initialized "java/lang/System") := by decide +kernel
theorem mx_csl_ok : mx_csl.all (fun e => decide (lw_tbl[e.2.2.2]? = some (.constant (mx_cn e.1) e.2.1 (Int32.ofNat e.2.2.1)))) = true := by decide +kernel
theorem mx_cll_ok : mx_cll.all (fun e => decide (lw_tbl[e.2.2.2]? = some (.constantLong (mx_cn e.1) e.2.1 (Int64.ofNat e.2.2.1)))) = true := by decide +kernel
theorem mx_so_ok : lw_tbl[248]? = some (.fieldLink "MotionDesk" 266 "MotionDesk" "ORDERS" "[I") := by decide +kernel
/-- the words of a method itself -/
def mx_mck (k : Nat) : Bool := decide (lw_tbl[(mx_ps k).2.2.1]? = some (.code (mx_y k) (mx_code k) (mx_maxL k) (mx_ret k))) && decide (lw_tbl[(mx_ps k).2.2.2.1]? = some (.initialized (mx_y k).cls)) && decide ((mx_y k).cls ≠ "java/lang/invoke/MethodHandle") && decide ((mx_y k).cls ≠ "java/lang/invoke/VarHandle") && decide ((parseMethodDescriptor (mx_y k).desc).map (fun d => d.parameters.length) = some (mx_ps k).2.1) && plainName (mx_y k).cls && decide (mx_maxL k ≤ 24) && decide ((mx_y k).cls = mx_cn (mx_own k)) && (if (mx_ps k).1 then decide (lw_tbl[(mx_ps k).2.2.2.2.1]? = some (.static (mx_y k))) else decide (lw_tbl[(mx_ps k).2.2.2.2.1]? = some (.instanceMethod (mx_y k))) && decide (lw_tbl[(mx_ps k).2.2.2.2.2]? = some (.selects (mx_y k).cls (mx_y k) (mx_y k))))
theorem mx_mok0 : mx_mck 0 = true := by decide +kernel
theorem mx_mok1 : mx_mck 1 = true := by decide +kernel
theorem mx_mok2 : mx_mck 2 = true := by decide +kernel
theorem mx_mok3 : mx_mck 3 = true := by decide +kernel
theorem mx_mok4 : mx_mck 4 = true := by decide +kernel
theorem mx_mok5 : mx_mck 5 = true := by decide +kernel
theorem mx_mok6 : mx_mck 6 = true := by decide +kernel
theorem mx_mok7 : mx_mck 7 = true := by decide +kernel
theorem mx_mok8 : mx_mck 8 = true := by decide +kernel
theorem mx_mok9 : mx_mck 9 = true := by decide +kernel
theorem mx_mok10 : mx_mck 10 = true := by decide +kernel
theorem mx_mok11 : mx_mck 11 = true := by decide +kernel
theorem mx_mok12 : mx_mck 12 = true := by decide +kernel
theorem mx_mok13 : mx_mck 13 = true := by decide +kernel
theorem mx_mok14 : mx_mck 14 = true := by decide +kernel
theorem mx_mok15 : mx_mck 15 = true := by decide +kernel
theorem mx_mok16 : mx_mck 16 = true := by decide +kernel
theorem mx_mok17 : mx_mck 17 = true := by decide +kernel
theorem mx_mok18 : mx_mck 18 = true := by decide +kernel
theorem mx_mok19 : mx_mck 19 = true := by decide +kernel
theorem mx_mok20 : mx_mck 20 = true := by decide +kernel
theorem mx_mok21 : mx_mck 21 = true := by decide +kernel
theorem mx_mok22 : mx_mck 22 = true := by decide +kernel
theorem mx_mok23 : mx_mck 23 = true := by decide +kernel
theorem mx_mok24 : mx_mck 24 = true := by decide +kernel
theorem mx_mok25 : mx_mck 25 = true := by decide +kernel
theorem mx_mok26 : mx_mck 26 = true := by decide +kernel
theorem mx_mok27 : mx_mck 27 = true := by decide +kernel
theorem mx_mok28 : mx_mck 28 = true := by decide +kernel
theorem mx_mok29 : mx_mck 29 = true := by decide +kernel
theorem mx_mok30 : mx_mck 30 = true := by decide +kernel
theorem mx_mok31 : mx_mck 31 = true := by decide +kernel
theorem mx_mok32 : mx_mck 32 = true := by decide +kernel
theorem mx_mok33 : mx_mck 33 = true := by decide +kernel
theorem mx_mok34 : mx_mck 34 = true := by decide +kernel
theorem mx_mok35 : mx_mck 35 = true := by decide +kernel
theorem mx_mok36 : mx_mck 36 = true := by decide +kernel
theorem mx_mok37 : mx_mck 37 = true := by decide +kernel
theorem mx_mok38 : mx_mck 38 = true := by decide +kernel
theorem mx_mok39 : mx_mck 39 = true := by decide +kernel
theorem mx_mok40 : mx_mck 40 = true := by decide +kernel
theorem mx_mok41 : mx_mck 41 = true := by decide +kernel
theorem mx_mok42 : mx_mck 42 = true := by decide +kernel
theorem mx_mok43 : mx_mck 43 = true := by decide +kernel
theorem mx_mok44 : mx_mck 44 = true := by decide +kernel
theorem mx_mok45 : mx_mck 45 = true := by decide +kernel
theorem mx_mok46 : mx_mck 46 = true := by decide +kernel
theorem mx_mok47 : mx_mck 47 = true := by decide +kernel
theorem mx_mok48 : mx_mck 48 = true := by decide +kernel
theorem mx_mok49 : mx_mck 49 = true := by decide +kernel
theorem mx_mok50 : mx_mck 50 = true := by decide +kernel
theorem mx_mok51 : mx_mck 51 = true := by decide +kernel
theorem mx_mok52 : mx_mck 52 = true := by decide +kernel
theorem mx_mok53 : mx_mck 53 = true := by decide +kernel
theorem mx_mok54 : mx_mck 54 = true := by decide +kernel
theorem mx_mok55 : mx_mck 55 = true := by decide +kernel
theorem mx_mok56 : mx_mck 56 = true := by decide +kernel
theorem mx_mok57 : mx_mck 57 = true := by decide +kernel
theorem mx_mok58 : mx_mck 58 = true := by decide +kernel
theorem mx_mok59 : mx_mck 59 = true := by decide +kernel
theorem mx_mok60 : mx_mck 60 = true := by decide +kernel
theorem mx_mok61 : mx_mck 61 = true := by decide +kernel
theorem mx_mok62 : mx_mck 62 = true := by decide +kernel
theorem mx_mok63 : mx_mck 63 = true := by decide +kernel
theorem mx_mok64 : mx_mck 64 = true := by decide +kernel
theorem mx_mok65 : mx_mck 65 = true := by decide +kernel
theorem mx_mok66 : mx_mck 66 = true := by decide +kernel
theorem mx_mok67 : mx_mck 67 = true := by decide +kernel
theorem mx_mok68 : mx_mck 68 = true := by decide +kernel
theorem mx_mok69 : mx_mck 69 = true := by decide +kernel
theorem mx_mok70 : mx_mck 70 = true := by decide +kernel
theorem mx_mok71 : mx_mck 71 = true := by decide +kernel
theorem mx_mok72 : mx_mck 72 = true := by decide +kernel
theorem mx_mok73 : mx_mck 73 = true := by decide +kernel
theorem mx_mok74 : mx_mck 74 = true := by decide +kernel
theorem mx_mok75 : mx_mck 75 = true := by decide +kernel
theorem mx_mok76 : mx_mck 76 = true := by decide +kernel
theorem mx_mok77 : mx_mck 77 = true := by decide +kernel
theorem mx_mok78 : mx_mck 78 = true := by decide +kernel
theorem mx_mok79 : mx_mck 79 = true := by decide +kernel
theorem mx_mok80 : mx_mck 80 = true := by decide +kernel
theorem mx_mok81 : mx_mck 81 = true := by decide +kernel
theorem mx_mok82 : mx_mck 82 = true := by decide +kernel
theorem mx_mok83 : mx_mck 83 = true := by decide +kernel
theorem mx_mok84 : mx_mck 84 = true := by decide +kernel
theorem mx_mok85 : mx_mck 85 = true := by decide +kernel
theorem mx_mok86 : mx_mck 86 = true := by decide +kernel
theorem mx_mok87 : mx_mck 87 = true := by decide +kernel
theorem mx_mok88 : mx_mck 88 = true := by decide +kernel
theorem mx_mok89 : mx_mck 89 = true := by decide +kernel
theorem mx_mok90 : mx_mck 90 = true := by decide +kernel
theorem mx_mok91 : mx_mck 91 = true := by decide +kernel
theorem mx_mok92 : mx_mck 92 = true := by decide +kernel
theorem mx_mok93 : mx_mck 93 = true := by decide +kernel
theorem mx_mok94 : mx_mck 94 = true := by decide +kernel
theorem mx_mok95 : mx_mck 95 = true := by decide +kernel
theorem mx_mok96 : mx_mck 96 = true := by decide +kernel
theorem mx_mok97 : mx_mck 97 = true := by decide +kernel
theorem mx_mok98 : mx_mck 98 = true := by decide +kernel
theorem mx_mok99 : mx_mck 99 = true := by decide +kernel
theorem mx_mok100 : mx_mck 100 = true := by decide +kernel
theorem mx_mok101 : mx_mck 101 = true := by decide +kernel
theorem mx_mok102 : mx_mck 102 = true := by decide +kernel
theorem mx_mok103 : mx_mck 103 = true := by decide +kernel
theorem mx_mok104 : mx_mck 104 = true := by decide +kernel
theorem mx_mok105 : mx_mck 105 = true := by decide +kernel
theorem mx_mok106 : mx_mck 106 = true := by decide +kernel
theorem mx_mok107 : mx_mck 107 = true := by decide +kernel
theorem mx_mok108 : mx_mck 108 = true := by decide +kernel
theorem mx_mok109 : mx_mck 109 = true := by decide +kernel
theorem mx_mok110 : mx_mck 110 = true := by decide +kernel
theorem mx_mok111 : mx_mck 111 = true := by decide +kernel
theorem mx_mok112 : mx_mck 112 = true := by decide +kernel
theorem mx_mok113 : mx_mck 113 = true := by decide +kernel
theorem mx_mok114 : mx_mck 114 = true := by decide +kernel
theorem mx_mok115 : mx_mck 115 = true := by decide +kernel
theorem mx_mok116 : mx_mck 116 = true := by decide +kernel
theorem mx_mok117 : mx_mck 117 = true := by decide +kernel
theorem mx_mok118 : mx_mck 118 = true := by decide +kernel
theorem mx_mok119 : mx_mck 119 = true := by decide +kernel
theorem mx_mok120 : mx_mck 120 = true := by decide +kernel
theorem mx_mok121 : mx_mck 121 = true := by decide +kernel
theorem mx_mok122 : mx_mck 122 = true := by decide +kernel
theorem mx_mok123 : mx_mck 123 = true := by decide +kernel
theorem mx_mok124 : mx_mck 124 = true := by decide +kernel
theorem mx_mok125 : mx_mck 125 = true := by decide +kernel
theorem mx_mok126 : mx_mck 126 = true := by decide +kernel
theorem mx_mok127 : mx_mck 127 = true := by decide +kernel
theorem mx_mok128 : mx_mck 128 = true := by decide +kernel
theorem mx_mok129 : mx_mck 129 = true := by decide +kernel
theorem mx_mok130 : mx_mck 130 = true := by decide +kernel
theorem mx_mok131 : mx_mck 131 = true := by decide +kernel
theorem mx_mok132 : mx_mck 132 = true := by decide +kernel
theorem mx_mok133 : mx_mck 133 = true := by decide +kernel
theorem mx_mok134 : mx_mck 134 = true := by decide +kernel
theorem mx_mok135 : mx_mck 135 = true := by decide +kernel
theorem mx_mok136 : mx_mck 136 = true := by decide +kernel
theorem mx_mok137 : mx_mck 137 = true := by decide +kernel
theorem mx_mok138 : mx_mck 138 = true := by decide +kernel
theorem mx_mok139 : mx_mck 139 = true := by decide +kernel
theorem mx_mok140 : mx_mck 140 = true := by decide +kernel
theorem mx_mok141 : mx_mck 141 = true := by decide +kernel
theorem mx_mok142 : mx_mck 142 = true := by decide +kernel
theorem mx_mok143 : mx_mck 143 = true := by decide +kernel
theorem mx_mok144 : mx_mck 144 = true := by decide +kernel
theorem mx_mok145 : mx_mck 145 = true := by decide +kernel
theorem mx_mok146 : mx_mck 146 = true := by decide +kernel
theorem mx_mok147 : mx_mck 147 = true := by decide +kernel
theorem mx_mok148 : mx_mck 148 = true := by decide +kernel
theorem mx_mok149 : mx_mck 149 = true := by decide +kernel
theorem mx_mok (mi : Nat) (h : mi < 150) : mx_mck mi = true := by
  match mi, h with
  | 0, _ => exact mx_mok0
  | 1, _ => exact mx_mok1
  | 2, _ => exact mx_mok2
  | 3, _ => exact mx_mok3
  | 4, _ => exact mx_mok4
  | 5, _ => exact mx_mok5
  | 6, _ => exact mx_mok6
  | 7, _ => exact mx_mok7
  | 8, _ => exact mx_mok8
  | 9, _ => exact mx_mok9
  | 10, _ => exact mx_mok10
  | 11, _ => exact mx_mok11
  | 12, _ => exact mx_mok12
  | 13, _ => exact mx_mok13
  | 14, _ => exact mx_mok14
  | 15, _ => exact mx_mok15
  | 16, _ => exact mx_mok16
  | 17, _ => exact mx_mok17
  | 18, _ => exact mx_mok18
  | 19, _ => exact mx_mok19
  | 20, _ => exact mx_mok20
  | 21, _ => exact mx_mok21
  | 22, _ => exact mx_mok22
  | 23, _ => exact mx_mok23
  | 24, _ => exact mx_mok24
  | 25, _ => exact mx_mok25
  | 26, _ => exact mx_mok26
  | 27, _ => exact mx_mok27
  | 28, _ => exact mx_mok28
  | 29, _ => exact mx_mok29
  | 30, _ => exact mx_mok30
  | 31, _ => exact mx_mok31
  | 32, _ => exact mx_mok32
  | 33, _ => exact mx_mok33
  | 34, _ => exact mx_mok34
  | 35, _ => exact mx_mok35
  | 36, _ => exact mx_mok36
  | 37, _ => exact mx_mok37
  | 38, _ => exact mx_mok38
  | 39, _ => exact mx_mok39
  | 40, _ => exact mx_mok40
  | 41, _ => exact mx_mok41
  | 42, _ => exact mx_mok42
  | 43, _ => exact mx_mok43
  | 44, _ => exact mx_mok44
  | 45, _ => exact mx_mok45
  | 46, _ => exact mx_mok46
  | 47, _ => exact mx_mok47
  | 48, _ => exact mx_mok48
  | 49, _ => exact mx_mok49
  | 50, _ => exact mx_mok50
  | 51, _ => exact mx_mok51
  | 52, _ => exact mx_mok52
  | 53, _ => exact mx_mok53
  | 54, _ => exact mx_mok54
  | 55, _ => exact mx_mok55
  | 56, _ => exact mx_mok56
  | 57, _ => exact mx_mok57
  | 58, _ => exact mx_mok58
  | 59, _ => exact mx_mok59
  | 60, _ => exact mx_mok60
  | 61, _ => exact mx_mok61
  | 62, _ => exact mx_mok62
  | 63, _ => exact mx_mok63
  | 64, _ => exact mx_mok64
  | 65, _ => exact mx_mok65
  | 66, _ => exact mx_mok66
  | 67, _ => exact mx_mok67
  | 68, _ => exact mx_mok68
  | 69, _ => exact mx_mok69
  | 70, _ => exact mx_mok70
  | 71, _ => exact mx_mok71
  | 72, _ => exact mx_mok72
  | 73, _ => exact mx_mok73
  | 74, _ => exact mx_mok74
  | 75, _ => exact mx_mok75
  | 76, _ => exact mx_mok76
  | 77, _ => exact mx_mok77
  | 78, _ => exact mx_mok78
  | 79, _ => exact mx_mok79
  | 80, _ => exact mx_mok80
  | 81, _ => exact mx_mok81
  | 82, _ => exact mx_mok82
  | 83, _ => exact mx_mok83
  | 84, _ => exact mx_mok84
  | 85, _ => exact mx_mok85
  | 86, _ => exact mx_mok86
  | 87, _ => exact mx_mok87
  | 88, _ => exact mx_mok88
  | 89, _ => exact mx_mok89
  | 90, _ => exact mx_mok90
  | 91, _ => exact mx_mok91
  | 92, _ => exact mx_mok92
  | 93, _ => exact mx_mok93
  | 94, _ => exact mx_mok94
  | 95, _ => exact mx_mok95
  | 96, _ => exact mx_mok96
  | 97, _ => exact mx_mok97
  | 98, _ => exact mx_mok98
  | 99, _ => exact mx_mok99
  | 100, _ => exact mx_mok100
  | 101, _ => exact mx_mok101
  | 102, _ => exact mx_mok102
  | 103, _ => exact mx_mok103
  | 104, _ => exact mx_mok104
  | 105, _ => exact mx_mok105
  | 106, _ => exact mx_mok106
  | 107, _ => exact mx_mok107
  | 108, _ => exact mx_mok108
  | 109, _ => exact mx_mok109
  | 110, _ => exact mx_mok110
  | 111, _ => exact mx_mok111
  | 112, _ => exact mx_mok112
  | 113, _ => exact mx_mok113
  | 114, _ => exact mx_mok114
  | 115, _ => exact mx_mok115
  | 116, _ => exact mx_mok116
  | 117, _ => exact mx_mok117
  | 118, _ => exact mx_mok118
  | 119, _ => exact mx_mok119
  | 120, _ => exact mx_mok120
  | 121, _ => exact mx_mok121
  | 122, _ => exact mx_mok122
  | 123, _ => exact mx_mok123
  | 124, _ => exact mx_mok124
  | 125, _ => exact mx_mok125
  | 126, _ => exact mx_mok126
  | 127, _ => exact mx_mok127
  | 128, _ => exact mx_mok128
  | 129, _ => exact mx_mok129
  | 130, _ => exact mx_mok130
  | 131, _ => exact mx_mok131
  | 132, _ => exact mx_mok132
  | 133, _ => exact mx_mok133
  | 134, _ => exact mx_mok134
  | 135, _ => exact mx_mok135
  | 136, _ => exact mx_mok136
  | 137, _ => exact mx_mok137
  | 138, _ => exact mx_mok138
  | 139, _ => exact mx_mok139
  | 140, _ => exact mx_mok140
  | 141, _ => exact mx_mok141
  | 142, _ => exact mx_mok142
  | 143, _ => exact mx_mok143
  | 144, _ => exact mx_mok144
  | 145, _ => exact mx_mok145
  | 146, _ => exact mx_mok146
  | 147, _ => exact mx_mok147
  | 148, _ => exact mx_mok148
  | 149, _ => exact mx_mok149
  | k + 150, h => exact absurd h (by omega)
def mx_good : List Cond := lw_tbl.filter goodWord
