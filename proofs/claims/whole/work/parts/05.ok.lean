set_option maxRecDepth 20000 in
theorem mx_ok0 : mx_ckM 0 = true := by decide +kernel
set_option maxRecDepth 20000 in
theorem mx_ok1 : mx_ckM 1 = true := by decide +kernel
set_option maxRecDepth 20000 in
theorem mx_ok2 : mx_ckM 2 = true := by decide +kernel
set_option maxRecDepth 20000 in
theorem mx_ok3 : mx_ckM 3 = true := by decide +kernel
set_option maxRecDepth 20000 in
theorem mx_ok4 : mx_ckM 4 = true := by decide +kernel
set_option maxRecDepth 20000 in
theorem mx_ok5 : mx_ckM 5 = true := by decide +kernel
set_option maxRecDepth 20000 in
theorem mx_ok6 : mx_ckM 6 = true := by decide +kernel
set_option maxRecDepth 20000 in
theorem mx_ok7 : mx_ckM 7 = true := by decide +kernel
set_option maxRecDepth 20000 in
theorem mx_ok8 : mx_ckM 8 = true := by decide +kernel
set_option maxRecDepth 20000 in
theorem mx_ok9 : mx_ckM 9 = true := by decide +kernel
set_option maxRecDepth 20000 in
theorem mx_ok10 : mx_ckM 10 = true := by decide +kernel
set_option maxRecDepth 20000 in
theorem mx_ok11 : mx_ckM 11 = true := by decide +kernel
set_option maxRecDepth 20000 in
theorem mx_ok12 : mx_ckM 12 = true := by decide +kernel
set_option maxRecDepth 20000 in
theorem mx_ok13 : mx_ckM 13 = true := by decide +kernel
set_option maxRecDepth 20000 in
theorem mx_ok14 : mx_ckM 14 = true := by decide +kernel
set_option maxRecDepth 20000 in
theorem mx_ok15 : mx_ckM 15 = true := by decide +kernel
set_option maxRecDepth 20000 in
theorem mx_ok16 : mx_ckM 16 = true := by decide +kernel
set_option maxRecDepth 20000 in
theorem mx_ok17 : mx_ckM 17 = true := by decide +kernel
set_option maxRecDepth 20000 in
theorem mx_ok18 : mx_ckM 18 = true := by decide +kernel
set_option maxRecDepth 20000 in
theorem mx_ok19 : mx_ckM 19 = true := by decide +kernel
set_option maxRecDepth 20000 in
theorem mx_ok20 : mx_ckM 20 = true := by decide +kernel
set_option maxRecDepth 20000 in
theorem mx_ok21 : mx_ckM 21 = true := by decide +kernel
set_option maxRecDepth 20000 in
theorem mx_ok22 : mx_ckM 22 = true := by decide +kernel
set_option maxRecDepth 20000 in
theorem mx_ok23 : mx_ckM 23 = true := by decide +kernel
set_option maxRecDepth 20000 in
theorem mx_ok24 : mx_ckM 24 = true := by decide +kernel
set_option maxRecDepth 20000 in
theorem mx_ok25 : mx_ckM 25 = true := by decide +kernel
set_option maxRecDepth 20000 in
theorem mx_ok26 : mx_ckM 26 = true := by decide +kernel
set_option maxRecDepth 20000 in
theorem mx_ok27 : mx_ckM 27 = true := by decide +kernel
set_option maxRecDepth 20000 in
theorem mx_ok28 : mx_ckM 28 = true := by decide +kernel
set_option maxRecDepth 20000 in
theorem mx_ok29 : mx_ckM 29 = true := by decide +kernel
set_option maxRecDepth 20000 in
theorem mx_ok30 : mx_ckM 30 = true := by decide +kernel
set_option maxRecDepth 20000 in
theorem mx_ok31 : mx_ckM 31 = true := by decide +kernel
set_option maxRecDepth 20000 in
theorem mx_ok32 : mx_ckM 32 = true := by decide +kernel
set_option maxRecDepth 20000 in
theorem mx_ok33 : mx_ckM 33 = true := by decide +kernel
set_option maxRecDepth 20000 in
theorem mx_ok34 : mx_ckM 34 = true := by decide +kernel
set_option maxRecDepth 20000 in
theorem mx_ok35 : mx_ckM 35 = true := by decide +kernel
set_option maxRecDepth 20000 in
theorem mx_ok36 : mx_ckM 36 = true := by decide +kernel
set_option maxRecDepth 20000 in
theorem mx_ok37 : mx_ckM 37 = true := by decide +kernel
set_option maxRecDepth 20000 in
theorem mx_ok38 : mx_ckM 38 = true := by decide +kernel
set_option maxRecDepth 20000 in
theorem mx_ok39 : mx_ckM 39 = true := by decide +kernel
set_option maxRecDepth 20000 in
theorem mx_ok40 : mx_ckM 40 = true := by decide +kernel
set_option maxRecDepth 20000 in
theorem mx_ok41 : mx_ckM 41 = true := by decide +kernel
set_option maxRecDepth 20000 in
theorem mx_ok42 : mx_ckM 42 = true := by decide +kernel
set_option maxRecDepth 20000 in
theorem mx_ok43 : mx_ckM 43 = true := by decide +kernel
set_option maxRecDepth 20000 in
theorem mx_ok44 : mx_ckM 44 = true := by decide +kernel
set_option maxRecDepth 20000 in
theorem mx_ok45 : mx_ckM 45 = true := by decide +kernel
set_option maxRecDepth 20000 in
theorem mx_ok46 : mx_ckM 46 = true := by decide +kernel
set_option maxRecDepth 20000 in
theorem mx_ok47 : mx_ckM 47 = true := by decide +kernel
set_option maxRecDepth 20000 in
theorem mx_ok48 : mx_ckM 48 = true := by decide +kernel
set_option maxRecDepth 20000 in
theorem mx_ok49 : mx_ckM 49 = true := by decide +kernel
set_option maxRecDepth 20000 in
theorem mx_ok50 : mx_ckM 50 = true := by decide +kernel
set_option maxRecDepth 20000 in
theorem mx_ok51 : mx_ckM 51 = true := by decide +kernel
set_option maxRecDepth 20000 in
theorem mx_ok52 : mx_ckM 52 = true := by decide +kernel
set_option maxRecDepth 20000 in
theorem mx_ok53 : mx_ckM 53 = true := by decide +kernel
set_option maxRecDepth 20000 in
theorem mx_ok54 : mx_ckM 54 = true := by decide +kernel
set_option maxRecDepth 20000 in
theorem mx_ok55 : mx_ckM 55 = true := by decide +kernel
set_option maxRecDepth 20000 in
theorem mx_ok56 : mx_ckM 56 = true := by decide +kernel
set_option maxRecDepth 20000 in
theorem mx_ok57 : mx_ckM 57 = true := by decide +kernel
set_option maxRecDepth 20000 in
theorem mx_ok58 : mx_ckM 58 = true := by decide +kernel
set_option maxRecDepth 20000 in
theorem mx_ok59 : mx_ckM 59 = true := by decide +kernel
set_option maxRecDepth 20000 in
theorem mx_ok60 : mx_ckM 60 = true := by decide +kernel
set_option maxRecDepth 20000 in
theorem mx_ok61 : mx_ckM 61 = true := by decide +kernel
set_option maxRecDepth 20000 in
theorem mx_ok62 : mx_ckM 62 = true := by decide +kernel
set_option maxRecDepth 20000 in
theorem mx_ok63 : mx_ckM 63 = true := by decide +kernel
set_option maxRecDepth 20000 in
theorem mx_ok64 : mx_ckM 64 = true := by decide +kernel
set_option maxRecDepth 20000 in
theorem mx_ok65 : mx_ckM 65 = true := by decide +kernel
set_option maxRecDepth 20000 in
theorem mx_ok66 : mx_ckM 66 = true := by decide +kernel
set_option maxRecDepth 20000 in
theorem mx_ok67 : mx_ckM 67 = true := by decide +kernel
set_option maxRecDepth 20000 in
theorem mx_ok68 : mx_ckM 68 = true := by decide +kernel
set_option maxRecDepth 20000 in
theorem mx_ok69 : mx_ckM 69 = true := by decide +kernel
set_option maxRecDepth 20000 in
theorem mx_ok70 : mx_ckM 70 = true := by decide +kernel
set_option maxRecDepth 20000 in
theorem mx_ok71 : mx_ckM 71 = true := by decide +kernel
set_option maxRecDepth 20000 in
theorem mx_ok72 : mx_ckM 72 = true := by decide +kernel
set_option maxRecDepth 20000 in
theorem mx_ok73 : mx_ckM 73 = true := by decide +kernel
set_option maxRecDepth 20000 in
theorem mx_ok74 : mx_ckM 74 = true := by decide +kernel
set_option maxRecDepth 20000 in
theorem mx_ok75 : mx_ckM 75 = true := by decide +kernel
set_option maxRecDepth 20000 in
theorem mx_ok76 : mx_ckM 76 = true := by decide +kernel
set_option maxRecDepth 20000 in
theorem mx_ok77 : mx_ckM 77 = true := by decide +kernel
set_option maxRecDepth 20000 in
theorem mx_ok78 : mx_ckM 78 = true := by decide +kernel
set_option maxRecDepth 20000 in
theorem mx_ok79 : mx_ckM 79 = true := by decide +kernel
set_option maxRecDepth 20000 in
theorem mx_ok80 : mx_ckM 80 = true := by decide +kernel
set_option maxRecDepth 20000 in
theorem mx_ok81 : mx_ckM 81 = true := by decide +kernel
set_option maxRecDepth 20000 in
theorem mx_ok82 : mx_ckM 82 = true := by decide +kernel
set_option maxRecDepth 20000 in
theorem mx_ok83 : mx_ckM 83 = true := by decide +kernel
set_option maxRecDepth 20000 in
theorem mx_ok84 : mx_ckM 84 = true := by decide +kernel
set_option maxRecDepth 20000 in
theorem mx_ok85 : mx_ckM 85 = true := by decide +kernel
set_option maxRecDepth 20000 in
theorem mx_ok86 : mx_ckM 86 = true := by decide +kernel
set_option maxRecDepth 20000 in
theorem mx_ok87 : mx_ckM 87 = true := by decide +kernel
set_option maxRecDepth 20000 in
theorem mx_ok88 : mx_ckM 88 = true := by decide +kernel
set_option maxRecDepth 20000 in
theorem mx_ok89 : mx_ckM 89 = true := by decide +kernel
set_option maxRecDepth 20000 in
theorem mx_ok90 : mx_ckM 90 = true := by decide +kernel
set_option maxRecDepth 20000 in
theorem mx_ok91 : mx_ckM 91 = true := by decide +kernel
set_option maxRecDepth 20000 in
theorem mx_ok92 : mx_ckM 92 = true := by decide +kernel
set_option maxRecDepth 20000 in
theorem mx_ok93 : mx_ckM 93 = true := by decide +kernel
set_option maxRecDepth 20000 in
theorem mx_ok94 : mx_ckM 94 = true := by decide +kernel
set_option maxRecDepth 20000 in
theorem mx_ok95 : mx_ckM 95 = true := by decide +kernel
set_option maxRecDepth 20000 in
theorem mx_ok96 : mx_ckM 96 = true := by decide +kernel
set_option maxRecDepth 20000 in
theorem mx_ok97 : mx_ckM 97 = true := by decide +kernel
set_option maxRecDepth 20000 in
theorem mx_ok98 : mx_ckM 98 = true := by decide +kernel
set_option maxRecDepth 20000 in
theorem mx_ok99 : mx_ckM 99 = true := by decide +kernel
set_option maxRecDepth 20000 in
theorem mx_ok100 : mx_ckM 100 = true := by decide +kernel
set_option maxRecDepth 20000 in
theorem mx_ok101 : mx_ckM 101 = true := by decide +kernel
set_option maxRecDepth 20000 in
theorem mx_ok102 : mx_ckM 102 = true := by decide +kernel
set_option maxRecDepth 20000 in
theorem mx_ok103 : mx_ckM 103 = true := by decide +kernel
set_option maxRecDepth 20000 in
theorem mx_ok104 : mx_ckM 104 = true := by decide +kernel
set_option maxRecDepth 20000 in
theorem mx_ok105 : mx_ckM 105 = true := by decide +kernel
set_option maxRecDepth 20000 in
theorem mx_ok106 : mx_ckM 106 = true := by decide +kernel
set_option maxRecDepth 20000 in
theorem mx_ok107 : mx_ckM 107 = true := by decide +kernel
set_option maxRecDepth 20000 in
theorem mx_ok108 : mx_ckM 108 = true := by decide +kernel
set_option maxRecDepth 20000 in
theorem mx_ok109 : mx_ckM 109 = true := by decide +kernel
set_option maxRecDepth 20000 in
theorem mx_ok110 : mx_ckM 110 = true := by decide +kernel
set_option maxRecDepth 20000 in
theorem mx_ok111 : mx_ckM 111 = true := by decide +kernel
set_option maxRecDepth 20000 in
theorem mx_ok112 : mx_ckM 112 = true := by decide +kernel
set_option maxRecDepth 20000 in
theorem mx_ok113 : mx_ckM 113 = true := by decide +kernel
set_option maxRecDepth 20000 in
theorem mx_ok114 : mx_ckM 114 = true := by decide +kernel
set_option maxRecDepth 20000 in
theorem mx_ok115 : mx_ckM 115 = true := by decide +kernel
set_option maxRecDepth 20000 in
theorem mx_ok116 : mx_ckM 116 = true := by decide +kernel
set_option maxRecDepth 20000 in
theorem mx_ok117 : mx_ckM 117 = true := by decide +kernel
set_option maxRecDepth 20000 in
theorem mx_ok118 : mx_ckM 118 = true := by decide +kernel
set_option maxRecDepth 20000 in
theorem mx_ok119 : mx_ckM 119 = true := by decide +kernel
set_option maxRecDepth 20000 in
theorem mx_ok120 : mx_ckM 120 = true := by decide +kernel
set_option maxRecDepth 20000 in
theorem mx_ok121 : mx_ckM 121 = true := by decide +kernel
set_option maxRecDepth 20000 in
theorem mx_ok122 : mx_ckM 122 = true := by decide +kernel
set_option maxRecDepth 20000 in
theorem mx_ok123 : mx_ckM 123 = true := by decide +kernel
set_option maxRecDepth 20000 in
theorem mx_ok124 : mx_ckM 124 = true := by decide +kernel
set_option maxRecDepth 20000 in
theorem mx_ok125 : mx_ckM 125 = true := by decide +kernel
set_option maxRecDepth 20000 in
theorem mx_ok126 : mx_ckM 126 = true := by decide +kernel
set_option maxRecDepth 20000 in
theorem mx_ok127 : mx_ckM 127 = true := by decide +kernel
set_option maxRecDepth 20000 in
theorem mx_ok128 : mx_ckM 128 = true := by decide +kernel
set_option maxRecDepth 20000 in
theorem mx_ok129 : mx_ckM 129 = true := by decide +kernel
set_option maxRecDepth 20000 in
theorem mx_ok130 : mx_ckM 130 = true := by decide +kernel
set_option maxRecDepth 20000 in
theorem mx_ok131 : mx_ckM 131 = true := by decide +kernel
set_option maxRecDepth 20000 in
theorem mx_ok132 : mx_ckM 132 = true := by decide +kernel
set_option maxRecDepth 20000 in
theorem mx_ok133 : mx_ckM 133 = true := by decide +kernel
set_option maxRecDepth 20000 in
theorem mx_ok134 : mx_ckM 134 = true := by decide +kernel
set_option maxRecDepth 20000 in
theorem mx_ok135 : mx_ckM 135 = true := by decide +kernel
set_option maxRecDepth 20000 in
theorem mx_ok136 : mx_ckM 136 = true := by decide +kernel
set_option maxRecDepth 20000 in
theorem mx_ok137 : mx_ckM 137 = true := by decide +kernel
set_option maxRecDepth 20000 in
theorem mx_ok138 : mx_ckM 138 = true := by decide +kernel
set_option maxRecDepth 20000 in
theorem mx_ok139 : mx_ckM 139 = true := by decide +kernel
set_option maxRecDepth 20000 in
theorem mx_ok140 : mx_ckM 140 = true := by decide +kernel
set_option maxRecDepth 20000 in
theorem mx_ok141 : mx_ckM 141 = true := by decide +kernel
set_option maxRecDepth 20000 in
theorem mx_ok142 : mx_ckM 142 = true := by decide +kernel
set_option maxRecDepth 20000 in
theorem mx_ok143 : mx_ckM 143 = true := by decide +kernel
set_option maxRecDepth 20000 in
theorem mx_ok144 : mx_ckM 144 = true := by decide +kernel
set_option maxRecDepth 20000 in
theorem mx_ok145 : mx_ckM 145 = true := by decide +kernel
set_option maxRecDepth 20000 in
theorem mx_ok146 : mx_ckM 146 = true := by decide +kernel
set_option maxRecDepth 20000 in
theorem mx_ok147 : mx_ckM 147 = true := by decide +kernel
set_option maxRecDepth 20000 in
theorem mx_ok148 : mx_ckM 148 = true := by decide +kernel
set_option maxRecDepth 20000 in
theorem mx_ok149 : mx_ckM 149 = true := by decide +kernel
theorem mx_okM (mi : Nat) (h : mi < 150) : mx_ckM mi = true := by
  match mi, h with
  | 0, _ => exact mx_ok0
  | 1, _ => exact mx_ok1
  | 2, _ => exact mx_ok2
  | 3, _ => exact mx_ok3
  | 4, _ => exact mx_ok4
  | 5, _ => exact mx_ok5
  | 6, _ => exact mx_ok6
  | 7, _ => exact mx_ok7
  | 8, _ => exact mx_ok8
  | 9, _ => exact mx_ok9
  | 10, _ => exact mx_ok10
  | 11, _ => exact mx_ok11
  | 12, _ => exact mx_ok12
  | 13, _ => exact mx_ok13
  | 14, _ => exact mx_ok14
  | 15, _ => exact mx_ok15
  | 16, _ => exact mx_ok16
  | 17, _ => exact mx_ok17
  | 18, _ => exact mx_ok18
  | 19, _ => exact mx_ok19
  | 20, _ => exact mx_ok20
  | 21, _ => exact mx_ok21
  | 22, _ => exact mx_ok22
  | 23, _ => exact mx_ok23
  | 24, _ => exact mx_ok24
  | 25, _ => exact mx_ok25
  | 26, _ => exact mx_ok26
  | 27, _ => exact mx_ok27
  | 28, _ => exact mx_ok28
  | 29, _ => exact mx_ok29
  | 30, _ => exact mx_ok30
  | 31, _ => exact mx_ok31
  | 32, _ => exact mx_ok32
  | 33, _ => exact mx_ok33
  | 34, _ => exact mx_ok34
  | 35, _ => exact mx_ok35
  | 36, _ => exact mx_ok36
  | 37, _ => exact mx_ok37
  | 38, _ => exact mx_ok38
  | 39, _ => exact mx_ok39
  | 40, _ => exact mx_ok40
  | 41, _ => exact mx_ok41
  | 42, _ => exact mx_ok42
  | 43, _ => exact mx_ok43
  | 44, _ => exact mx_ok44
  | 45, _ => exact mx_ok45
  | 46, _ => exact mx_ok46
  | 47, _ => exact mx_ok47
  | 48, _ => exact mx_ok48
  | 49, _ => exact mx_ok49
  | 50, _ => exact mx_ok50
  | 51, _ => exact mx_ok51
  | 52, _ => exact mx_ok52
  | 53, _ => exact mx_ok53
  | 54, _ => exact mx_ok54
  | 55, _ => exact mx_ok55
  | 56, _ => exact mx_ok56
  | 57, _ => exact mx_ok57
  | 58, _ => exact mx_ok58
  | 59, _ => exact mx_ok59
  | 60, _ => exact mx_ok60
  | 61, _ => exact mx_ok61
  | 62, _ => exact mx_ok62
  | 63, _ => exact mx_ok63
  | 64, _ => exact mx_ok64
  | 65, _ => exact mx_ok65
  | 66, _ => exact mx_ok66
  | 67, _ => exact mx_ok67
  | 68, _ => exact mx_ok68
  | 69, _ => exact mx_ok69
  | 70, _ => exact mx_ok70
  | 71, _ => exact mx_ok71
  | 72, _ => exact mx_ok72
  | 73, _ => exact mx_ok73
  | 74, _ => exact mx_ok74
  | 75, _ => exact mx_ok75
  | 76, _ => exact mx_ok76
  | 77, _ => exact mx_ok77
  | 78, _ => exact mx_ok78
  | 79, _ => exact mx_ok79
  | 80, _ => exact mx_ok80
  | 81, _ => exact mx_ok81
  | 82, _ => exact mx_ok82
  | 83, _ => exact mx_ok83
  | 84, _ => exact mx_ok84
  | 85, _ => exact mx_ok85
  | 86, _ => exact mx_ok86
  | 87, _ => exact mx_ok87
  | 88, _ => exact mx_ok88
  | 89, _ => exact mx_ok89
  | 90, _ => exact mx_ok90
  | 91, _ => exact mx_ok91
  | 92, _ => exact mx_ok92
  | 93, _ => exact mx_ok93
  | 94, _ => exact mx_ok94
  | 95, _ => exact mx_ok95
  | 96, _ => exact mx_ok96
  | 97, _ => exact mx_ok97
  | 98, _ => exact mx_ok98
  | 99, _ => exact mx_ok99
  | 100, _ => exact mx_ok100
  | 101, _ => exact mx_ok101
  | 102, _ => exact mx_ok102
  | 103, _ => exact mx_ok103
  | 104, _ => exact mx_ok104
  | 105, _ => exact mx_ok105
  | 106, _ => exact mx_ok106
  | 107, _ => exact mx_ok107
  | 108, _ => exact mx_ok108
  | 109, _ => exact mx_ok109
  | 110, _ => exact mx_ok110
  | 111, _ => exact mx_ok111
  | 112, _ => exact mx_ok112
  | 113, _ => exact mx_ok113
  | 114, _ => exact mx_ok114
  | 115, _ => exact mx_ok115
  | 116, _ => exact mx_ok116
  | 117, _ => exact mx_ok117
  | 118, _ => exact mx_ok118
  | 119, _ => exact mx_ok119
  | 120, _ => exact mx_ok120
  | 121, _ => exact mx_ok121
  | 122, _ => exact mx_ok122
  | 123, _ => exact mx_ok123
  | 124, _ => exact mx_ok124
  | 125, _ => exact mx_ok125
  | 126, _ => exact mx_ok126
  | 127, _ => exact mx_ok127
  | 128, _ => exact mx_ok128
  | 129, _ => exact mx_ok129
  | 130, _ => exact mx_ok130
  | 131, _ => exact mx_ok131
  | 132, _ => exact mx_ok132
  | 133, _ => exact mx_ok133
  | 134, _ => exact mx_ok134
  | 135, _ => exact mx_ok135
  | 136, _ => exact mx_ok136
  | 137, _ => exact mx_ok137
  | 138, _ => exact mx_ok138
  | 139, _ => exact mx_ok139
  | 140, _ => exact mx_ok140
  | 141, _ => exact mx_ok141
  | 142, _ => exact mx_ok142
  | 143, _ => exact mx_ok143
  | 144, _ => exact mx_ok144
  | 145, _ => exact mx_ok145
  | 146, _ => exact mx_ok146
  | 147, _ => exact mx_ok147
  | 148, _ => exact mx_ok148
  | 149, _ => exact mx_ok149
  | k + 150, h => exact absurd h (by omega)
