/-! THE LAW's OWN TABLE -/
theorem jj_okt_c {M : jj_M} {Z : jj_E} {l : List (Option jj_R)} {T : jj_T} {c : Nat} (h1 : (Nat.ble l.length 16 && jj_okc M Z (16 * c) l) = true) (h2 : jj_okt M Z (c + 1) T = true) : jj_okt M Z c (l :: T) = true := by
  show (_ && _ && _) = true
  rw [h1, h2]
  rfl
def tL_law_0 : List (Option jj_R) := [some (.new 8, 3, 6, 0, 0), none, none, some (.dup, 4, 0, 0, 0), some (.invokespecial 70, 7, 0, 0, 0), none, none, some (.astore_n 1, 8, 1, 0, 0), some (.new 71, 11, 7, 0, 0), none, none, some (.dup, 12, 0, 0, 0), some (.invokespecial 73, 15, 1, 0, 0), none, none, some (.astore_n 2, 16, 2, 0, 0)]
set_option maxRecDepth 100000 in
theorem tok_L_law_0 : (Nat.ble tL_law_0.length 16 && jj_okc mL_law zL (16 * 0) tL_law_0) = true := by decide +kernel
def tL_law_1 : List (Option jj_R) := [some (.iconst 1, 17, 0, (nI 1), 0), some (.newarray .long, 19, 1, 0, 0), none, some (.astore_n 3, 20, 3, 0, 0), some (.iconst 0, 21, 0, 0, 0), some (.istore 4, 23, 4, 0, 0), none, some (.iload 4, 25, 4, 0, 0), none, some (.aload_n 0, 26, 0, 0, 0), none, some (.bipush 7, 29, 0, (nI 7), 0), none, some (.isub, 30, 0, 0, 0), some (.if_icmp .gt 1388, 33, 1418, 0, 0)]
set_option maxRecDepth 100000 in
theorem tok_L_law_1 : (Nat.ble tL_law_1.length 16 && jj_okc mL_law zL (16 * 1) tL_law_1) = true := by decide +kernel
def tL_law_2 : List (Option jj_R) := [none, some (.aload_n 0, 34, 0, 0, 0), some (.iload 4, 36, 4, 0, 0), none, none, some (.bipush 31, 39, 0, (nI 31), 0), none, some (.iand, 40, 0, 0, 0), some (.tableswitch 1372 0 17 #[88, 156, 274, 342, 434, 538, 618, 698, 766, 853, 933, 1001, 1081, 1137, 1205, 1261, 1317, 1358], 128, 0, 0, 0)]
set_option maxRecDepth 100000 in
theorem tok_L_law_2 : (Nat.ble tL_law_2.length 16 && jj_okc mL_law zL (16 * 2) tL_law_2) = true := by decide +kernel
def tL_law_3 : List (Option jj_R) := []
set_option maxRecDepth 100000 in
theorem tok_L_law_3 : (Nat.ble tL_law_3.length 16 && jj_okc mL_law zL (16 * 3) tL_law_3) = true := by decide +kernel
def tL_law_4 : List (Option jj_R) := []
set_option maxRecDepth 100000 in
theorem tok_L_law_4 : (Nat.ble tL_law_4.length 16 && jj_okc mL_law zL (16 * 4) tL_law_4) = true := by decide +kernel
def tL_law_5 : List (Option jj_R) := []
set_option maxRecDepth 100000 in
theorem tok_L_law_5 : (Nat.ble tL_law_5.length 16 && jj_okc mL_law zL (16 * 5) tL_law_5) = true := by decide +kernel
def tL_law_6 : List (Option jj_R) := []
set_option maxRecDepth 100000 in
theorem tok_L_law_6 : (Nat.ble tL_law_6.length 16 && jj_okc mL_law zL (16 * 6) tL_law_6) = true := by decide +kernel
def tL_law_7 : List (Option jj_R) := []
set_option maxRecDepth 100000 in
theorem tok_L_law_7 : (Nat.ble tL_law_7.length 16 && jj_okc mL_law zL (16 * 7) tL_law_7) = true := by decide +kernel
def tL_law_8 : List (Option jj_R) := [some (.aload_n 1, 129, 1, 0, 0), some (.aload_n 0, 130, 0, 0, 0), some (.iload 4, 132, 4, 0, 0), none, some (.iconst 1, 133, 0, (nI 1), 0), some (.iadd, 134, 0, 0, 0), none, some (.aload_n 0, 136, 0, 0, 0), some (.iload 4, 138, 4, 0, 0), none, some (.iconst 2, 139, 0, (nI 2), 0), some (.iadd, 140, 0, 0, 0), none, some (.aload_n 3, 142, 3, 0, 0)]
set_option maxRecDepth 100000 in
theorem tok_L_law_8 : (Nat.ble tL_law_8.length 16 && jj_okc mL_law zL (16 * 8) tL_law_8) = true := by decide +kernel
def tL_law_9 : List (Option jj_R) := [none, some (.istore 5, 147, 5, 0, 0), none, some (.aload_n 2, 148, 2, 0, 0), some (.aload_n 0, 149, 0, 0, 0), some (.iload 4, 151, 4, 0, 0), none, some (.iconst 1, 152, 0, (nI 1), 0), some (.iadd, 153, 0, 0, 0), none, some (.aload_n 0, 155, 0, 0, 0), some (.iload 4, 157, 4, 0, 0), none, some (.iconst 2, 158, 0, (nI 2), 0), some (.iadd, 159, 0, 0, 0)]
set_option maxRecDepth 100000 in
theorem tok_L_law_9 : (Nat.ble tL_law_9.length 16 && jj_okc mL_law zL (16 * 9) tL_law_9) = true := by decide +kernel
def tL_law_10 : List (Option jj_R) := [some (.invokevirtual 79, 163, 3, 0, 0), none, none, some (.istore 6, 165, 6, 0, 0), none, some (.aload_n 2, 166, 2, 0, 0), some (.invokevirtual 80, 169, 4, 0, 0), none, none, some (.iload 5, 171, 5, 0, 0), none, some (.if_icmp .eq 5, 174, 176, 0, 0), none, none, some (.iconst 0, 175, 0, 0, 0)]
set_option maxRecDepth 100000 in
theorem tok_L_law_10 : (Nat.ble tL_law_10.length 16 && jj_okc mL_law zL (16 * 10) tL_law_10) = true := by decide +kernel
def tL_law_11 : List (Option jj_R) := [some (.iload 5, 178, 5, 0, 0), none, some (.ifCond .ne 15, 181, 193, 0, 0), none, none, some (.aload_n 3, 182, 3, 0, 0), some (.iconst 0, 183, 0, 0, 0), some (.laload, 184, 0, 0, 0), some (.iload 6, 186, 6, 0, 0), none, some (.i2l, 187, 0, 0, 0), some (.lcmp, 188, 0, 0, 0), some (.ifCond .eq 5, 191, 193, 0, 0), none, none, some (.iconst 0, 192, 0, 0, 0)]
set_option maxRecDepth 100000 in
theorem tok_L_law_11 : (Nat.ble tL_law_11.length 16 && jj_okc mL_law zL (16 * 11) tL_law_11) = true := by decide +kernel
def tL_law_12 : List (Option jj_R) := [none, some (.goto 1219, 196, 1412, 0, 0), none, none, some (.aload_n 1, 197, 1, 0, 0), some (.aload_n 0, 198, 0, 0, 0), some (.iload 4, 200, 4, 0, 0), none, some (.iconst 1, 201, 0, (nI 1), 0), some (.iadd, 202, 0, 0, 0), none, some (.aload_n 0, 204, 0, 0, 0), some (.iload 4, 206, 4, 0, 0), none, some (.iconst 2, 207, 0, (nI 2), 0), some (.iadd, 208, 0, 0, 0)]
set_option maxRecDepth 100000 in
theorem tok_L_law_12 : (Nat.ble tL_law_12.length 16 && jj_okc mL_law zL (16 * 12) tL_law_12) = true := by decide +kernel
def tL_law_13 : List (Option jj_R) := [none, some (.aload_n 0, 210, 0, 0, 0), some (.iload 4, 212, 4, 0, 0), none, some (.iconst 3, 213, 0, (nI 3), 0), some (.iadd, 214, 0, 0, 0), none, some (.aload_n 0, 216, 0, 0, 0), some (.iload 4, 218, 4, 0, 0), none, some (.iconst 4, 219, 0, (nI 4), 0), some (.iadd, 220, 0, 0, 0), none, some (.aload_n 0, 222, 0, 0, 0), some (.iload 4, 224, 4, 0, 0)]
set_option maxRecDepth 100000 in
theorem tok_L_law_13 : (Nat.ble tL_law_13.length 16 && jj_okc mL_law zL (16 * 13) tL_law_13) = true := by decide +kernel
def tL_law_14 : List (Option jj_R) := [some (.iconst 5, 225, 0, (nI 5), 0), some (.iadd, 226, 0, 0, 0), none, some (.aload_n 0, 228, 0, 0, 0), some (.iload 4, 230, 4, 0, 0), none, some (.bipush 6, 232, 0, (nI 6), 0), none, some (.iadd, 233, 0, 0, 0), none, some (.aload_n 3, 235, 3, 0, 0), none, none, none, some (.istore 5, 240, 5, 0, 0)]
set_option maxRecDepth 100000 in
theorem tok_L_law_14 : (Nat.ble tL_law_14.length 16 && jj_okc mL_law zL (16 * 14) tL_law_14) = true := by decide +kernel
def tL_law_15 : List (Option jj_R) := [some (.aload_n 2, 241, 2, 0, 0), some (.aload_n 0, 242, 0, 0, 0), some (.iload 4, 244, 4, 0, 0), none, some (.iconst 1, 245, 0, (nI 1), 0), some (.iadd, 246, 0, 0, 0), none, some (.aload_n 0, 248, 0, 0, 0), some (.iload 4, 250, 4, 0, 0), none, some (.iconst 2, 251, 0, (nI 2), 0), some (.iadd, 252, 0, 0, 0), none, some (.aload_n 0, 254, 0, 0, 0), some (.iload 4, 256, 4, 0, 0)]
set_option maxRecDepth 100000 in
theorem tok_L_law_15 : (Nat.ble tL_law_15.length 16 && jj_okc mL_law zL (16 * 15) tL_law_15) = true := by decide +kernel
def tL_law_16 : List (Option jj_R) := [some (.iconst 3, 257, 0, (nI 3), 0), some (.iadd, 258, 0, 0, 0), none, some (.aload_n 0, 260, 0, 0, 0), some (.iload 4, 262, 4, 0, 0), none, some (.iconst 4, 263, 0, (nI 4), 0), some (.iadd, 264, 0, 0, 0), none, some (.aload_n 0, 266, 0, 0, 0), some (.iload 4, 268, 4, 0, 0), none, some (.iconst 5, 269, 0, (nI 5), 0), some (.iadd, 270, 0, 0, 0), none, some (.aload_n 0, 272, 0, 0, 0)]
set_option maxRecDepth 100000 in
theorem tok_L_law_16 : (Nat.ble tL_law_16.length 16 && jj_okc mL_law zL (16 * 16) tL_law_16) = true := by decide +kernel
def tL_law_17 : List (Option jj_R) := [some (.iload 4, 274, 4, 0, 0), none, some (.bipush 6, 276, 0, (nI 6), 0), none, some (.iadd, 277, 0, 0, 0), none, some (.invokevirtual 87, 281, 6, 0, 0), none, none, some (.istore 6, 283, 6, 0, 0), none, some (.aload_n 2, 284, 2, 0, 0), some (.invokevirtual 80, 287, 4, 0, 0), none, none, some (.iload 5, 289, 5, 0, 0)]
set_option maxRecDepth 100000 in
theorem tok_L_law_17 : (Nat.ble tL_law_17.length 16 && jj_okc mL_law zL (16 * 17) tL_law_17) = true := by decide +kernel
def tL_law_18 : List (Option jj_R) := [none, some (.if_icmp .eq 5, 292, 294, 0, 0), none, none, some (.iconst 0, 293, 0, 0, 0), none, some (.iload 5, 296, 5, 0, 0), none, some (.ifCond .ne 15, 299, 311, 0, 0), none, none, some (.aload_n 3, 300, 3, 0, 0), some (.iconst 0, 301, 0, 0, 0), some (.laload, 302, 0, 0, 0), some (.iload 6, 304, 6, 0, 0)]
set_option maxRecDepth 100000 in
theorem tok_L_law_18 : (Nat.ble tL_law_18.length 16 && jj_okc mL_law zL (16 * 18) tL_law_18) = true := by decide +kernel
def tL_law_19 : List (Option jj_R) := [some (.i2l, 305, 0, 0, 0), some (.lcmp, 306, 0, 0, 0), some (.ifCond .eq 5, 309, 311, 0, 0), none, none, some (.iconst 0, 310, 0, 0, 0), none, some (.goto 1101, 314, 1412, 0, 0), none, none, some (.aload_n 1, 315, 1, 0, 0), some (.aload_n 0, 316, 0, 0, 0), some (.iload 4, 318, 4, 0, 0), none, some (.iconst 1, 319, 0, (nI 1), 0), some (.iadd, 320, 0, 0, 0)]
set_option maxRecDepth 100000 in
theorem tok_L_law_19 : (Nat.ble tL_law_19.length 16 && jj_okc mL_law zL (16 * 19) tL_law_19) = true := by decide +kernel
def tL_law_20 : List (Option jj_R) := [none, some (.aload_n 0, 322, 0, 0, 0), some (.iload 4, 324, 4, 0, 0), none, some (.iconst 2, 325, 0, (nI 2), 0), some (.iadd, 326, 0, 0, 0), none, some (.aload_n 3, 328, 3, 0, 0), none, none, none, some (.istore 5, 333, 5, 0, 0), none, some (.aload_n 2, 334, 2, 0, 0), some (.aload_n 0, 335, 0, 0, 0), some (.iload 4, 337, 4, 0, 0)]
set_option maxRecDepth 100000 in
theorem tok_L_law_20 : (Nat.ble tL_law_20.length 16 && jj_okc mL_law zL (16 * 20) tL_law_20) = true := by decide +kernel
def tL_law_21 : List (Option jj_R) := [none, some (.iconst 1, 338, 0, (nI 1), 0), some (.iadd, 339, 0, 0, 0), none, some (.aload_n 0, 341, 0, 0, 0), some (.iload 4, 343, 4, 0, 0), none, some (.iconst 2, 344, 0, (nI 2), 0), some (.iadd, 345, 0, 0, 0), none, some (.invokevirtual 90, 349, 8, 0, 0), none, none, some (.istore 6, 351, 6, 0, 0), none, some (.aload_n 2, 352, 2, 0, 0)]
set_option maxRecDepth 100000 in
theorem tok_L_law_21 : (Nat.ble tL_law_21.length 16 && jj_okc mL_law zL (16 * 21) tL_law_21) = true := by decide +kernel
def tL_law_22 : List (Option jj_R) := [some (.invokevirtual 80, 355, 4, 0, 0), none, none, some (.iload 5, 357, 5, 0, 0), none, some (.if_icmp .eq 5, 360, 362, 0, 0), none, none, some (.iconst 0, 361, 0, 0, 0), none, some (.iload 5, 364, 5, 0, 0), none, some (.ifCond .ne 15, 367, 379, 0, 0), none, none, some (.aload_n 3, 368, 3, 0, 0)]
set_option maxRecDepth 100000 in
theorem tok_L_law_22 : (Nat.ble tL_law_22.length 16 && jj_okc mL_law zL (16 * 22) tL_law_22) = true := by decide +kernel
def tL_law_23 : List (Option jj_R) := [some (.iconst 0, 369, 0, 0, 0), some (.laload, 370, 0, 0, 0), some (.iload 6, 372, 6, 0, 0), none, some (.i2l, 373, 0, 0, 0), some (.lcmp, 374, 0, 0, 0), some (.ifCond .eq 5, 377, 379, 0, 0), none, none, some (.iconst 0, 378, 0, 0, 0), none, some (.goto 1033, 382, 1412, 0, 0), none, none, some (.aload_n 1, 383, 1, 0, 0), some (.aload_n 0, 384, 0, 0, 0)]
set_option maxRecDepth 100000 in
theorem tok_L_law_23 : (Nat.ble tL_law_23.length 16 && jj_okc mL_law zL (16 * 23) tL_law_23) = true := by decide +kernel
def tL_law_24 : List (Option jj_R) := [some (.iload 4, 386, 4, 0, 0), none, some (.iconst 1, 387, 0, (nI 1), 0), some (.iadd, 388, 0, 0, 0), none, some (.aload_n 0, 390, 0, 0, 0), some (.iload 4, 392, 4, 0, 0), none, some (.iconst 2, 393, 0, (nI 2), 0), some (.iadd, 394, 0, 0, 0), none, some (.aload_n 0, 396, 0, 0, 0), some (.iload 4, 398, 4, 0, 0), none, some (.iconst 3, 399, 0, (nI 3), 0), some (.iadd, 400, 0, 0, 0)]
set_option maxRecDepth 100000 in
theorem tok_L_law_24 : (Nat.ble tL_law_24.length 16 && jj_okc mL_law zL (16 * 24) tL_law_24) = true := by decide +kernel
def tL_law_25 : List (Option jj_R) := [none, some (.aload_n 0, 402, 0, 0, 0), some (.iload 4, 404, 4, 0, 0), none, some (.iconst 4, 405, 0, (nI 4), 0), some (.iadd, 406, 0, 0, 0), none, some (.aload_n 3, 408, 3, 0, 0), none, none, none, some (.istore 5, 413, 5, 0, 0), none, some (.aload_n 2, 414, 2, 0, 0), some (.aload_n 0, 415, 0, 0, 0), some (.iload 4, 417, 4, 0, 0)]
set_option maxRecDepth 100000 in
theorem tok_L_law_25 : (Nat.ble tL_law_25.length 16 && jj_okc mL_law zL (16 * 25) tL_law_25) = true := by decide +kernel
def tL_law_26 : List (Option jj_R) := [none, some (.iconst 1, 418, 0, (nI 1), 0), some (.iadd, 419, 0, 0, 0), none, some (.aload_n 0, 421, 0, 0, 0), some (.iload 4, 423, 4, 0, 0), none, some (.iconst 2, 424, 0, (nI 2), 0), some (.iadd, 425, 0, 0, 0), none, some (.aload_n 0, 427, 0, 0, 0), some (.iload 4, 429, 4, 0, 0), none, some (.iconst 3, 430, 0, (nI 3), 0), some (.iadd, 431, 0, 0, 0)]
set_option maxRecDepth 100000 in
theorem tok_L_law_26 : (Nat.ble tL_law_26.length 16 && jj_okc mL_law zL (16 * 26) tL_law_26) = true := by decide +kernel
def tL_law_27 : List (Option jj_R) := [some (.aload_n 0, 433, 0, 0, 0), some (.iload 4, 435, 4, 0, 0), none, some (.iconst 4, 436, 0, (nI 4), 0), some (.iadd, 437, 0, 0, 0), none, some (.invokevirtual 94, 441, 10, 0, 0), none, none, some (.istore 6, 443, 6, 0, 0), none, some (.aload_n 2, 444, 2, 0, 0), some (.invokevirtual 80, 447, 4, 0, 0), none, none, some (.iload 5, 449, 5, 0, 0)]
set_option maxRecDepth 100000 in
theorem tok_L_law_27 : (Nat.ble tL_law_27.length 16 && jj_okc mL_law zL (16 * 27) tL_law_27) = true := by decide +kernel
def tL_law_28 : List (Option jj_R) := [none, some (.if_icmp .eq 5, 452, 454, 0, 0), none, none, some (.iconst 0, 453, 0, 0, 0), none, some (.iload 5, 456, 5, 0, 0), none, some (.ifCond .ne 15, 459, 471, 0, 0), none, none, some (.aload_n 3, 460, 3, 0, 0), some (.iconst 0, 461, 0, 0, 0), some (.laload, 462, 0, 0, 0), some (.iload 6, 464, 6, 0, 0)]
set_option maxRecDepth 100000 in
theorem tok_L_law_28 : (Nat.ble tL_law_28.length 16 && jj_okc mL_law zL (16 * 28) tL_law_28) = true := by decide +kernel
def tL_law_29 : List (Option jj_R) := [some (.i2l, 465, 0, 0, 0), some (.lcmp, 466, 0, 0, 0), some (.ifCond .eq 5, 469, 471, 0, 0), none, none, some (.iconst 0, 470, 0, 0, 0), none, some (.goto 941, 474, 1412, 0, 0), none, none, some (.aload_n 1, 475, 1, 0, 0), some (.aload_n 0, 476, 0, 0, 0), some (.iload 4, 478, 4, 0, 0), none, some (.iconst 1, 479, 0, (nI 1), 0), some (.iadd, 480, 0, 0, 0)]
set_option maxRecDepth 100000 in
theorem tok_L_law_29 : (Nat.ble tL_law_29.length 16 && jj_okc mL_law zL (16 * 29) tL_law_29) = true := by decide +kernel
def tL_law_30 : List (Option jj_R) := [none, some (.aload_n 0, 482, 0, 0, 0), some (.iload 4, 484, 4, 0, 0), none, some (.iconst 2, 485, 0, (nI 2), 0), some (.iadd, 486, 0, 0, 0), none, some (.aload_n 0, 488, 0, 0, 0), some (.iload 4, 490, 4, 0, 0), none, some (.iconst 3, 491, 0, (nI 3), 0), some (.iadd, 492, 0, 0, 0), none, some (.aload_n 0, 494, 0, 0, 0), some (.iload 4, 496, 4, 0, 0)]
set_option maxRecDepth 100000 in
theorem tok_L_law_30 : (Nat.ble tL_law_30.length 16 && jj_okc mL_law zL (16 * 30) tL_law_30) = true := by decide +kernel
def tL_law_31 : List (Option jj_R) := [some (.iconst 4, 497, 0, (nI 4), 0), some (.iadd, 498, 0, 0, 0), none, some (.aload_n 0, 500, 0, 0, 0), some (.iload 4, 502, 4, 0, 0), none, some (.iconst 5, 503, 0, (nI 5), 0), some (.iadd, 504, 0, 0, 0), none, some (.aload_n 3, 506, 3, 0, 0), none, none, none, some (.istore 5, 511, 5, 0, 0), none, some (.aload_n 2, 512, 2, 0, 0)]
set_option maxRecDepth 100000 in
theorem tok_L_law_31 : (Nat.ble tL_law_31.length 16 && jj_okc mL_law zL (16 * 31) tL_law_31) = true := by decide +kernel
def tL_law_32 : List (Option jj_R) := [some (.aload_n 0, 513, 0, 0, 0), some (.iload 4, 515, 4, 0, 0), none, some (.iconst 1, 516, 0, (nI 1), 0), some (.iadd, 517, 0, 0, 0), none, some (.aload_n 0, 519, 0, 0, 0), some (.iload 4, 521, 4, 0, 0), none, some (.iconst 2, 522, 0, (nI 2), 0), some (.iadd, 523, 0, 0, 0), none, some (.aload_n 0, 525, 0, 0, 0), some (.iload 4, 527, 4, 0, 0), none, some (.iconst 3, 528, 0, (nI 3), 0)]
set_option maxRecDepth 100000 in
theorem tok_L_law_32 : (Nat.ble tL_law_32.length 16 && jj_okc mL_law zL (16 * 32) tL_law_32) = true := by decide +kernel
def tL_law_33 : List (Option jj_R) := [some (.iadd, 529, 0, 0, 0), none, some (.aload_n 0, 531, 0, 0, 0), some (.iload 4, 533, 4, 0, 0), none, some (.iconst 4, 534, 0, (nI 4), 0), some (.iadd, 535, 0, 0, 0), none, some (.aload_n 0, 537, 0, 0, 0), some (.iload 4, 539, 4, 0, 0), none, some (.iconst 5, 540, 0, (nI 5), 0), some (.iadd, 541, 0, 0, 0), none, some (.invokevirtual 98, 545, 12, 0, 0)]
set_option maxRecDepth 100000 in
theorem tok_L_law_33 : (Nat.ble tL_law_33.length 16 && jj_okc mL_law zL (16 * 33) tL_law_33) = true := by decide +kernel
def tL_law_34 : List (Option jj_R) := [none, some (.istore 6, 547, 6, 0, 0), none, some (.aload_n 2, 548, 2, 0, 0), some (.invokevirtual 80, 551, 4, 0, 0), none, none, some (.iload 5, 553, 5, 0, 0), none, some (.if_icmp .eq 5, 556, 558, 0, 0), none, none, some (.iconst 0, 557, 0, 0, 0), none, some (.iload 5, 560, 5, 0, 0)]
set_option maxRecDepth 100000 in
theorem tok_L_law_34 : (Nat.ble tL_law_34.length 16 && jj_okc mL_law zL (16 * 34) tL_law_34) = true := by decide +kernel
def tL_law_35 : List (Option jj_R) := [some (.ifCond .ne 15, 563, 575, 0, 0), none, none, some (.aload_n 3, 564, 3, 0, 0), some (.iconst 0, 565, 0, 0, 0), some (.laload, 566, 0, 0, 0), some (.iload 6, 568, 6, 0, 0), none, some (.i2l, 569, 0, 0, 0), some (.lcmp, 570, 0, 0, 0), some (.ifCond .eq 5, 573, 575, 0, 0), none, none, some (.iconst 0, 574, 0, 0, 0), none, some (.goto 837, 578, 1412, 0, 0)]
set_option maxRecDepth 100000 in
theorem tok_L_law_35 : (Nat.ble tL_law_35.length 16 && jj_okc mL_law zL (16 * 35) tL_law_35) = true := by decide +kernel
def tL_law_36 : List (Option jj_R) := [none, none, some (.aload_n 1, 579, 1, 0, 0), some (.aload_n 0, 580, 0, 0, 0), some (.iload 4, 582, 4, 0, 0), none, some (.iconst 1, 583, 0, (nI 1), 0), some (.iadd, 584, 0, 0, 0), none, some (.aload_n 0, 586, 0, 0, 0), some (.iload 4, 588, 4, 0, 0), none, some (.iconst 2, 589, 0, (nI 2), 0), some (.iadd, 590, 0, 0, 0), none, some (.aload_n 0, 592, 0, 0, 0)]
set_option maxRecDepth 100000 in
theorem tok_L_law_36 : (Nat.ble tL_law_36.length 16 && jj_okc mL_law zL (16 * 36) tL_law_36) = true := by decide +kernel
def tL_law_37 : List (Option jj_R) := [some (.iload 4, 594, 4, 0, 0), none, some (.iconst 3, 595, 0, (nI 3), 0), some (.iadd, 596, 0, 0, 0), none, some (.aload_n 3, 598, 3, 0, 0), none, none, none, some (.istore 5, 603, 5, 0, 0), none, some (.aload_n 2, 604, 2, 0, 0), some (.aload_n 0, 605, 0, 0, 0), some (.iload 4, 607, 4, 0, 0), none, some (.iconst 1, 608, 0, (nI 1), 0)]
set_option maxRecDepth 100000 in
theorem tok_L_law_37 : (Nat.ble tL_law_37.length 16 && jj_okc mL_law zL (16 * 37) tL_law_37) = true := by decide +kernel
def tL_law_38 : List (Option jj_R) := [some (.iadd, 609, 0, 0, 0), none, some (.aload_n 0, 611, 0, 0, 0), some (.iload 4, 613, 4, 0, 0), none, some (.iconst 2, 614, 0, (nI 2), 0), some (.iadd, 615, 0, 0, 0), none, some (.aload_n 0, 617, 0, 0, 0), some (.iload 4, 619, 4, 0, 0), none, some (.iconst 3, 620, 0, (nI 3), 0), some (.iadd, 621, 0, 0, 0), none, some (.invokevirtual 102, 625, 14, 0, 0)]
set_option maxRecDepth 100000 in
theorem tok_L_law_38 : (Nat.ble tL_law_38.length 16 && jj_okc mL_law zL (16 * 38) tL_law_38) = true := by decide +kernel
def tL_law_39 : List (Option jj_R) := [none, some (.istore 6, 627, 6, 0, 0), none, some (.aload_n 2, 628, 2, 0, 0), some (.invokevirtual 80, 631, 4, 0, 0), none, none, some (.iload 5, 633, 5, 0, 0), none, some (.if_icmp .eq 5, 636, 638, 0, 0), none, none, some (.iconst 0, 637, 0, 0, 0), none, some (.iload 5, 640, 5, 0, 0)]
set_option maxRecDepth 100000 in
theorem tok_L_law_39 : (Nat.ble tL_law_39.length 16 && jj_okc mL_law zL (16 * 39) tL_law_39) = true := by decide +kernel
def tL_law_40 : List (Option jj_R) := [some (.ifCond .ne 15, 643, 655, 0, 0), none, none, some (.aload_n 3, 644, 3, 0, 0), some (.iconst 0, 645, 0, 0, 0), some (.laload, 646, 0, 0, 0), some (.iload 6, 648, 6, 0, 0), none, some (.i2l, 649, 0, 0, 0), some (.lcmp, 650, 0, 0, 0), some (.ifCond .eq 5, 653, 655, 0, 0), none, none, some (.iconst 0, 654, 0, 0, 0), none, some (.goto 757, 658, 1412, 0, 0)]
set_option maxRecDepth 100000 in
theorem tok_L_law_40 : (Nat.ble tL_law_40.length 16 && jj_okc mL_law zL (16 * 40) tL_law_40) = true := by decide +kernel
def tL_law_41 : List (Option jj_R) := [none, none, some (.aload_n 1, 659, 1, 0, 0), some (.aload_n 0, 660, 0, 0, 0), some (.iload 4, 662, 4, 0, 0), none, some (.iconst 1, 663, 0, (nI 1), 0), some (.iadd, 664, 0, 0, 0), none, some (.aload_n 0, 666, 0, 0, 0), some (.iload 4, 668, 4, 0, 0), none, some (.iconst 2, 669, 0, (nI 2), 0), some (.iadd, 670, 0, 0, 0), none, some (.aload_n 0, 672, 0, 0, 0)]
set_option maxRecDepth 100000 in
theorem tok_L_law_41 : (Nat.ble tL_law_41.length 16 && jj_okc mL_law zL (16 * 41) tL_law_41) = true := by decide +kernel
def tL_law_42 : List (Option jj_R) := [some (.iload 4, 674, 4, 0, 0), none, some (.iconst 3, 675, 0, (nI 3), 0), some (.iadd, 676, 0, 0, 0), none, some (.aload_n 3, 678, 3, 0, 0), none, none, none, some (.istore 5, 683, 5, 0, 0), none, some (.aload_n 2, 684, 2, 0, 0), some (.aload_n 0, 685, 0, 0, 0), some (.iload 4, 687, 4, 0, 0), none, some (.iconst 1, 688, 0, (nI 1), 0)]
set_option maxRecDepth 100000 in
theorem tok_L_law_42 : (Nat.ble tL_law_42.length 16 && jj_okc mL_law zL (16 * 42) tL_law_42) = true := by decide +kernel
def tL_law_43 : List (Option jj_R) := [some (.iadd, 689, 0, 0, 0), none, some (.aload_n 0, 691, 0, 0, 0), some (.iload 4, 693, 4, 0, 0), none, some (.iconst 2, 694, 0, (nI 2), 0), some (.iadd, 695, 0, 0, 0), none, some (.aload_n 0, 697, 0, 0, 0), some (.iload 4, 699, 4, 0, 0), none, some (.iconst 3, 700, 0, (nI 3), 0), some (.iadd, 701, 0, 0, 0), none, some (.invokevirtual 105, 705, 16, 0, 0)]
set_option maxRecDepth 100000 in
theorem tok_L_law_43 : (Nat.ble tL_law_43.length 16 && jj_okc mL_law zL (16 * 43) tL_law_43) = true := by decide +kernel
def tL_law_44 : List (Option jj_R) := [none, some (.istore 6, 707, 6, 0, 0), none, some (.aload_n 2, 708, 2, 0, 0), some (.invokevirtual 80, 711, 4, 0, 0), none, none, some (.iload 5, 713, 5, 0, 0), none, some (.if_icmp .eq 5, 716, 718, 0, 0), none, none, some (.iconst 0, 717, 0, 0, 0), none, some (.iload 5, 720, 5, 0, 0)]
set_option maxRecDepth 100000 in
theorem tok_L_law_44 : (Nat.ble tL_law_44.length 16 && jj_okc mL_law zL (16 * 44) tL_law_44) = true := by decide +kernel
def tL_law_45 : List (Option jj_R) := [some (.ifCond .ne 15, 723, 735, 0, 0), none, none, some (.aload_n 3, 724, 3, 0, 0), some (.iconst 0, 725, 0, 0, 0), some (.laload, 726, 0, 0, 0), some (.iload 6, 728, 6, 0, 0), none, some (.i2l, 729, 0, 0, 0), some (.lcmp, 730, 0, 0, 0), some (.ifCond .eq 5, 733, 735, 0, 0), none, none, some (.iconst 0, 734, 0, 0, 0), none, some (.goto 677, 738, 1412, 0, 0)]
set_option maxRecDepth 100000 in
theorem tok_L_law_45 : (Nat.ble tL_law_45.length 16 && jj_okc mL_law zL (16 * 45) tL_law_45) = true := by decide +kernel
def tL_law_46 : List (Option jj_R) := [none, none, some (.aload_n 1, 739, 1, 0, 0), some (.aload_n 0, 740, 0, 0, 0), some (.iload 4, 742, 4, 0, 0), none, some (.iconst 1, 743, 0, (nI 1), 0), some (.iadd, 744, 0, 0, 0), none, some (.aload_n 0, 746, 0, 0, 0), some (.iload 4, 748, 4, 0, 0), none, some (.iconst 2, 749, 0, (nI 2), 0), some (.iadd, 750, 0, 0, 0), none, some (.aload_n 3, 752, 3, 0, 0)]
set_option maxRecDepth 100000 in
theorem tok_L_law_46 : (Nat.ble tL_law_46.length 16 && jj_okc mL_law zL (16 * 46) tL_law_46) = true := by decide +kernel
def tL_law_47 : List (Option jj_R) := [none, none, none, some (.istore 5, 757, 5, 0, 0), none, some (.aload_n 2, 758, 2, 0, 0), some (.aload_n 0, 759, 0, 0, 0), some (.iload 4, 761, 4, 0, 0), none, some (.iconst 1, 762, 0, (nI 1), 0), some (.iadd, 763, 0, 0, 0), none, some (.aload_n 0, 765, 0, 0, 0), some (.iload 4, 767, 4, 0, 0), none, some (.iconst 2, 768, 0, (nI 2), 0)]
set_option maxRecDepth 100000 in
theorem tok_L_law_47 : (Nat.ble tL_law_47.length 16 && jj_okc mL_law zL (16 * 47) tL_law_47) = true := by decide +kernel
def tL_law_48 : List (Option jj_R) := [some (.iadd, 769, 0, 0, 0), none, some (.invokevirtual 108, 773, 18, 0, 0), none, none, some (.istore 6, 775, 6, 0, 0), none, some (.aload_n 2, 776, 2, 0, 0), some (.invokevirtual 80, 779, 4, 0, 0), none, none, some (.iload 5, 781, 5, 0, 0), none, some (.if_icmp .eq 5, 784, 786, 0, 0)]
set_option maxRecDepth 100000 in
theorem tok_L_law_48 : (Nat.ble tL_law_48.length 16 && jj_okc mL_law zL (16 * 48) tL_law_48) = true := by decide +kernel
def tL_law_49 : List (Option jj_R) := [some (.iconst 0, 785, 0, 0, 0), none, some (.iload 5, 788, 5, 0, 0), none, some (.ifCond .ne 15, 791, 803, 0, 0), none, none, some (.aload_n 3, 792, 3, 0, 0), some (.iconst 0, 793, 0, 0, 0), some (.laload, 794, 0, 0, 0), some (.iload 6, 796, 6, 0, 0), none, some (.i2l, 797, 0, 0, 0), some (.lcmp, 798, 0, 0, 0), some (.ifCond .eq 5, 801, 803, 0, 0)]
set_option maxRecDepth 100000 in
theorem tok_L_law_49 : (Nat.ble tL_law_49.length 16 && jj_okc mL_law zL (16 * 49) tL_law_49) = true := by decide +kernel
def tL_law_50 : List (Option jj_R) := [none, some (.iconst 0, 802, 0, 0, 0), none, some (.goto 609, 806, 1412, 0, 0), none, none, some (.aload_n 1, 807, 1, 0, 0), some (.aload_n 0, 808, 0, 0, 0), some (.iload 4, 810, 4, 0, 0), none, some (.iconst 1, 811, 0, (nI 1), 0), some (.iadd, 812, 0, 0, 0), none, some (.aload_n 0, 814, 0, 0, 0), some (.iload 4, 816, 4, 0, 0)]
set_option maxRecDepth 100000 in
theorem tok_L_law_50 : (Nat.ble tL_law_50.length 16 && jj_okc mL_law zL (16 * 50) tL_law_50) = true := by decide +kernel
def tL_law_51 : List (Option jj_R) := [some (.iconst 2, 817, 0, (nI 2), 0), some (.iadd, 818, 0, 0, 0), none, some (.aload_n 0, 820, 0, 0, 0), some (.iload 4, 822, 4, 0, 0), none, some (.iconst 3, 823, 0, (nI 3), 0), some (.iadd, 824, 0, 0, 0), none, some (.aload_n 3, 826, 3, 0, 0), none, none, none, some (.istore 5, 831, 5, 0, 0), none, some (.aload_n 2, 832, 2, 0, 0)]
set_option maxRecDepth 100000 in
theorem tok_L_law_51 : (Nat.ble tL_law_51.length 16 && jj_okc mL_law zL (16 * 51) tL_law_51) = true := by decide +kernel
def tL_law_52 : List (Option jj_R) := [some (.aload_n 0, 833, 0, 0, 0), some (.iload 4, 835, 4, 0, 0), none, some (.iconst 1, 836, 0, (nI 1), 0), some (.iadd, 837, 0, 0, 0), none, some (.aload_n 0, 839, 0, 0, 0), some (.iload 4, 841, 4, 0, 0), none, some (.iconst 2, 842, 0, (nI 2), 0), some (.iadd, 843, 0, 0, 0), none, some (.aload_n 0, 845, 0, 0, 0), some (.iload 4, 847, 4, 0, 0), none, some (.iconst 3, 848, 0, (nI 3), 0)]
set_option maxRecDepth 100000 in
theorem tok_L_law_52 : (Nat.ble tL_law_52.length 16 && jj_okc mL_law zL (16 * 52) tL_law_52) = true := by decide +kernel
def tL_law_53 : List (Option jj_R) := [some (.iadd, 849, 0, 0, 0), none, some (.invokevirtual 111, 853, 20, 0, 0), none, none, some (.istore 6, 855, 6, 0, 0), none, some (.aload_n 2, 856, 2, 0, 0), some (.invokevirtual 80, 859, 4, 0, 0), none, none, some (.iload 5, 861, 5, 0, 0), none, some (.if_icmp .eq 5, 864, 866, 0, 0)]
set_option maxRecDepth 100000 in
theorem tok_L_law_53 : (Nat.ble tL_law_53.length 16 && jj_okc mL_law zL (16 * 53) tL_law_53) = true := by decide +kernel
def tL_law_54 : List (Option jj_R) := [some (.iconst 0, 865, 0, 0, 0), none, some (.iload 5, 868, 5, 0, 0), none, some (.ifCond .ne 22, 871, 890, 0, 0), none, none, some (.aload_n 3, 872, 3, 0, 0), some (.iconst 0, 873, 0, 0, 0), some (.laload, 874, 0, 0, 0), some (.iload 6, 876, 6, 0, 0), none, some (.ifCond .eq 7, 879, 883, 0, 0), none, none, some (.lconst 1, 880, 0, 0, 1)]
set_option maxRecDepth 100000 in
theorem tok_L_law_54 : (Nat.ble tL_law_54.length 16 && jj_okc mL_law zL (16 * 54) tL_law_54) = true := by decide +kernel
def tL_law_55 : List (Option jj_R) := [some (.goto 4, 883, 884, 0, 0), none, none, some (.lconst 0, 884, 0, 0, 0), some (.lcmp, 885, 0, 0, 0), some (.ifCond .eq 5, 888, 890, 0, 0), none, none, some (.iconst 0, 889, 0, 0, 0), none, some (.goto 522, 893, 1412, 0, 0), none, none, some (.aload_n 1, 894, 1, 0, 0), some (.aload_n 0, 895, 0, 0, 0), some (.iload 4, 897, 4, 0, 0)]
set_option maxRecDepth 100000 in
theorem tok_L_law_55 : (Nat.ble tL_law_55.length 16 && jj_okc mL_law zL (16 * 55) tL_law_55) = true := by decide +kernel
def tL_law_56 : List (Option jj_R) := [none, some (.iconst 1, 898, 0, (nI 1), 0), some (.iadd, 899, 0, 0, 0), none, some (.aload_n 0, 901, 0, 0, 0), some (.iload 4, 903, 4, 0, 0), none, some (.iconst 2, 904, 0, (nI 2), 0), some (.iadd, 905, 0, 0, 0), none, some (.aload_n 0, 907, 0, 0, 0), some (.iload 4, 909, 4, 0, 0), none, some (.iconst 3, 910, 0, (nI 3), 0), some (.iadd, 911, 0, 0, 0)]
set_option maxRecDepth 100000 in
theorem tok_L_law_56 : (Nat.ble tL_law_56.length 16 && jj_okc mL_law zL (16 * 56) tL_law_56) = true := by decide +kernel
def tL_law_57 : List (Option jj_R) := [some (.aload_n 3, 913, 3, 0, 0), none, none, none, some (.istore 5, 918, 5, 0, 0), none, some (.aload_n 2, 919, 2, 0, 0), some (.aload_n 0, 920, 0, 0, 0), some (.iload 4, 922, 4, 0, 0), none, some (.iconst 1, 923, 0, (nI 1), 0), some (.iadd, 924, 0, 0, 0), none, some (.aload_n 0, 926, 0, 0, 0), some (.iload 4, 928, 4, 0, 0)]
set_option maxRecDepth 100000 in
theorem tok_L_law_57 : (Nat.ble tL_law_57.length 16 && jj_okc mL_law zL (16 * 57) tL_law_57) = true := by decide +kernel
def tL_law_58 : List (Option jj_R) := [some (.iconst 2, 929, 0, (nI 2), 0), some (.iadd, 930, 0, 0, 0), none, some (.aload_n 0, 932, 0, 0, 0), some (.iload 4, 934, 4, 0, 0), none, some (.iconst 3, 935, 0, (nI 3), 0), some (.iadd, 936, 0, 0, 0), none, some (.invokevirtual 114, 940, 22, 0, 0), none, none, some (.istore 6, 942, 6, 0, 0), none, some (.aload_n 2, 943, 2, 0, 0), some (.invokevirtual 80, 946, 4, 0, 0)]
set_option maxRecDepth 100000 in
theorem tok_L_law_58 : (Nat.ble tL_law_58.length 16 && jj_okc mL_law zL (16 * 58) tL_law_58) = true := by decide +kernel
def tL_law_59 : List (Option jj_R) := [none, none, some (.iload 5, 948, 5, 0, 0), none, some (.if_icmp .eq 5, 951, 953, 0, 0), none, none, some (.iconst 0, 952, 0, 0, 0), none, some (.iload 5, 955, 5, 0, 0), none, some (.ifCond .ne 15, 958, 970, 0, 0), none, none, some (.aload_n 3, 959, 3, 0, 0), some (.iconst 0, 960, 0, 0, 0)]
set_option maxRecDepth 100000 in
theorem tok_L_law_59 : (Nat.ble tL_law_59.length 16 && jj_okc mL_law zL (16 * 59) tL_law_59) = true := by decide +kernel
def tL_law_60 : List (Option jj_R) := [some (.laload, 961, 0, 0, 0), some (.iload 6, 963, 6, 0, 0), none, some (.i2l, 964, 0, 0, 0), some (.lcmp, 965, 0, 0, 0), some (.ifCond .eq 5, 968, 970, 0, 0), none, none, some (.iconst 0, 969, 0, 0, 0), none, some (.goto 442, 973, 1412, 0, 0), none, none, some (.aload_n 1, 974, 1, 0, 0), some (.aload_n 0, 975, 0, 0, 0), some (.iload 4, 977, 4, 0, 0)]
set_option maxRecDepth 100000 in
theorem tok_L_law_60 : (Nat.ble tL_law_60.length 16 && jj_okc mL_law zL (16 * 60) tL_law_60) = true := by decide +kernel
def tL_law_61 : List (Option jj_R) := [none, some (.iconst 1, 978, 0, (nI 1), 0), some (.iadd, 979, 0, 0, 0), none, some (.aload_n 0, 981, 0, 0, 0), some (.iload 4, 983, 4, 0, 0), none, some (.iconst 2, 984, 0, (nI 2), 0), some (.iadd, 985, 0, 0, 0), none, some (.aload_n 3, 987, 3, 0, 0), none, none, none, some (.istore 5, 992, 5, 0, 0)]
set_option maxRecDepth 100000 in
theorem tok_L_law_61 : (Nat.ble tL_law_61.length 16 && jj_okc mL_law zL (16 * 61) tL_law_61) = true := by decide +kernel
def tL_law_62 : List (Option jj_R) := [some (.aload_n 2, 993, 2, 0, 0), some (.aload_n 0, 994, 0, 0, 0), some (.iload 4, 996, 4, 0, 0), none, some (.iconst 1, 997, 0, (nI 1), 0), some (.iadd, 998, 0, 0, 0), none, some (.aload_n 0, 1000, 0, 0, 0), some (.iload 4, 1002, 4, 0, 0), none, some (.iconst 2, 1003, 0, (nI 2), 0), some (.iadd, 1004, 0, 0, 0), none, some (.invokevirtual 117, 1008, 24, 0, 0)]
set_option maxRecDepth 100000 in
theorem tok_L_law_62 : (Nat.ble tL_law_62.length 16 && jj_okc mL_law zL (16 * 62) tL_law_62) = true := by decide +kernel
def tL_law_63 : List (Option jj_R) := [some (.istore 6, 1010, 6, 0, 0), none, some (.aload_n 2, 1011, 2, 0, 0), some (.invokevirtual 80, 1014, 4, 0, 0), none, none, some (.iload 5, 1016, 5, 0, 0), none, some (.if_icmp .eq 5, 1019, 1021, 0, 0), none, none, some (.iconst 0, 1020, 0, 0, 0), none, some (.iload 5, 1023, 5, 0, 0), none, some (.ifCond .ne 15, 1026, 1038, 0, 0)]
set_option maxRecDepth 100000 in
theorem tok_L_law_63 : (Nat.ble tL_law_63.length 16 && jj_okc mL_law zL (16 * 63) tL_law_63) = true := by decide +kernel
def tL_law_64 : List (Option jj_R) := [none, none, some (.aload_n 3, 1027, 3, 0, 0), some (.iconst 0, 1028, 0, 0, 0), some (.laload, 1029, 0, 0, 0), some (.iload 6, 1031, 6, 0, 0), none, some (.i2l, 1032, 0, 0, 0), some (.lcmp, 1033, 0, 0, 0), some (.ifCond .eq 5, 1036, 1038, 0, 0), none, none, some (.iconst 0, 1037, 0, 0, 0), none, some (.goto 374, 1041, 1412, 0, 0)]
set_option maxRecDepth 100000 in
theorem tok_L_law_64 : (Nat.ble tL_law_64.length 16 && jj_okc mL_law zL (16 * 64) tL_law_64) = true := by decide +kernel
def tL_law_65 : List (Option jj_R) := [none, some (.aload_n 1, 1042, 1, 0, 0), some (.aload_n 0, 1043, 0, 0, 0), some (.iload 4, 1045, 4, 0, 0), none, some (.iconst 1, 1046, 0, (nI 1), 0), some (.iadd, 1047, 0, 0, 0), none, some (.aload_n 0, 1049, 0, 0, 0), some (.iload 4, 1051, 4, 0, 0), none, some (.iconst 2, 1052, 0, (nI 2), 0), some (.iadd, 1053, 0, 0, 0), none, some (.aload_n 0, 1055, 0, 0, 0), some (.iload 4, 1057, 4, 0, 0)]
set_option maxRecDepth 100000 in
theorem tok_L_law_65 : (Nat.ble tL_law_65.length 16 && jj_okc mL_law zL (16 * 65) tL_law_65) = true := by decide +kernel
def tL_law_66 : List (Option jj_R) := [none, some (.iconst 3, 1058, 0, (nI 3), 0), some (.iadd, 1059, 0, 0, 0), none, some (.aload_n 3, 1061, 3, 0, 0), none, none, none, some (.istore 5, 1066, 5, 0, 0), none, some (.aload_n 2, 1067, 2, 0, 0), some (.aload_n 0, 1068, 0, 0, 0), some (.iload 4, 1070, 4, 0, 0), none, some (.iconst 1, 1071, 0, (nI 1), 0), some (.iadd, 1072, 0, 0, 0)]
set_option maxRecDepth 100000 in
theorem tok_L_law_66 : (Nat.ble tL_law_66.length 16 && jj_okc mL_law zL (16 * 66) tL_law_66) = true := by decide +kernel
def tL_law_67 : List (Option jj_R) := [none, some (.aload_n 0, 1074, 0, 0, 0), some (.iload 4, 1076, 4, 0, 0), none, some (.iconst 2, 1077, 0, (nI 2), 0), some (.iadd, 1078, 0, 0, 0), none, some (.aload_n 0, 1080, 0, 0, 0), some (.iload 4, 1082, 4, 0, 0), none, some (.iconst 3, 1083, 0, (nI 3), 0), some (.iadd, 1084, 0, 0, 0), none, some (.invokevirtual 120, 1088, 26, 0, 0)]
set_option maxRecDepth 100000 in
theorem tok_L_law_67 : (Nat.ble tL_law_67.length 16 && jj_okc mL_law zL (16 * 67) tL_law_67) = true := by decide +kernel
def tL_law_68 : List (Option jj_R) := [some (.istore 6, 1090, 6, 0, 0), none, some (.aload_n 2, 1091, 2, 0, 0), some (.invokevirtual 80, 1094, 4, 0, 0), none, none, some (.iload 5, 1096, 5, 0, 0), none, some (.if_icmp .eq 5, 1099, 1101, 0, 0), none, none, some (.iconst 0, 1100, 0, 0, 0), none, some (.iload 5, 1103, 5, 0, 0), none, some (.ifCond .ne 15, 1106, 1118, 0, 0)]
set_option maxRecDepth 100000 in
theorem tok_L_law_68 : (Nat.ble tL_law_68.length 16 && jj_okc mL_law zL (16 * 68) tL_law_68) = true := by decide +kernel
def tL_law_69 : List (Option jj_R) := [none, none, some (.aload_n 3, 1107, 3, 0, 0), some (.iconst 0, 1108, 0, 0, 0), some (.laload, 1109, 0, 0, 0), some (.iload 6, 1111, 6, 0, 0), none, some (.i2l, 1112, 0, 0, 0), some (.lcmp, 1113, 0, 0, 0), some (.ifCond .eq 5, 1116, 1118, 0, 0), none, none, some (.iconst 0, 1117, 0, 0, 0), none, some (.goto 294, 1121, 1412, 0, 0)]
set_option maxRecDepth 100000 in
theorem tok_L_law_69 : (Nat.ble tL_law_69.length 16 && jj_okc mL_law zL (16 * 69) tL_law_69) = true := by decide +kernel
def tL_law_70 : List (Option jj_R) := [none, some (.aload_n 1, 1122, 1, 0, 0), some (.aload_n 0, 1123, 0, 0, 0), some (.iload 4, 1125, 4, 0, 0), none, some (.iconst 1, 1126, 0, (nI 1), 0), some (.iadd, 1127, 0, 0, 0), none, some (.aload_n 3, 1129, 3, 0, 0), none, none, none, some (.istore 5, 1134, 5, 0, 0), none, some (.aload_n 2, 1135, 2, 0, 0), some (.aload_n 0, 1136, 0, 0, 0)]
set_option maxRecDepth 100000 in
theorem tok_L_law_70 : (Nat.ble tL_law_70.length 16 && jj_okc mL_law zL (16 * 70) tL_law_70) = true := by decide +kernel
def tL_law_71 : List (Option jj_R) := [some (.iload 4, 1138, 4, 0, 0), none, some (.iconst 1, 1139, 0, (nI 1), 0), some (.iadd, 1140, 0, 0, 0), none, some (.invokevirtual 124, 1144, 28, 0, 0), none, none, some (.istore 6, 1146, 6, 0, 0), none, some (.aload_n 2, 1147, 2, 0, 0), some (.invokevirtual 80, 1150, 4, 0, 0), none, none, some (.iload 5, 1152, 5, 0, 0)]
set_option maxRecDepth 100000 in
theorem tok_L_law_71 : (Nat.ble tL_law_71.length 16 && jj_okc mL_law zL (16 * 71) tL_law_71) = true := by decide +kernel
def tL_law_72 : List (Option jj_R) := [some (.if_icmp .eq 5, 1155, 1157, 0, 0), none, none, some (.iconst 0, 1156, 0, 0, 0), none, some (.iload 5, 1159, 5, 0, 0), none, some (.ifCond .ne 15, 1162, 1174, 0, 0), none, none, some (.aload_n 3, 1163, 3, 0, 0), some (.iconst 0, 1164, 0, 0, 0), some (.laload, 1165, 0, 0, 0), some (.iload 6, 1167, 6, 0, 0), none, some (.i2l, 1168, 0, 0, 0)]
set_option maxRecDepth 100000 in
theorem tok_L_law_72 : (Nat.ble tL_law_72.length 16 && jj_okc mL_law zL (16 * 72) tL_law_72) = true := by decide +kernel
def tL_law_73 : List (Option jj_R) := [some (.lcmp, 1169, 0, 0, 0), some (.ifCond .eq 5, 1172, 1174, 0, 0), none, none, some (.iconst 0, 1173, 0, 0, 0), none, some (.goto 238, 1177, 1412, 0, 0), none, none, some (.aload_n 1, 1178, 1, 0, 0), some (.aload_n 0, 1179, 0, 0, 0), some (.iload 4, 1181, 4, 0, 0), none, some (.iconst 1, 1182, 0, (nI 1), 0), some (.iadd, 1183, 0, 0, 0)]
set_option maxRecDepth 100000 in
theorem tok_L_law_73 : (Nat.ble tL_law_73.length 16 && jj_okc mL_law zL (16 * 73) tL_law_73) = true := by decide +kernel
def tL_law_74 : List (Option jj_R) := [some (.aload_n 0, 1185, 0, 0, 0), some (.iload 4, 1187, 4, 0, 0), none, some (.iconst 2, 1188, 0, (nI 2), 0), some (.iadd, 1189, 0, 0, 0), none, some (.aload_n 3, 1191, 3, 0, 0), none, none, none, some (.istore 5, 1196, 5, 0, 0), none, some (.aload_n 2, 1197, 2, 0, 0), some (.aload_n 0, 1198, 0, 0, 0), some (.iload 4, 1200, 4, 0, 0)]
set_option maxRecDepth 100000 in
theorem tok_L_law_74 : (Nat.ble tL_law_74.length 16 && jj_okc mL_law zL (16 * 74) tL_law_74) = true := by decide +kernel
def tL_law_75 : List (Option jj_R) := [some (.iconst 1, 1201, 0, (nI 1), 0), some (.iadd, 1202, 0, 0, 0), none, some (.aload_n 0, 1204, 0, 0, 0), some (.iload 4, 1206, 4, 0, 0), none, some (.iconst 2, 1207, 0, (nI 2), 0), some (.iadd, 1208, 0, 0, 0), none, some (.invokevirtual 127, 1212, 30, 0, 0), none, none, some (.istore 6, 1214, 6, 0, 0), none, some (.aload_n 2, 1215, 2, 0, 0), some (.invokevirtual 80, 1218, 4, 0, 0)]
set_option maxRecDepth 100000 in
theorem tok_L_law_75 : (Nat.ble tL_law_75.length 16 && jj_okc mL_law zL (16 * 75) tL_law_75) = true := by decide +kernel
def tL_law_76 : List (Option jj_R) := [none, none, some (.iload 5, 1220, 5, 0, 0), none, some (.if_icmp .eq 5, 1223, 1225, 0, 0), none, none, some (.iconst 0, 1224, 0, 0, 0), none, some (.iload 5, 1227, 5, 0, 0), none, some (.ifCond .ne 15, 1230, 1242, 0, 0), none, none, some (.aload_n 3, 1231, 3, 0, 0), some (.iconst 0, 1232, 0, 0, 0)]
set_option maxRecDepth 100000 in
theorem tok_L_law_76 : (Nat.ble tL_law_76.length 16 && jj_okc mL_law zL (16 * 76) tL_law_76) = true := by decide +kernel
def tL_law_77 : List (Option jj_R) := [some (.laload, 1233, 0, 0, 0), some (.iload 6, 1235, 6, 0, 0), none, some (.i2l, 1236, 0, 0, 0), some (.lcmp, 1237, 0, 0, 0), some (.ifCond .eq 5, 1240, 1242, 0, 0), none, none, some (.iconst 0, 1241, 0, 0, 0), none, some (.goto 170, 1245, 1412, 0, 0), none, none, some (.aload_n 1, 1246, 1, 0, 0), some (.aload_n 0, 1247, 0, 0, 0), some (.iload 4, 1249, 4, 0, 0)]
set_option maxRecDepth 100000 in
theorem tok_L_law_77 : (Nat.ble tL_law_77.length 16 && jj_okc mL_law zL (16 * 77) tL_law_77) = true := by decide +kernel
def tL_law_78 : List (Option jj_R) := [none, some (.iconst 1, 1250, 0, (nI 1), 0), some (.iadd, 1251, 0, 0, 0), none, some (.aload_n 3, 1253, 3, 0, 0), none, none, none, some (.istore 5, 1258, 5, 0, 0), none, some (.aload_n 2, 1259, 2, 0, 0), some (.aload_n 0, 1260, 0, 0, 0), some (.iload 4, 1262, 4, 0, 0), none, some (.iconst 1, 1263, 0, (nI 1), 0), some (.iadd, 1264, 0, 0, 0)]
set_option maxRecDepth 100000 in
theorem tok_L_law_78 : (Nat.ble tL_law_78.length 16 && jj_okc mL_law zL (16 * 78) tL_law_78) = true := by decide +kernel
def tL_law_79 : List (Option jj_R) := [none, some (.invokevirtual 130, 1268, 32, 0, 0), none, none, some (.istore 6, 1270, 6, 0, 0), none, some (.aload_n 2, 1271, 2, 0, 0), some (.invokevirtual 80, 1274, 4, 0, 0), none, none, some (.iload 5, 1276, 5, 0, 0), none, some (.if_icmp .eq 5, 1279, 1281, 0, 0), none, none, some (.iconst 0, 1280, 0, 0, 0)]
set_option maxRecDepth 100000 in
theorem tok_L_law_79 : (Nat.ble tL_law_79.length 16 && jj_okc mL_law zL (16 * 79) tL_law_79) = true := by decide +kernel
def tL_law_80 : List (Option jj_R) := [none, some (.iload 5, 1283, 5, 0, 0), none, some (.ifCond .ne 15, 1286, 1298, 0, 0), none, none, some (.aload_n 3, 1287, 3, 0, 0), some (.iconst 0, 1288, 0, 0, 0), some (.laload, 1289, 0, 0, 0), some (.iload 6, 1291, 6, 0, 0), none, some (.i2l, 1292, 0, 0, 0), some (.lcmp, 1293, 0, 0, 0), some (.ifCond .eq 5, 1296, 1298, 0, 0)]
set_option maxRecDepth 100000 in
theorem tok_L_law_80 : (Nat.ble tL_law_80.length 16 && jj_okc mL_law zL (16 * 80) tL_law_80) = true := by decide +kernel
def tL_law_81 : List (Option jj_R) := [some (.iconst 0, 1297, 0, 0, 0), none, some (.goto 114, 1301, 1412, 0, 0), none, none, some (.aload_n 1, 1302, 1, 0, 0), some (.aload_n 0, 1303, 0, 0, 0), some (.iload 4, 1305, 4, 0, 0), none, some (.iconst 1, 1306, 0, (nI 1), 0), some (.iadd, 1307, 0, 0, 0), none, some (.aload_n 3, 1309, 3, 0, 0)]
set_option maxRecDepth 100000 in
theorem tok_L_law_81 : (Nat.ble tL_law_81.length 16 && jj_okc mL_law zL (16 * 81) tL_law_81) = true := by decide +kernel
def tL_law_82 : List (Option jj_R) := [some (.istore 5, 1314, 5, 0, 0), none, some (.aload_n 2, 1315, 2, 0, 0), some (.aload_n 0, 1316, 0, 0, 0), some (.iload 4, 1318, 4, 0, 0), none, some (.iconst 1, 1319, 0, (nI 1), 0), some (.iadd, 1320, 0, 0, 0), none, some (.invokevirtual 133, 1324, 34, 0, 0), none, none, some (.istore 6, 1326, 6, 0, 0), none, some (.aload_n 2, 1327, 2, 0, 0), some (.invokevirtual 80, 1330, 4, 0, 0)]
set_option maxRecDepth 100000 in
theorem tok_L_law_82 : (Nat.ble tL_law_82.length 16 && jj_okc mL_law zL (16 * 82) tL_law_82) = true := by decide +kernel
def tL_law_83 : List (Option jj_R) := [none, none, some (.iload 5, 1332, 5, 0, 0), none, some (.if_icmp .eq 5, 1335, 1337, 0, 0), none, none, some (.iconst 0, 1336, 0, 0, 0), none, some (.iload 5, 1339, 5, 0, 0), none, some (.ifCond .ne 15, 1342, 1354, 0, 0), none, none, some (.aload_n 3, 1343, 3, 0, 0), some (.iconst 0, 1344, 0, 0, 0)]
set_option maxRecDepth 100000 in
theorem tok_L_law_83 : (Nat.ble tL_law_83.length 16 && jj_okc mL_law zL (16 * 83) tL_law_83) = true := by decide +kernel
def tL_law_84 : List (Option jj_R) := [some (.laload, 1345, 0, 0, 0), some (.iload 6, 1347, 6, 0, 0), none, some (.i2l, 1348, 0, 0, 0), some (.lcmp, 1349, 0, 0, 0), some (.ifCond .eq 5, 1352, 1354, 0, 0), none, none, some (.iconst 0, 1353, 0, 0, 0), none, some (.goto 58, 1357, 1412, 0, 0), none, none, some (.aload_n 1, 1358, 1, 0, 0), some (.invokevirtual 134, 1361, 35, 0, 0)]
set_option maxRecDepth 100000 in
theorem tok_L_law_84 : (Nat.ble tL_law_84.length 16 && jj_okc mL_law zL (16 * 84) tL_law_84) = true := by decide +kernel
def tL_law_85 : List (Option jj_R) := [none, some (.dstore 5, 1363, 5, 0, 0), none, some (.aload_n 2, 1364, 2, 0, 0), some (.invokevirtual 138, 1367, 36, 0, 0), none, none, some (.dstore 7, 1369, 7, 0, 0), none, some (.dload 5, 1371, 5, 0, 0), none, some (.dload 7, 1373, 7, 0, 0), none, some (.dcmp .l, 1374, 0, 0, 0), some (.ifCond .eq 21, 1377, 1395, 0, 0)]
set_option maxRecDepth 100000 in
theorem tok_L_law_85 : (Nat.ble tL_law_85.length 16 && jj_okc mL_law zL (16 * 85) tL_law_85) = true := by decide +kernel
def tL_law_86 : List (Option jj_R) := [none, some (.dload 5, 1379, 5, 0, 0), none, some (.dload 5, 1381, 5, 0, 0), none, some (.dcmp .l, 1382, 0, 0, 0), some (.ifCond .eq 11, 1385, 1393, 0, 0), none, none, some (.dload 7, 1387, 7, 0, 0), none, some (.dload 7, 1389, 7, 0, 0), none, some (.dcmp .l, 1390, 0, 0, 0), some (.ifCond .ne 5, 1393, 1395, 0, 0)]
set_option maxRecDepth 100000 in
theorem tok_L_law_86 : (Nat.ble tL_law_86.length 16 && jj_okc mL_law zL (16 * 86) tL_law_86) = true := by decide +kernel
def tL_law_87 : List (Option jj_R) := [none, some (.iconst 0, 1394, 0, 0, 0), none, some (.goto 17, 1398, 1412, 0, 0), none, none, some (.aload_n 1, 1399, 1, 0, 0), some (.invokevirtual 139, 1402, 37, 0, 0), none, none, some (.aload_n 2, 1403, 2, 0, 0), some (.invokevirtual 143, 1406, 38, 0, 0), none, none, some (.lcmp, 1407, 0, 0, 0), some (.ifCond .eq 5, 1410, 1412, 0, 0)]
set_option maxRecDepth 100000 in
theorem tok_L_law_87 : (Nat.ble tL_law_87.length 16 && jj_okc mL_law zL (16 * 87) tL_law_87) = true := by decide +kernel
def tL_law_88 : List (Option jj_R) := [none, none, some (.iconst 0, 1411, 0, 0, 0), none, some (.iinc 4 7, 1415, 4, (nI 7), 0), none, none, some (.goto (-1392), 1418, 23, 0, 0), none, none, some (.iconst 1, 1419, 0, (nI 1), 0)]
set_option maxRecDepth 100000 in
theorem tok_L_law_88 : (Nat.ble tL_law_88.length 16 && jj_okc mL_law zL (16 * 88) tL_law_88) = true := by decide +kernel
def tL_law : jj_T := [tL_law_0, tL_law_1, tL_law_2, tL_law_3, tL_law_4, tL_law_5, tL_law_6, tL_law_7, tL_law_8, tL_law_9, tL_law_10, tL_law_11, tL_law_12, tL_law_13, tL_law_14, tL_law_15, tL_law_16, tL_law_17, tL_law_18, tL_law_19, tL_law_20, tL_law_21, tL_law_22, tL_law_23, tL_law_24, tL_law_25, tL_law_26, tL_law_27, tL_law_28, tL_law_29, tL_law_30, tL_law_31, tL_law_32, tL_law_33, tL_law_34, tL_law_35, tL_law_36, tL_law_37, tL_law_38, tL_law_39, tL_law_40, tL_law_41, tL_law_42, tL_law_43, tL_law_44, tL_law_45, tL_law_46, tL_law_47, tL_law_48, tL_law_49, tL_law_50, tL_law_51, tL_law_52, tL_law_53, tL_law_54, tL_law_55, tL_law_56, tL_law_57, tL_law_58, tL_law_59, tL_law_60, tL_law_61, tL_law_62, tL_law_63, tL_law_64, tL_law_65, tL_law_66, tL_law_67, tL_law_68, tL_law_69, tL_law_70, tL_law_71, tL_law_72, tL_law_73, tL_law_74, tL_law_75, tL_law_76, tL_law_77, tL_law_78, tL_law_79, tL_law_80, tL_law_81, tL_law_82, tL_law_83, tL_law_84, tL_law_85, tL_law_86, tL_law_87, tL_law_88]
theorem tok_L_law : jj_Tok mL_law zL tL_law := jj_Tok_of (jj_okt_c tok_L_law_0 (jj_okt_c tok_L_law_1 (jj_okt_c tok_L_law_2 (jj_okt_c tok_L_law_3 (jj_okt_c tok_L_law_4 (jj_okt_c tok_L_law_5 (jj_okt_c tok_L_law_6 (jj_okt_c tok_L_law_7 (jj_okt_c tok_L_law_8 (jj_okt_c tok_L_law_9 (jj_okt_c tok_L_law_10 (jj_okt_c tok_L_law_11 (jj_okt_c tok_L_law_12 (jj_okt_c tok_L_law_13 (jj_okt_c tok_L_law_14 (jj_okt_c tok_L_law_15 (jj_okt_c tok_L_law_16 (jj_okt_c tok_L_law_17 (jj_okt_c tok_L_law_18 (jj_okt_c tok_L_law_19 (jj_okt_c tok_L_law_20 (jj_okt_c tok_L_law_21 (jj_okt_c tok_L_law_22 (jj_okt_c tok_L_law_23 (jj_okt_c tok_L_law_24 (jj_okt_c tok_L_law_25 (jj_okt_c tok_L_law_26 (jj_okt_c tok_L_law_27 (jj_okt_c tok_L_law_28 (jj_okt_c tok_L_law_29 (jj_okt_c tok_L_law_30 (jj_okt_c tok_L_law_31 (jj_okt_c tok_L_law_32 (jj_okt_c tok_L_law_33 (jj_okt_c tok_L_law_34 (jj_okt_c tok_L_law_35 (jj_okt_c tok_L_law_36 (jj_okt_c tok_L_law_37 (jj_okt_c tok_L_law_38 (jj_okt_c tok_L_law_39 (jj_okt_c tok_L_law_40 (jj_okt_c tok_L_law_41 (jj_okt_c tok_L_law_42 (jj_okt_c tok_L_law_43 (jj_okt_c tok_L_law_44 (jj_okt_c tok_L_law_45 (jj_okt_c tok_L_law_46 (jj_okt_c tok_L_law_47 (jj_okt_c tok_L_law_48 (jj_okt_c tok_L_law_49 (jj_okt_c tok_L_law_50 (jj_okt_c tok_L_law_51 (jj_okt_c tok_L_law_52 (jj_okt_c tok_L_law_53 (jj_okt_c tok_L_law_54 (jj_okt_c tok_L_law_55 (jj_okt_c tok_L_law_56 (jj_okt_c tok_L_law_57 (jj_okt_c tok_L_law_58 (jj_okt_c tok_L_law_59 (jj_okt_c tok_L_law_60 (jj_okt_c tok_L_law_61 (jj_okt_c tok_L_law_62 (jj_okt_c tok_L_law_63 (jj_okt_c tok_L_law_64 (jj_okt_c tok_L_law_65 (jj_okt_c tok_L_law_66 (jj_okt_c tok_L_law_67 (jj_okt_c tok_L_law_68 (jj_okt_c tok_L_law_69 (jj_okt_c tok_L_law_70 (jj_okt_c tok_L_law_71 (jj_okt_c tok_L_law_72 (jj_okt_c tok_L_law_73 (jj_okt_c tok_L_law_74 (jj_okt_c tok_L_law_75 (jj_okt_c tok_L_law_76 (jj_okt_c tok_L_law_77 (jj_okt_c tok_L_law_78 (jj_okt_c tok_L_law_79 (jj_okt_c tok_L_law_80 (jj_okt_c tok_L_law_81 (jj_okt_c tok_L_law_82 (jj_okt_c tok_L_law_83 (jj_okt_c tok_L_law_84 (jj_okt_c tok_L_law_85 (jj_okt_c tok_L_law_86 (jj_okt_c tok_L_law_87 (jj_okt_c tok_L_law_88 rfl)))))))))))))))))))))))))))))))))))))))))))))))))))))))))))))))))))))))))))))))))))))))))
