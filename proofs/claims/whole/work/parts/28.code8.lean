def mJ9_min_7cf53 : qm_M := (RJ9, qyJ9_min_7cf53, [(0, .iload_n 0, [], (0, 0), qm_d0), (1, .iload_n 1, [], (0, 0), qm_d0), (2, .if_icmp .gt (7), [5], (0, 0), qm_d0), (5, .iload_n 0, [], (0, 0), qm_d0), (6, .goto (4), [6], (0, 0), qm_d0), (9, .iload_n 1, [], (0, 0), qm_d0), (10, .ireturn, [], (0, 0), qm_d0)])
set_option maxRecDepth 100000 in
theorem okJ9_min_7cf53 : qm_okM mJ9_min_7cf53 = true := by decide +kernel
def mJ0_charAt_5068e : qm_M := (RJ0, qyJ0_charAt_5068e, [(0, .aload_n 0, [], (0, 0), qm_d0), (1, .invokevirtual 492, [], (0, 0), qm_d0), (4, .ifCond .eq (12), [8], (0, 0), qm_d0), (7, .aload_n 0, [], (0, 0), qm_d0), (8, .getfield 9, [], (0, 0), qm_d0), (11, .iload_n 1, [], (0, 0), qm_d0), (12, .invokestatic 495, [2, 0, 430, 432, 125, 431], (0, 0), qyJ1_charAt_3b067), (15, .ireturn, [], (0, 0), qm_d0), (16, .aload_n 0, [], (0, 0), qm_d0), (17, .getfield 9, [], (0, 0), qm_d0), (20, .iload_n 1, [], (0, 0), qm_d0), (21, .invokestatic 498, [2, 0, 441, 443, 127, 442], (0, 0), qyJ2_charAt_3b067), (24, .ireturn, [], (0, 0), qm_d0)])
set_option maxRecDepth 100000 in
theorem okJ0_charAt_5068e : qm_okM mJ0_charAt_5068e = true := by decide +kernel
def mJ0_checkIndex_df160 : qm_M := (RJ0, qyJ0_checkIndex_df160, [(0, .iload_n 0, [], (0, 0), qm_d0), (1, .iload_n 1, [], (0, 0), qm_d0), (2, .getstatic 1053, [], (0, 0), qm_d0), (5, .invokestatic 1059, [3, 0, 438, 440, 126, 439], (0, 0), qyJ3_checkIndex_8e157), (8, .pop, [], (0, 0), qm_d0), (9, .return_, [], (0, 0), qm_d0)])
set_option maxRecDepth 100000 in
theorem okJ0_checkIndex_df160 : qm_okM mJ0_checkIndex_df160 = true := by decide +kernel
def mJ0_coder_7d493 : qm_M := (RJ0, qyJ0_coder_7d493, [(0, .getstatic 38, [], (0, 0), qm_d0), (3, .ifCond .eq (10), [5], (0, 0), qm_d0), (6, .aload_n 0, [], (0, 0), qm_d0), (7, .getfield 15, [], (0, 0), qm_d0), (10, .goto (4), [6], (0, 0), qm_d0), (13, .iconst (1), [], (1, 0), qm_d0), (14, .ireturn, [], (0, 0), qm_d0)])
set_option maxRecDepth 100000 in
theorem okJ0_coder_7d493 : qm_okM mJ0_coder_7d493 = true := by decide +kernel
def mJ0_isLatin1_aae02 : qm_M := (RJ0, qyJ0_isLatin1_aae02, [(0, .getstatic 38, [], (0, 0), qm_d0), (3, .ifCond .eq (14), [7], (0, 0), qm_d0), (6, .aload_n 0, [], (0, 0), qm_d0), (7, .getfield 15, [], (0, 0), qm_d0), (10, .ifCond .ne (7), [7], (0, 0), qm_d0), (13, .iconst (1), [], (1, 0), qm_d0), (14, .goto (4), [8], (0, 0), qm_d0), (17, .iconst (0), [], (0, 0), qm_d0), (18, .ireturn, [], (0, 0), qm_d0)])
set_option maxRecDepth 100000 in
theorem okJ0_isLatin1_aae02 : qm_okM mJ0_isLatin1_aae02 = true := by decide +kernel
def mJ0_length_8abf5 : qm_M := (RJ0, qyJ0_length_8abf5, [(0, .aload_n 0, [], (0, 0), qm_d0), (1, .getfield 9, [], (0, 0), qm_d0), (4, .arraylength, [], (0, 0), qm_d0), (5, .aload_n 0, [], (0, 0), qm_d0), (6, .invokevirtual 335, [], (0, 0), qm_d0), (9, .ishr, [], (0, 0), qm_d0), (10, .ireturn, [], (0, 0), qm_d0)])
set_option maxRecDepth 100000 in
theorem okJ0_length_8abf5 : qm_okM mJ0_length_8abf5 = true := by decide +kernel
def mJ1_charAt_3b067 : qm_M := (RJ1, qyJ1_charAt_3b067, [(0, .iload_n 1, [], (0, 0), qm_d0), (1, .aload_n 0, [], (0, 0), qm_d0), (2, .arraylength, [], (0, 0), qm_d0), (3, .invokestatic 9, [2, 0, 433, 435, 124, 434], (0, 0), qyJ0_checkIndex_df160), (6, .aload_n 0, [], (0, 0), qm_d0), (7, .iload_n 1, [], (0, 0), qm_d0), (8, .baload, [], (0, 0), qm_d0), (9, .sipush (255), [], (255, 0), qm_d0), (12, .iand, [], (0, 0), qm_d0), (13, .i2c, [], (0, 0), qm_d0), (14, .ireturn, [], (0, 0), qm_d0)])
set_option maxRecDepth 100000 in
theorem okJ1_charAt_3b067 : qm_okM mJ1_charAt_3b067 = true := by decide +kernel
def mJ2_charAt_3b067 : qm_M := (RJ2, qyJ2_charAt_3b067, [(0, .iload_n 1, [], (0, 0), qm_d0), (1, .aload_n 0, [], (0, 0), qm_d0), (2, .invokestatic 67, [2, 0, 444, 446, 127, 445], (0, 0), qyJ2_checkIndex_2214a), (5, .aload_n 0, [], (0, 0), qm_d0), (6, .iload_n 1, [], (0, 0), qm_d0), (7, .invokestatic 71, [2, 0, 451, 453, 127, 452], (0, 0), qyJ2_getChar_3b067), (10, .ireturn, [], (0, 0), qm_d0)])
set_option maxRecDepth 100000 in
theorem okJ2_charAt_3b067 : qm_okM mJ2_charAt_3b067 = true := by decide +kernel
def mJ2_checkIndex_2214a : qm_M := (RJ2, qyJ2_checkIndex_2214a, [(0, .iload_n 0, [], (0, 0), qm_d0), (1, .aload_n 1, [], (0, 0), qm_d0), (2, .invokestatic 48, [1, 0, 447, 449, 127, 448], (0, 0), qyJ2_length_9d52b), (5, .invokestatic 414, [2, 0, 450, 435, 124, 434], (0, 0), qyJ0_checkIndex_df160), (8, .return_, [], (0, 0), qm_d0)])
set_option maxRecDepth 100000 in
theorem okJ2_checkIndex_2214a : qm_okM mJ2_checkIndex_2214a = true := by decide +kernel
def mJ2_length_9d52b : qm_M := (RJ2, qyJ2_length_9d52b, [(0, .aload_n 0, [], (0, 0), qm_d0), (1, .arraylength, [], (0, 0), qm_d0), (2, .iconst (1), [], (1, 0), qm_d0), (3, .ishr, [], (0, 0), qm_d0), (4, .ireturn, [], (0, 0), qm_d0)])
set_option maxRecDepth 100000 in
theorem okJ2_length_9d52b : qm_okM mJ2_length_9d52b = true := by decide +kernel
def mJ7_fill_53178 : qm_M := (RJ7, qyJ7_fill_53178, [(0, .iconst (0), [], (0, 0), qm_d0), (1, .istore_n 2, [], (0, 0), qm_d0), (2, .aload_n 0, [], (0, 0), qm_d0), (3, .arraylength, [10], (0, 0), qm_d0), (4, .istore_n 3, [], (0, 0), qm_d0), (5, .iload_n 2, [], (0, 0), qm_d0), (6, .iload_n 3, [], (0, 0), qm_d0), (7, .if_icmp .ge (13), [14], (0, 0), qm_d0), (10, .aload_n 0, [], (0, 0), qm_d0), (11, .iload_n 2, [], (0, 0), qm_d0), (12, .iload_n 1, [], (0, 0), qm_d0), (13, .iastore, [], (0, 0), qm_d0), (14, .iinc 2 (1), [], (1, 0), qm_d0), (17, .goto (-12), [5], (0, 0), qm_d0), (20, .return_, [], (0, 0), qm_d0)])
set_option maxRecDepth 100000 in
theorem okJ7_fill_53178 : qm_okM mJ7_fill_53178 = true := by decide +kernel
