/-! the JDK's check of an index -/
def qyJ3_checkIndex_8e157 : qm_CI := (yJ3_checkIndex_8e157, cJ3_checkIndex_8e157, 3, some .int)
def mJ3_checkIndex_8e157 : qm_M := (RJ3, qyJ3_checkIndex_8e157, [(0, .iload_n 0, [], (0, 0), qm_d0), (1, .ifCond .lt (8), [5], (0, 0), qm_d0), (4, .iload_n 0, [], (0, 0), qm_d0), (5, .iload_n 1, [], (0, 0), qm_d0), (6, .if_icmp .lt (10), [10], (0, 0), qm_d0), (9, .aload_n 2, [], (0, 0), qm_d0), (10, .iload_n 0, [], (0, 0), qm_d0), (11, .iload_n 1, [], (0, 0), qm_d0), (12, .invokestatic 95, [], (0, 0), qm_d0), (15, .athrow, [], (0, 0), qm_d0), (16, .iload_n 0, [], (0, 0), qm_d0), (17, .ireturn, [], (0, 0), qm_d0)])
set_option maxRecDepth 100000 in
theorem okJ3_checkIndex_8e157 : qm_okM mJ3_checkIndex_8e157 = true := by decide +kernel
