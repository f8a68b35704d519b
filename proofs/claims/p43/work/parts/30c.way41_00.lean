theorem zl_c41_0 : zl_case zk_PT zk_CT zk_RT zk_tab 99999 200 zm_law [zl_en] zl_s 41 0 = true := by decide +kernel
theorem zl_c41_1 : zl_case zk_PT zk_CT zk_RT zk_tab 99999 200 zm_law [zl_en] zl_s 41 1 = true := by decide +kernel
theorem zl_c41_2 : zl_case zk_PT zk_CT zk_RT zk_tab 99999 200 zm_law [zl_en] zl_s 41 2 = true := by decide +kernel
theorem zl_c41_3 : zl_case zk_PT zk_CT zk_RT zk_tab 99999 200 zm_law [zl_en] zl_s 41 3 = true := by decide +kernel
theorem zl_c41_4 : zl_case zk_PT zk_CT zk_RT zk_tab 99999 200 zm_law [zl_en] zl_s 41 4 = true := by decide +kernel
theorem zl_c41_5 : zl_case zk_PT zk_CT zk_RT zk_tab 99999 200 zm_law [zl_en] zl_s 41 5 = true := by decide +kernel
theorem zl_c41_6 : zl_case zk_PT zk_CT zk_RT zk_tab 99999 200 zm_law [zl_en] zl_s 41 6 = true := by decide +kernel
theorem zl_c41_7 : zl_case zk_PT zk_CT zk_RT zk_tab 99999 200 zm_law [zl_en] zl_s 41 7 = true := by decide +kernel
