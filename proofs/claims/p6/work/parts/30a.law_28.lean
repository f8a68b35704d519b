theorem zl_c43_9 : zl_case zk_PT zk_CT zk_RT zk_tab 99999 200 zm_law [zl_en] zl_s 43 9 = true := by decide +kernel
theorem zl_c43_10 : zl_case zk_PT zk_CT zk_RT zk_tab 99999 200 zm_law [zl_en] zl_s 43 10 = true := by decide +kernel
theorem zl_c43_11 : zl_case zk_PT zk_CT zk_RT zk_tab 99999 200 zm_law [zl_en] zl_s 43 11 = true := by decide +kernel
theorem zl_c43_12 : zl_case zk_PT zk_CT zk_RT zk_tab 99999 200 zm_law [zl_en] zl_s 43 12 = true := by decide +kernel
theorem zl_c43_13 : zl_case zk_PT zk_CT zk_RT zk_tab 99999 200 zm_law [zl_en] zl_s 43 13 = true := by decide +kernel
theorem zl_c43_14 : zl_case zk_PT zk_CT zk_RT zk_tab 99999 200 zm_law [zl_en] zl_s 43 14 = true := by decide +kernel
