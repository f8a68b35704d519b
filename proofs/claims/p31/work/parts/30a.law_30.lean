theorem zl_c43_21 : zl_case zk_PT zk_CT zk_RT zk_tab 99999 200 zm_law [zl_en] zl_s 43 21 = true := by decide +kernel
theorem zl_c43_22 : zl_case zk_PT zk_CT zk_RT zk_tab 99999 200 zm_law [zl_en] zl_s 43 22 = true := by decide +kernel
theorem zl_c43_23 : zl_case zk_PT zk_CT zk_RT zk_tab 99999 200 zm_law [zl_en] zl_s 43 23 = true := by decide +kernel
theorem zl_c43_24 : zl_case zk_PT zk_CT zk_RT zk_tab 99999 200 zm_law [zl_en] zl_s 43 24 = true := by decide +kernel
theorem zl_c43_25 : zl_case zk_PT zk_CT zk_RT zk_tab 99999 200 zm_law [zl_en] zl_s 43 25 = true := by decide +kernel
theorem zl_c43_26 : zl_case zk_PT zk_CT zk_RT zk_tab 99999 200 zm_law [zl_en] zl_s 43 26 = true := by decide +kernel
