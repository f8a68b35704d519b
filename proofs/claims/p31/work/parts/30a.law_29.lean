theorem zl_c43_15 : zl_case zk_PT zk_CT zk_RT zk_tab 99999 200 zm_law [zl_en] zl_s 43 15 = true := by decide +kernel
theorem zl_c43_16 : zl_case zk_PT zk_CT zk_RT zk_tab 99999 200 zm_law [zl_en] zl_s 43 16 = true := by decide +kernel
theorem zl_c43_17 : zl_case zk_PT zk_CT zk_RT zk_tab 99999 200 zm_law [zl_en] zl_s 43 17 = true := by decide +kernel
theorem zl_c43_18 : zl_case zk_PT zk_CT zk_RT zk_tab 99999 200 zm_law [zl_en] zl_s 43 18 = true := by decide +kernel
theorem zl_c43_19 : zl_case zk_PT zk_CT zk_RT zk_tab 99999 200 zm_law [zl_en] zl_s 43 19 = true := by decide +kernel
theorem zl_c43_20 : zl_case zk_PT zk_CT zk_RT zk_tab 99999 200 zm_law [zl_en] zl_s 43 20 = true := by decide +kernel
