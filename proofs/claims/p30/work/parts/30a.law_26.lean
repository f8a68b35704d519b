theorem zl_v38 : zl_way zk_PT zk_CT zk_RT zk_tab 100000 200 zm_law [zl_en] zl_s 38 = true := by decide +kernel
theorem zl_v39 : zl_way zk_PT zk_CT zk_RT zk_tab 100000 200 zm_law [zl_en] zl_s 39 = true := by decide +kernel
theorem zl_v41 : zl_way zk_PT zk_CT zk_RT zk_tab 100000 200 zm_law [zl_en] zl_s 41 = true := by decide +kernel
theorem zl_c43_0 : zl_case zk_PT zk_CT zk_RT zk_tab 99999 200 zm_law [zl_en] zl_s 43 0 = true := by decide +kernel
theorem zl_c43_1 : zl_case zk_PT zk_CT zk_RT zk_tab 99999 200 zm_law [zl_en] zl_s 43 1 = true := by decide +kernel
theorem zl_c43_2 : zl_case zk_PT zk_CT zk_RT zk_tab 99999 200 zm_law [zl_en] zl_s 43 2 = true := by decide +kernel
