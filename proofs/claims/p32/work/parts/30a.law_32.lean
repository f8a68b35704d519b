theorem zl_c43_33 : zl_case zk_PT zk_CT zk_RT zk_tab 99999 200 zm_law [zl_en] zl_s 43 33 = true := by decide +kernel
theorem zl_c43_34 : zl_case zk_PT zk_CT zk_RT zk_tab 99999 200 zm_law [zl_en] zl_s 43 34 = true := by decide +kernel
theorem zl_c43_35 : zl_case zk_PT zk_CT zk_RT zk_tab 99999 200 zm_law [zl_en] zl_s 43 35 = true := by decide +kernel
theorem zl_c43_36 : zl_case zk_PT zk_CT zk_RT zk_tab 99999 200 zm_law [zl_en] zl_s 43 36 = true := by decide +kernel
theorem zl_c43_37 : zl_case zk_PT zk_CT zk_RT zk_tab 99999 200 zm_law [zl_en] zl_s 43 37 = true := by decide +kernel
theorem zl_c43_38 : zl_case zk_PT zk_CT zk_RT zk_tab 99999 200 zm_law [zl_en] zl_s 43 38 = true := by decide +kernel
