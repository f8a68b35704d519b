theorem zl_c43_45 : zl_case zk_PT zk_CT zk_RT zk_tab 99999 200 zm_law [zl_en] zl_s 43 45 = true := by decide +kernel
theorem zl_c43_46 : zl_case zk_PT zk_CT zk_RT zk_tab 99999 200 zm_law [zl_en] zl_s 43 46 = true := by decide +kernel
theorem zl_c43_47 : zl_case zk_PT zk_CT zk_RT zk_tab 99999 200 zm_law [zl_en] zl_s 43 47 = true := by decide +kernel
theorem zl_c43_48 : zl_case zk_PT zk_CT zk_RT zk_tab 99999 200 zm_law [zl_en] zl_s 43 48 = true := by decide +kernel
theorem zl_c43_49 : zl_case zk_PT zk_CT zk_RT zk_tab 99999 200 zm_law [zl_en] zl_s 43 49 = true := by decide +kernel
theorem zl_c43_50 : zl_case zk_PT zk_CT zk_RT zk_tab 99999 200 zm_law [zl_en] zl_s 43 50 = true := by decide +kernel
