theorem zl_c43_27 : zl_case zk_PT zk_CT zk_RT zk_tab 99999 200 zm_law [zl_en] zl_s 43 27 = true := by decide +kernel
theorem zl_c43_28 : zl_case zk_PT zk_CT zk_RT zk_tab 99999 200 zm_law [zl_en] zl_s 43 28 = true := by decide +kernel
theorem zl_c43_29 : zl_case zk_PT zk_CT zk_RT zk_tab 99999 200 zm_law [zl_en] zl_s 43 29 = true := by decide +kernel
theorem zl_c43_30 : zl_case zk_PT zk_CT zk_RT zk_tab 99999 200 zm_law [zl_en] zl_s 43 30 = true := by decide +kernel
theorem zl_c43_31 : zl_case zk_PT zk_CT zk_RT zk_tab 99999 200 zm_law [zl_en] zl_s 43 31 = true := by decide +kernel
theorem zl_c43_32 : zl_case zk_PT zk_CT zk_RT zk_tab 99999 200 zm_law [zl_en] zl_s 43 32 = true := by decide +kernel
