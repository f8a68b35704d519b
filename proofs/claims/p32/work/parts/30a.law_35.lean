theorem zl_c43_51 : zl_case zk_PT zk_CT zk_RT zk_tab 99999 200 zm_law [zl_en] zl_s 43 51 = true := by decide +kernel
theorem zl_c43_52 : zl_case zk_PT zk_CT zk_RT zk_tab 99999 200 zm_law [zl_en] zl_s 43 52 = true := by decide +kernel
theorem zl_c43_53 : zl_case zk_PT zk_CT zk_RT zk_tab 99999 200 zm_law [zl_en] zl_s 43 53 = true := by decide +kernel
theorem zl_c43_54 : zl_case zk_PT zk_CT zk_RT zk_tab 99999 200 zm_law [zl_en] zl_s 43 54 = true := by decide +kernel
theorem zl_c43_55 : zl_case zk_PT zk_CT zk_RT zk_tab 99999 200 zm_law [zl_en] zl_s 43 55 = true := by decide +kernel
theorem zl_c43_56 : zl_case zk_PT zk_CT zk_RT zk_tab 99999 200 zm_law [zl_en] zl_s 43 56 = true := by decide +kernel
