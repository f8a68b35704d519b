theorem zl_c43_63 : zl_case zk_PT zk_CT zk_RT zk_tab 99999 200 zm_law [zl_en] zl_s 43 63 = true := by decide +kernel
theorem zl_c43_64 : zl_case zk_PT zk_CT zk_RT zk_tab 99999 200 zm_law [zl_en] zl_s 43 64 = true := by decide +kernel
theorem zl_c43_65 : zl_case zk_PT zk_CT zk_RT zk_tab 99999 200 zm_law [zl_en] zl_s 43 65 = true := by decide +kernel
theorem zl_c43_66 : zl_case zk_PT zk_CT zk_RT zk_tab 99999 200 zm_law [zl_en] zl_s 43 66 = true := by decide +kernel
theorem zl_c43_67 : zl_case zk_PT zk_CT zk_RT zk_tab 99999 200 zm_law [zl_en] zl_s 43 67 = true := by decide +kernel
theorem zl_c43_68 : zl_case zk_PT zk_CT zk_RT zk_tab 99999 200 zm_law [zl_en] zl_s 43 68 = true := by decide +kernel
