theorem zl_c43_69 : zl_case zk_PT zk_CT zk_RT zk_tab 99999 200 zm_law [zl_en] zl_s 43 69 = true := by decide +kernel
theorem zl_c43_70 : zl_case zk_PT zk_CT zk_RT zk_tab 99999 200 zm_law [zl_en] zl_s 43 70 = true := by decide +kernel
theorem zl_c43_71 : zl_case zk_PT zk_CT zk_RT zk_tab 99999 200 zm_law [zl_en] zl_s 43 71 = true := by decide +kernel
theorem zl_c43_72 : zl_case zk_PT zk_CT zk_RT zk_tab 99999 200 zm_law [zl_en] zl_s 43 72 = true := by decide +kernel
theorem zl_c43_73 : zl_case zk_PT zk_CT zk_RT zk_tab 99999 200 zm_law [zl_en] zl_s 43 73 = true := by decide +kernel
theorem zl_c43_74 : zl_case zk_PT zk_CT zk_RT zk_tab 99999 200 zm_law [zl_en] zl_s 43 74 = true := by decide +kernel
