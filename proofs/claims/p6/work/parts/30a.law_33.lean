theorem zl_c43_39 : zl_case zk_PT zk_CT zk_RT zk_tab 99999 200 zm_law [zl_en] zl_s 43 39 = true := by decide +kernel
theorem zl_c43_40 : zl_case zk_PT zk_CT zk_RT zk_tab 99999 200 zm_law [zl_en] zl_s 43 40 = true := by decide +kernel
theorem zl_c43_41 : zl_case zk_PT zk_CT zk_RT zk_tab 99999 200 zm_law [zl_en] zl_s 43 41 = true := by decide +kernel
theorem zl_c43_42 : zl_case zk_PT zk_CT zk_RT zk_tab 99999 200 zm_law [zl_en] zl_s 43 42 = true := by decide +kernel
theorem zl_c43_43 : zl_case zk_PT zk_CT zk_RT zk_tab 99999 200 zm_law [zl_en] zl_s 43 43 = true := by decide +kernel
theorem zl_c43_44 : zl_case zk_PT zk_CT zk_RT zk_tab 99999 200 zm_law [zl_en] zl_s 43 44 = true := by decide +kernel
