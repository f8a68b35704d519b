theorem zl_c43_57 : zl_case zk_PT zk_CT zk_RT zk_tab 99999 200 zm_law [zl_en] zl_s 43 57 = true := by decide +kernel
theorem zl_c43_58 : zl_case zk_PT zk_CT zk_RT zk_tab 99999 200 zm_law [zl_en] zl_s 43 58 = true := by decide +kernel
theorem zl_c43_59 : zl_case zk_PT zk_CT zk_RT zk_tab 99999 200 zm_law [zl_en] zl_s 43 59 = true := by decide +kernel
theorem zl_c43_60 : zl_case zk_PT zk_CT zk_RT zk_tab 99999 200 zm_law [zl_en] zl_s 43 60 = true := by decide +kernel
theorem zl_c43_61 : zl_case zk_PT zk_CT zk_RT zk_tab 99999 200 zm_law [zl_en] zl_s 43 61 = true := by decide +kernel
theorem zl_c43_62 : zl_case zk_PT zk_CT zk_RT zk_tab 99999 200 zm_law [zl_en] zl_s 43 62 = true := by decide +kernel
