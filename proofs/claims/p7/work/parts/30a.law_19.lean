theorem zl_v37 : zl_way zk_PT zk_CT zk_RT zk_tab 100000 200 zm_law [zl_en] zl_s 37 = true := by decide +kernel
theorem zl_v38 : zl_way zk_PT zk_CT zk_RT zk_tab 100000 200 zm_law [zl_en] zl_s 38 = true := by decide +kernel
theorem zl_v39 : zl_way zk_PT zk_CT zk_RT zk_tab 100000 200 zm_law [zl_en] zl_s 39 = true := by decide +kernel
theorem zl_v41 : zl_way zk_PT zk_CT zk_RT zk_tab 100000 200 zm_law [zl_en] zl_s 41 = true := by decide +kernel
theorem zl_v43 : zl_way zk_PT zk_CT zk_RT zk_tab 100000 200 zm_law [zl_en] zl_s 43 = true := by decide +kernel
theorem zl_v44 : zl_way zk_PT zk_CT zk_RT zk_tab 100000 200 zm_law [zl_en] zl_s 44 = true := by decide +kernel
