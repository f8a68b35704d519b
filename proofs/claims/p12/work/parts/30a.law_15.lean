noncomputable section
theorem zl_v9 : zl_way zk_PT zk_CT zk_RT zk_tab 100000 200 zm_law [zl_en] zl_s 9 = true := by decide +kernel
theorem zl_c10_0 : zl_case zk_PT zk_CT zk_RT zk_tab 99999 200 zm_law [zl_en] zl_s 10 0 = true := by decide +kernel
theorem zl_c10_1 : zl_case zk_PT zk_CT zk_RT zk_tab 99999 200 zm_law [zl_en] zl_s 10 1 = true := by decide +kernel
theorem zl_c10_2 : zl_case zk_PT zk_CT zk_RT zk_tab 99999 200 zm_law [zl_en] zl_s 10 2 = true := by decide +kernel
theorem zl_c10_3 : zl_case zk_PT zk_CT zk_RT zk_tab 99999 200 zm_law [zl_en] zl_s 10 3 = true := by decide +kernel
theorem zl_c10_4 : zl_case zk_PT zk_CT zk_RT zk_tab 99999 200 zm_law [zl_en] zl_s 10 4 = true := by decide +kernel
end
