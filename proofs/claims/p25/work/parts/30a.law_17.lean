noncomputable section
theorem zl_v21 : zl_way zk_PT zk_CT zk_RT zk_tab 100000 200 zm_law [zl_en] zl_s 21 = true := by decide +kernel
theorem zl_v22 : zl_way zk_PT zk_CT zk_RT zk_tab 100000 200 zm_law [zl_en] zl_s 22 = true := by decide +kernel
theorem zl_c23_0 : zl_case zk_PT zk_CT zk_RT zk_tab 99999 200 zm_law [zl_en] zl_s 23 0 = true := by decide +kernel
theorem zl_c23_1 : zl_case zk_PT zk_CT zk_RT zk_tab 99999 200 zm_law [zl_en] zl_s 23 1 = true := by decide +kernel
theorem zl_c23_2 : zl_case zk_PT zk_CT zk_RT zk_tab 99999 200 zm_law [zl_en] zl_s 23 2 = true := by decide +kernel
theorem zl_c23_3 : zl_case zk_PT zk_CT zk_RT zk_tab 99999 200 zm_law [zl_en] zl_s 23 3 = true := by decide +kernel
end
