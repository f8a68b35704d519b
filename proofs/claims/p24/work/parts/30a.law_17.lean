noncomputable section
theorem zl_v21 : zl_way zk_PT zk_CT zk_RT zk_tab 100000 200 zm_law [zl_en] zl_s 21 = true := by decide +kernel
theorem zl_c22_0 : zl_case zk_PT zk_CT zk_RT zk_tab 99999 200 zm_law [zl_en] zl_s 22 0 = true := by decide +kernel
theorem zl_c22_1 : zl_case zk_PT zk_CT zk_RT zk_tab 99999 200 zm_law [zl_en] zl_s 22 1 = true := by decide +kernel
theorem zl_c22_2 : zl_case zk_PT zk_CT zk_RT zk_tab 99999 200 zm_law [zl_en] zl_s 22 2 = true := by decide +kernel
theorem zl_c22_3 : zl_case zk_PT zk_CT zk_RT zk_tab 99999 200 zm_law [zl_en] zl_s 22 3 = true := by decide +kernel
theorem zl_c22_4 : zl_case zk_PT zk_CT zk_RT zk_tab 99999 200 zm_law [zl_en] zl_s 22 4 = true := by decide +kernel
end
