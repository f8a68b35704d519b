noncomputable section
theorem zl_c9_0 : zl_case zk_PT zk_CT zk_RT zk_tab 99999 200 zm_law [zl_en] zl_s 9 0 = true := by decide +kernel
theorem zl_c9_1 : zl_case zk_PT zk_CT zk_RT zk_tab 99999 200 zm_law [zl_en] zl_s 9 1 = true := by decide +kernel
theorem zl_c9_2 : zl_case zk_PT zk_CT zk_RT zk_tab 99999 200 zm_law [zl_en] zl_s 9 2 = true := by decide +kernel
theorem zl_c9_3 : zl_case zk_PT zk_CT zk_RT zk_tab 99999 200 zm_law [zl_en] zl_s 9 3 = true := by decide +kernel
theorem zl_c9_4 : zl_case zk_PT zk_CT zk_RT zk_tab 99999 200 zm_law [zl_en] zl_s 9 4 = true := by decide +kernel
theorem zl_c9_5 : zl_case zk_PT zk_CT zk_RT zk_tab 99999 200 zm_law [zl_en] zl_s 9 5 = true := by decide +kernel
end
