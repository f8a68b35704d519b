noncomputable section
theorem zl_c40_0 : zl_case zk_PT zk_CT zk_RT zk_tab 99999 200 zm_law [zl_en] zl_s 40 0 = true := by decide +kernel
theorem zl_c40_1 : zl_case zk_PT zk_CT zk_RT zk_tab 99999 200 zm_law [zl_en] zl_s 40 1 = true := by decide +kernel
theorem zl_c40_2 : zl_case zk_PT zk_CT zk_RT zk_tab 99999 200 zm_law [zl_en] zl_s 40 2 = true := by decide +kernel
theorem zl_c40_3 : zl_case zk_PT zk_CT zk_RT zk_tab 99999 200 zm_law [zl_en] zl_s 40 3 = true := by decide +kernel
theorem zl_c40_4 : zl_case zk_PT zk_CT zk_RT zk_tab 99999 200 zm_law [zl_en] zl_s 40 4 = true := by decide +kernel
theorem zl_c40_5 : zl_case zk_PT zk_CT zk_RT zk_tab 99999 200 zm_law [zl_en] zl_s 40 5 = true := by decide +kernel
theorem zl_c40_6 : zl_case zk_PT zk_CT zk_RT zk_tab 99999 200 zm_law [zl_en] zl_s 40 6 = true := by decide +kernel
theorem zl_c40_7 : zl_case zk_PT zk_CT zk_RT zk_tab 99999 200 zm_law [zl_en] zl_s 40 7 = true := by decide +kernel
end
