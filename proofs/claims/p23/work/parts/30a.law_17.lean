noncomputable section
theorem zl_c21_0 : zl_case zk_PT zk_CT zk_RT zk_tab 99999 200 zm_law [zl_en] zl_s 21 0 = true := by decide +kernel
theorem zl_c21_1 : zl_case zk_PT zk_CT zk_RT zk_tab 99999 200 zm_law [zl_en] zl_s 21 1 = true := by decide +kernel
theorem zl_c21_2 : zl_case zk_PT zk_CT zk_RT zk_tab 99999 200 zm_law [zl_en] zl_s 21 2 = true := by decide +kernel
theorem zl_c21_3 : zl_case zk_PT zk_CT zk_RT zk_tab 99999 200 zm_law [zl_en] zl_s 21 3 = true := by decide +kernel
theorem zl_c21_4 : zl_case zk_PT zk_CT zk_RT zk_tab 99999 200 zm_law [zl_en] zl_s 21 4 = true := by decide +kernel
theorem zl_c21_5 : zl_case zk_PT zk_CT zk_RT zk_tab 99999 200 zm_law [zl_en] zl_s 21 5 = true := by decide +kernel
end
