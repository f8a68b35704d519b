noncomputable section
theorem zl_c42_0 : zl_case zk_PT zk_CT zk_RT zk_tab 99999 200 zm_law [zl_en] zl_s 42 0 = true := by decide +kernel
theorem zl_c42_1 : zl_case zk_PT zk_CT zk_RT zk_tab 99999 200 zm_law [zl_en] zl_s 42 1 = true := by decide +kernel
theorem zl_c42_2 : zl_case zk_PT zk_CT zk_RT zk_tab 99999 200 zm_law [zl_en] zl_s 42 2 = true := by decide +kernel
theorem zl_c42_3 : zl_case zk_PT zk_CT zk_RT zk_tab 99999 200 zm_law [zl_en] zl_s 42 3 = true := by decide +kernel
theorem zl_c42_4 : zl_case zk_PT zk_CT zk_RT zk_tab 99999 200 zm_law [zl_en] zl_s 42 4 = true := by decide +kernel
theorem zl_c42_5 : zl_case zk_PT zk_CT zk_RT zk_tab 99999 200 zm_law [zl_en] zl_s 42 5 = true := by decide +kernel
theorem zl_c42_6 : zl_case zk_PT zk_CT zk_RT zk_tab 99999 200 zm_law [zl_en] zl_s 42 6 = true := by decide +kernel
theorem zl_c42_7 : zl_case zk_PT zk_CT zk_RT zk_tab 99999 200 zm_law [zl_en] zl_s 42 7 = true := by decide +kernel
end
