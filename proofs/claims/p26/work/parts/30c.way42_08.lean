noncomputable section
theorem zl_c42_8 : zl_case zk_PT zk_CT zk_RT zk_tab 99999 200 zm_law [zl_en] zl_s 42 8 = true := by decide +kernel
theorem zl_c42_9 : zl_case zk_PT zk_CT zk_RT zk_tab 99999 200 zm_law [zl_en] zl_s 42 9 = true := by decide +kernel
theorem zl_c42_10 : zl_case zk_PT zk_CT zk_RT zk_tab 99999 200 zm_law [zl_en] zl_s 42 10 = true := by decide +kernel
theorem zl_c42_11 : zl_case zk_PT zk_CT zk_RT zk_tab 99999 200 zm_law [zl_en] zl_s 42 11 = true := by decide +kernel
theorem zl_c42_12 : zl_case zk_PT zk_CT zk_RT zk_tab 99999 200 zm_law [zl_en] zl_s 42 12 = true := by decide +kernel
theorem zl_c42_13 : zl_case zk_PT zk_CT zk_RT zk_tab 99999 200 zm_law [zl_en] zl_s 42 13 = true := by decide +kernel
theorem zl_c42_14 : zl_case zk_PT zk_CT zk_RT zk_tab 99999 200 zm_law [zl_en] zl_s 42 14 = true := by decide +kernel
theorem zl_c42_15 : zl_case zk_PT zk_CT zk_RT zk_tab 99999 200 zm_law [zl_en] zl_s 42 15 = true := by decide +kernel
end
