noncomputable section
theorem zl_c42_16 : zl_case zk_PT zk_CT zk_RT zk_tab 99999 200 zm_law [zl_en] zl_s 42 16 = true := by decide +kernel
theorem zl_c42_17 : zl_case zk_PT zk_CT zk_RT zk_tab 99999 200 zm_law [zl_en] zl_s 42 17 = true := by decide +kernel
theorem zl_c42_18 : zl_case zk_PT zk_CT zk_RT zk_tab 99999 200 zm_law [zl_en] zl_s 42 18 = true := by decide +kernel
theorem zl_c42_19 : zl_case zk_PT zk_CT zk_RT zk_tab 99999 200 zm_law [zl_en] zl_s 42 19 = true := by decide +kernel
theorem zl_c42_20 : zl_case zk_PT zk_CT zk_RT zk_tab 99999 200 zm_law [zl_en] zl_s 42 20 = true := by decide +kernel
theorem zl_c42_21 : zl_case zk_PT zk_CT zk_RT zk_tab 99999 200 zm_law [zl_en] zl_s 42 21 = true := by decide +kernel
theorem zl_c42_22 : zl_case zk_PT zk_CT zk_RT zk_tab 99999 200 zm_law [zl_en] zl_s 42 22 = true := by decide +kernel
theorem zl_c42_23 : zl_case zk_PT zk_CT zk_RT zk_tab 99999 200 zm_law [zl_en] zl_s 42 23 = true := by decide +kernel
end
