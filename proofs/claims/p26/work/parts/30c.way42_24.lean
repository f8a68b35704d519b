noncomputable section
theorem zl_c42_24 : zl_case zk_PT zk_CT zk_RT zk_tab 99999 200 zm_law [zl_en] zl_s 42 24 = true := by decide +kernel
theorem zl_c42_25 : zl_case zk_PT zk_CT zk_RT zk_tab 99999 200 zm_law [zl_en] zl_s 42 25 = true := by decide +kernel
theorem zl_c42_26 : zl_case zk_PT zk_CT zk_RT zk_tab 99999 200 zm_law [zl_en] zl_s 42 26 = true := by decide +kernel
theorem zl_c42_27 : zl_case zk_PT zk_CT zk_RT zk_tab 99999 200 zm_law [zl_en] zl_s 42 27 = true := by decide +kernel
theorem zl_c42_28 : zl_case zk_PT zk_CT zk_RT zk_tab 99999 200 zm_law [zl_en] zl_s 42 28 = true := by decide +kernel
theorem zl_c42_29 : zl_case zk_PT zk_CT zk_RT zk_tab 99999 200 zm_law [zl_en] zl_s 42 29 = true := by decide +kernel
theorem zl_c42_30 : zl_case zk_PT zk_CT zk_RT zk_tab 99999 200 zm_law [zl_en] zl_s 42 30 = true := by decide +kernel
theorem zl_c42_31 : zl_case zk_PT zk_CT zk_RT zk_tab 99999 200 zm_law [zl_en] zl_s 42 31 = true := by decide +kernel
end
