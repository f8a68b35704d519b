noncomputable section
theorem zl_c42_32 : zl_case zk_PT zk_CT zk_RT zk_tab 99999 200 zm_law [zl_en] zl_s 42 32 = true := by decide +kernel
theorem zl_c42_33 : zl_case zk_PT zk_CT zk_RT zk_tab 99999 200 zm_law [zl_en] zl_s 42 33 = true := by decide +kernel
theorem zl_c42_34 : zl_case zk_PT zk_CT zk_RT zk_tab 99999 200 zm_law [zl_en] zl_s 42 34 = true := by decide +kernel
theorem zl_c42_35 : zl_case zk_PT zk_CT zk_RT zk_tab 99999 200 zm_law [zl_en] zl_s 42 35 = true := by decide +kernel
theorem zl_c42_36 : zl_case zk_PT zk_CT zk_RT zk_tab 99999 200 zm_law [zl_en] zl_s 42 36 = true := by decide +kernel
theorem zl_c42_37 : zl_case zk_PT zk_CT zk_RT zk_tab 99999 200 zm_law [zl_en] zl_s 42 37 = true := by decide +kernel
theorem zl_c42_38 : zl_case zk_PT zk_CT zk_RT zk_tab 99999 200 zm_law [zl_en] zl_s 42 38 = true := by decide +kernel
theorem zl_c42_39 : zl_case zk_PT zk_CT zk_RT zk_tab 99999 200 zm_law [zl_en] zl_s 42 39 = true := by decide +kernel
end
