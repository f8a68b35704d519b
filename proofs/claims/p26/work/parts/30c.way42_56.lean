noncomputable section
theorem zl_c42_56 : zl_case zk_PT zk_CT zk_RT zk_tab 99999 200 zm_law [zl_en] zl_s 42 56 = true := by decide +kernel
theorem zl_c42_57 : zl_case zk_PT zk_CT zk_RT zk_tab 99999 200 zm_law [zl_en] zl_s 42 57 = true := by decide +kernel
theorem zl_c42_58 : zl_case zk_PT zk_CT zk_RT zk_tab 99999 200 zm_law [zl_en] zl_s 42 58 = true := by decide +kernel
theorem zl_c42_59 : zl_case zk_PT zk_CT zk_RT zk_tab 99999 200 zm_law [zl_en] zl_s 42 59 = true := by decide +kernel
theorem zl_c42_60 : zl_case zk_PT zk_CT zk_RT zk_tab 99999 200 zm_law [zl_en] zl_s 42 60 = true := by decide +kernel
theorem zl_c42_61 : zl_case zk_PT zk_CT zk_RT zk_tab 99999 200 zm_law [zl_en] zl_s 42 61 = true := by decide +kernel
theorem zl_c42_62 : zl_case zk_PT zk_CT zk_RT zk_tab 99999 200 zm_law [zl_en] zl_s 42 62 = true := by decide +kernel
theorem zl_c42_63 : zl_case zk_PT zk_CT zk_RT zk_tab 99999 200 zm_law [zl_en] zl_s 42 63 = true := by decide +kernel
end
