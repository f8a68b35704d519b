noncomputable section
theorem zl_c42_48 : zl_case zk_PT zk_CT zk_RT zk_tab 99999 200 zm_law [zl_en] zl_s 42 48 = true := by decide +kernel
theorem zl_c42_49 : zl_case zk_PT zk_CT zk_RT zk_tab 99999 200 zm_law [zl_en] zl_s 42 49 = true := by decide +kernel
theorem zl_c42_50 : zl_case zk_PT zk_CT zk_RT zk_tab 99999 200 zm_law [zl_en] zl_s 42 50 = true := by decide +kernel
theorem zl_c42_51 : zl_case zk_PT zk_CT zk_RT zk_tab 99999 200 zm_law [zl_en] zl_s 42 51 = true := by decide +kernel
theorem zl_c42_52 : zl_case zk_PT zk_CT zk_RT zk_tab 99999 200 zm_law [zl_en] zl_s 42 52 = true := by decide +kernel
theorem zl_c42_53 : zl_case zk_PT zk_CT zk_RT zk_tab 99999 200 zm_law [zl_en] zl_s 42 53 = true := by decide +kernel
theorem zl_c42_54 : zl_case zk_PT zk_CT zk_RT zk_tab 99999 200 zm_law [zl_en] zl_s 42 54 = true := by decide +kernel
theorem zl_c42_55 : zl_case zk_PT zk_CT zk_RT zk_tab 99999 200 zm_law [zl_en] zl_s 42 55 = true := by decide +kernel
end
