noncomputable section
theorem zl_c42_40 : zl_case zk_PT zk_CT zk_RT zk_tab 99999 200 zm_law [zl_en] zl_s 42 40 = true := by decide +kernel
theorem zl_c42_41 : zl_case zk_PT zk_CT zk_RT zk_tab 99999 200 zm_law [zl_en] zl_s 42 41 = true := by decide +kernel
theorem zl_c42_42 : zl_case zk_PT zk_CT zk_RT zk_tab 99999 200 zm_law [zl_en] zl_s 42 42 = true := by decide +kernel
theorem zl_c42_43 : zl_case zk_PT zk_CT zk_RT zk_tab 99999 200 zm_law [zl_en] zl_s 42 43 = true := by decide +kernel
theorem zl_c42_44 : zl_case zk_PT zk_CT zk_RT zk_tab 99999 200 zm_law [zl_en] zl_s 42 44 = true := by decide +kernel
theorem zl_c42_45 : zl_case zk_PT zk_CT zk_RT zk_tab 99999 200 zm_law [zl_en] zl_s 42 45 = true := by decide +kernel
theorem zl_c42_46 : zl_case zk_PT zk_CT zk_RT zk_tab 99999 200 zm_law [zl_en] zl_s 42 46 = true := by decide +kernel
theorem zl_c42_47 : zl_case zk_PT zk_CT zk_RT zk_tab 99999 200 zm_law [zl_en] zl_s 42 47 = true := by decide +kernel
end
