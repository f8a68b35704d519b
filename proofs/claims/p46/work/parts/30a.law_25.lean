noncomputable section
theorem zl_c36_26 : zl_case zk_PT zk_CT zk_RT zk_tab 99999 200 zm_law [zl_en] zl_s 36 26 = true := by decide +kernel
theorem zl_c36_27 : zl_case zk_PT zk_CT zk_RT zk_tab 99999 200 zm_law [zl_en] zl_s 36 27 = true := by decide +kernel
theorem zl_c36_28 : zl_case zk_PT zk_CT zk_RT zk_tab 99999 200 zm_law [zl_en] zl_s 36 28 = true := by decide +kernel
theorem zl_c36_29 : zl_case zk_PT zk_CT zk_RT zk_tab 99999 200 zm_law [zl_en] zl_s 36 29 = true := by decide +kernel
theorem zl_c36_30 : zl_case zk_PT zk_CT zk_RT zk_tab 99999 200 zm_law [zl_en] zl_s 36 30 = true := by decide +kernel
theorem zl_c36_31 : zl_case zk_PT zk_CT zk_RT zk_tab 99999 200 zm_law [zl_en] zl_s 36 31 = true := by decide +kernel
end
