noncomputable section
theorem zl_c36_14 : zl_case zk_PT zk_CT zk_RT zk_tab 99999 200 zm_law [zl_en] zl_s 36 14 = true := by decide +kernel
theorem zl_c36_15 : zl_case zk_PT zk_CT zk_RT zk_tab 99999 200 zm_law [zl_en] zl_s 36 15 = true := by decide +kernel
theorem zl_c36_16 : zl_case zk_PT zk_CT zk_RT zk_tab 99999 200 zm_law [zl_en] zl_s 36 16 = true := by decide +kernel
theorem zl_c36_17 : zl_case zk_PT zk_CT zk_RT zk_tab 99999 200 zm_law [zl_en] zl_s 36 17 = true := by decide +kernel
theorem zl_c36_18 : zl_case zk_PT zk_CT zk_RT zk_tab 99999 200 zm_law [zl_en] zl_s 36 18 = true := by decide +kernel
theorem zl_c36_19 : zl_case zk_PT zk_CT zk_RT zk_tab 99999 200 zm_law [zl_en] zl_s 36 19 = true := by decide +kernel
end
