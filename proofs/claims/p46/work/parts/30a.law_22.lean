noncomputable section
theorem zl_c36_8 : zl_case zk_PT zk_CT zk_RT zk_tab 99999 200 zm_law [zl_en] zl_s 36 8 = true := by decide +kernel
theorem zl_c36_9 : zl_case zk_PT zk_CT zk_RT zk_tab 99999 200 zm_law [zl_en] zl_s 36 9 = true := by decide +kernel
theorem zl_c36_10 : zl_case zk_PT zk_CT zk_RT zk_tab 99999 200 zm_law [zl_en] zl_s 36 10 = true := by decide +kernel
theorem zl_c36_11 : zl_case zk_PT zk_CT zk_RT zk_tab 99999 200 zm_law [zl_en] zl_s 36 11 = true := by decide +kernel
theorem zl_c36_12 : zl_case zk_PT zk_CT zk_RT zk_tab 99999 200 zm_law [zl_en] zl_s 36 12 = true := by decide +kernel
theorem zl_c36_13 : zl_case zk_PT zk_CT zk_RT zk_tab 99999 200 zm_law [zl_en] zl_s 36 13 = true := by decide +kernel
end
