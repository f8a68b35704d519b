noncomputable section
theorem zl_c36_20 : zl_case zk_PT zk_CT zk_RT zk_tab 99999 200 zm_law [zl_en] zl_s 36 20 = true := by decide +kernel
theorem zl_c36_21 : zl_case zk_PT zk_CT zk_RT zk_tab 99999 200 zm_law [zl_en] zl_s 36 21 = true := by decide +kernel
theorem zl_c36_22 : zl_case zk_PT zk_CT zk_RT zk_tab 99999 200 zm_law [zl_en] zl_s 36 22 = true := by decide +kernel
theorem zl_c36_23 : zl_case zk_PT zk_CT zk_RT zk_tab 99999 200 zm_law [zl_en] zl_s 36 23 = true := by decide +kernel
theorem zl_c36_24 : zl_case zk_PT zk_CT zk_RT zk_tab 99999 200 zm_law [zl_en] zl_s 36 24 = true := by decide +kernel
theorem zl_c36_25 : zl_case zk_PT zk_CT zk_RT zk_tab 99999 200 zm_law [zl_en] zl_s 36 25 = true := by decide +kernel
end
