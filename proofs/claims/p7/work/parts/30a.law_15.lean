noncomputable section
theorem zl_c5_4 : zl_case zk_PT zk_CT zk_RT zk_tab 99999 200 zm_law [zl_en] zl_s 5 4 = true := by decide +kernel
theorem zl_c5_5 : zl_case zk_PT zk_CT zk_RT zk_tab 99999 200 zm_law [zl_en] zl_s 5 5 = true := by decide +kernel
theorem zl_c5_6 : zl_case zk_PT zk_CT zk_RT zk_tab 99999 200 zm_law [zl_en] zl_s 5 6 = true := by decide +kernel
theorem zl_c5_7 : zl_case zk_PT zk_CT zk_RT zk_tab 99999 200 zm_law [zl_en] zl_s 5 7 = true := by decide +kernel
theorem zl_c5_8 : zl_case zk_PT zk_CT zk_RT zk_tab 99999 200 zm_law [zl_en] zl_s 5 8 = true := by decide +kernel
theorem zl_c5_9 : zl_case zk_PT zk_CT zk_RT zk_tab 99999 200 zm_law [zl_en] zl_s 5 9 = true := by decide +kernel
end
