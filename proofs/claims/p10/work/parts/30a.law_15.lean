noncomputable section
theorem zl_c8_1 : zl_case zk_PT zk_CT zk_RT zk_tab 99999 200 zm_law [zl_en] zl_s 8 1 = true := by decide +kernel
theorem zl_c8_2 : zl_case zk_PT zk_CT zk_RT zk_tab 99999 200 zm_law [zl_en] zl_s 8 2 = true := by decide +kernel
theorem zl_c8_3 : zl_case zk_PT zk_CT zk_RT zk_tab 99999 200 zm_law [zl_en] zl_s 8 3 = true := by decide +kernel
theorem zl_c8_4 : zl_case zk_PT zk_CT zk_RT zk_tab 99999 200 zm_law [zl_en] zl_s 8 4 = true := by decide +kernel
theorem zl_c8_5 : zl_case zk_PT zk_CT zk_RT zk_tab 99999 200 zm_law [zl_en] zl_s 8 5 = true := by decide +kernel
theorem zl_c8_6 : zl_case zk_PT zk_CT zk_RT zk_tab 99999 200 zm_law [zl_en] zl_s 8 6 = true := by decide +kernel
end
