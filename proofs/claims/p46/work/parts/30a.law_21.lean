noncomputable section
theorem zl_c36_2 : zl_case zk_PT zk_CT zk_RT zk_tab 99999 200 zm_law [zl_en] zl_s 36 2 = true := by decide +kernel
theorem zl_c36_3 : zl_case zk_PT zk_CT zk_RT zk_tab 99999 200 zm_law [zl_en] zl_s 36 3 = true := by decide +kernel
theorem zl_c36_4 : zl_case zk_PT zk_CT zk_RT zk_tab 99999 200 zm_law [zl_en] zl_s 36 4 = true := by decide +kernel
theorem zl_c36_5 : zl_case zk_PT zk_CT zk_RT zk_tab 99999 200 zm_law [zl_en] zl_s 36 5 = true := by decide +kernel
theorem zl_c36_6 : zl_case zk_PT zk_CT zk_RT zk_tab 99999 200 zm_law [zl_en] zl_s 36 6 = true := by decide +kernel
theorem zl_c36_7 : zl_case zk_PT zk_CT zk_RT zk_tab 99999 200 zm_law [zl_en] zl_s 36 7 = true := by decide +kernel
end
