noncomputable section
theorem zl_c38_0 : zl_case zk_PT zk_CT zk_RT zk_tab 99999 200 zm_law [zl_en] zl_s 38 0 = true := by decide +kernel
theorem zl_c38_1 : zl_case zk_PT zk_CT zk_RT zk_tab 99999 200 zm_law [zl_en] zl_s 38 1 = true := by decide +kernel
theorem zl_c38_2 : zl_case zk_PT zk_CT zk_RT zk_tab 99999 200 zm_law [zl_en] zl_s 38 2 = true := by decide +kernel
theorem zl_c38_3 : zl_case zk_PT zk_CT zk_RT zk_tab 99999 200 zm_law [zl_en] zl_s 38 3 = true := by decide +kernel
theorem zl_c38_4 : zl_case zk_PT zk_CT zk_RT zk_tab 99999 200 zm_law [zl_en] zl_s 38 4 = true := by decide +kernel
theorem zl_c38_5 : zl_case zk_PT zk_CT zk_RT zk_tab 99999 200 zm_law [zl_en] zl_s 38 5 = true := by decide +kernel
end
