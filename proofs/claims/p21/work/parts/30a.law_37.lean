noncomputable section
theorem zl_c39_0 : zl_case zk_PT zk_CT zk_RT zk_tab 99999 200 zm_law [zl_en] zl_s 39 0 = true := by decide +kernel
theorem zl_c39_1 : zl_case zk_PT zk_CT zk_RT zk_tab 99999 200 zm_law [zl_en] zl_s 39 1 = true := by decide +kernel
theorem zl_c39_2 : zl_case zk_PT zk_CT zk_RT zk_tab 99999 200 zm_law [zl_en] zl_s 39 2 = true := by decide +kernel
theorem zl_c39_3 : zl_case zk_PT zk_CT zk_RT zk_tab 99999 200 zm_law [zl_en] zl_s 39 3 = true := by decide +kernel
theorem zl_c39_4 : zl_case zk_PT zk_CT zk_RT zk_tab 99999 200 zm_law [zl_en] zl_s 39 4 = true := by decide +kernel
theorem zl_c39_5 : zl_case zk_PT zk_CT zk_RT zk_tab 99999 200 zm_law [zl_en] zl_s 39 5 = true := by decide +kernel
end
