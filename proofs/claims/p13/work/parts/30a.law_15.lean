noncomputable section
theorem zl_v9 : zl_way zk_PT zk_CT zk_RT zk_tab 100000 200 zm_law [zl_en] zl_s 9 = true := by decide +kernel
theorem zl_v10 : zl_way zk_PT zk_CT zk_RT zk_tab 100000 200 zm_law [zl_en] zl_s 10 = true := by decide +kernel
theorem zl_c11_0 : zl_case zk_PT zk_CT zk_RT zk_tab 99999 200 zm_law [zl_en] zl_s 11 0 = true := by decide +kernel
theorem zl_c11_1 : zl_case zk_PT zk_CT zk_RT zk_tab 99999 200 zm_law [zl_en] zl_s 11 1 = true := by decide +kernel
theorem zl_c11_2 : zl_case zk_PT zk_CT zk_RT zk_tab 99999 200 zm_law [zl_en] zl_s 11 2 = true := by decide +kernel
theorem zl_c11_3 : zl_case zk_PT zk_CT zk_RT zk_tab 99999 200 zm_law [zl_en] zl_s 11 3 = true := by decide +kernel
end
