noncomputable section
theorem zl_v0 : zl_way zk_PT zk_CT zk_RT zk_tab 100000 200 zm_law [zl_en] zl_s 0 = true := by decide +kernel
theorem zl_v1 : zl_way zk_PT zk_CT zk_RT zk_tab 100000 200 zm_law [zl_en] zl_s 1 = true := by decide +kernel
theorem zl_v3 : zl_way zk_PT zk_CT zk_RT zk_tab 100000 200 zm_law [zl_en] zl_s 3 = true := by decide +kernel
theorem zl_c4_0 : zl_case zk_PT zk_CT zk_RT zk_tab 99999 200 zm_law [zl_en] zl_s 4 0 = true := by decide +kernel
end
