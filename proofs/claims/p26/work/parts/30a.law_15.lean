noncomputable section
theorem zl_v9 : zl_way zk_PT zk_CT zk_RT zk_tab 100000 200 zm_law [zl_en] zl_s 9 = true := by decide +kernel
theorem zl_v10 : zl_way zk_PT zk_CT zk_RT zk_tab 100000 200 zm_law [zl_en] zl_s 10 = true := by decide +kernel
theorem zl_v11 : zl_way zk_PT zk_CT zk_RT zk_tab 100000 200 zm_law [zl_en] zl_s 11 = true := by decide +kernel
theorem zl_v12 : zl_way zk_PT zk_CT zk_RT zk_tab 100000 200 zm_law [zl_en] zl_s 12 = true := by decide +kernel
theorem zl_v13 : zl_way zk_PT zk_CT zk_RT zk_tab 100000 200 zm_law [zl_en] zl_s 13 = true := by decide +kernel
theorem zl_v14 : zl_way zk_PT zk_CT zk_RT zk_tab 100000 200 zm_law [zl_en] zl_s 14 = true := by decide +kernel
end
