noncomputable section
theorem zl_v15 : zl_way zk_PT zk_CT zk_RT zk_tab 100000 200 zm_law [zl_en] zl_s 15 = true := by decide +kernel
theorem zl_v16 : zl_way zk_PT zk_CT zk_RT zk_tab 100000 200 zm_law [zl_en] zl_s 16 = true := by decide +kernel
theorem zl_v17 : zl_way zk_PT zk_CT zk_RT zk_tab 100000 200 zm_law [zl_en] zl_s 17 = true := by decide +kernel
theorem zl_v18 : zl_way zk_PT zk_CT zk_RT zk_tab 100000 200 zm_law [zl_en] zl_s 18 = true := by decide +kernel
end
