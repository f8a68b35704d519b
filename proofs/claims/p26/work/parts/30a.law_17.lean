noncomputable section
theorem zl_v21 : zl_way zk_PT zk_CT zk_RT zk_tab 100000 200 zm_law [zl_en] zl_s 21 = true := by decide +kernel
theorem zl_v22 : zl_way zk_PT zk_CT zk_RT zk_tab 100000 200 zm_law [zl_en] zl_s 22 = true := by decide +kernel
theorem zl_v23 : zl_way zk_PT zk_CT zk_RT zk_tab 100000 200 zm_law [zl_en] zl_s 23 = true := by decide +kernel
end
