noncomputable section
theorem zl_v25 : zl_way zk_PT zk_CT zk_RT zk_tab 100000 200 zm_law [zl_en] zl_s 25 = true := by decide +kernel
theorem zl_v26 : zl_way zk_PT zk_CT zk_RT zk_tab 100000 200 zm_law [zl_en] zl_s 26 = true := by decide +kernel
theorem zl_v27 : zl_way zk_PT zk_CT zk_RT zk_tab 100000 200 zm_law [zl_en] zl_s 27 = true := by decide +kernel
end
