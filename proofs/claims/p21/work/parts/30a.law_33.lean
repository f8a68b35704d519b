noncomputable section
theorem zl_v28 : zl_way zk_PT zk_CT zk_RT zk_tab 100000 200 zm_law [zl_en] zl_s 28 = true := by decide +kernel
theorem zl_v29 : zl_way zk_PT zk_CT zk_RT zk_tab 100000 200 zm_law [zl_en] zl_s 29 = true := by decide +kernel
theorem zl_v30 : zl_way zk_PT zk_CT zk_RT zk_tab 100000 200 zm_law [zl_en] zl_s 30 = true := by decide +kernel
theorem zl_v31 : zl_way zk_PT zk_CT zk_RT zk_tab 100000 200 zm_law [zl_en] zl_s 31 = true := by decide +kernel
theorem zl_v32 : zl_way zk_PT zk_CT zk_RT zk_tab 100000 200 zm_law [zl_en] zl_s 32 = true := by decide +kernel
end
