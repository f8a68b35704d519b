noncomputable section
theorem zl_v34 : zl_way zk_PT zk_CT zk_RT zk_tab 100000 200 zm_law [zl_en] zl_s 34 = true := by decide +kernel
theorem zl_v35 : zl_way zk_PT zk_CT zk_RT zk_tab 100000 200 zm_law [zl_en] zl_s 35 = true := by decide +kernel
theorem zl_v36 : zl_way zk_PT zk_CT zk_RT zk_tab 100000 200 zm_law [zl_en] zl_s 36 = true := by decide +kernel
theorem zl_v37 : zl_way zk_PT zk_CT zk_RT zk_tab 100000 200 zm_law [zl_en] zl_s 37 = true := by decide +kernel
end
