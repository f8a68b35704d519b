noncomputable section
theorem zl_v33 : zl_way zk_PT zk_CT zk_RT zk_tab 100000 200 zm_law [zl_en] zl_s 33 = true := by decide +kernel
theorem zl_v34 : zl_way zk_PT zk_CT zk_RT zk_tab 100000 200 zm_law [zl_en] zl_s 34 = true := by decide +kernel
end
