noncomputable section
theorem zl_v15 : zl_way zk_PT zk_CT zk_RT zk_tab 100000 200 zm_law [zl_en] zl_s 15 = true := by decide +kernel
end
