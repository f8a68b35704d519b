noncomputable section
theorem zl_v45 : zl_way zk_PT zk_CT zk_RT zk_tab 100000 200 zm_law [zl_en] zl_s 45 = true := by decide +kernel
end
