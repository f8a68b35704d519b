noncomputable section
theorem zl_B0 : zl_exs zk_PT zk_CT zk_RT zk_tab 100000 200 zm_law [zl_en] zl_s 46 = true := by decide +kernel
end
