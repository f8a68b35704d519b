noncomputable section
theorem zl_c24_4 : zl_case zk_PT zk_CT zk_RT zk_tab 99999 200 zm_law [zl_en] zl_s 24 4 = true := by decide +kernel
end
