noncomputable section
theorem zl_c4_8 : zl_case zk_PT zk_CT zk_RT zk_tab 99999 200 zm_law [zl_en] zl_s 4 8 = true := by decide +kernel
end
