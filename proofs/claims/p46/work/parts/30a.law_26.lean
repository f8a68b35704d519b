noncomputable section
theorem zl_c36_32 : zl_case zk_PT zk_CT zk_RT zk_tab 99999 200 zm_law [zl_en] zl_s 36 32 = true := by decide +kernel
theorem zl_c36_33 : zl_case zk_PT zk_CT zk_RT zk_tab 99999 200 zm_law [zl_en] zl_s 36 33 = true := by decide +kernel
theorem zl_c36_34 : zl_case zk_PT zk_CT zk_RT zk_tab 99999 200 zm_law [zl_en] zl_s 36 34 = true := by decide +kernel
theorem zl_c36_35 : zl_case zk_PT zk_CT zk_RT zk_tab 99999 200 zm_law [zl_en] zl_s 36 35 = true := by decide +kernel
theorem zl_c36_36 : zl_case zk_PT zk_CT zk_RT zk_tab 99999 200 zm_law [zl_en] zl_s 36 36 = true := by decide +kernel
theorem zl_c36_37 : zl_case zk_PT zk_CT zk_RT zk_tab 99999 200 zm_law [zl_en] zl_s 36 37 = true := by decide +kernel
end
