noncomputable section
theorem zl_c36_38 : zl_case zk_PT zk_CT zk_RT zk_tab 99999 200 zm_law [zl_en] zl_s 36 38 = true := by decide +kernel
theorem zl_c36_39 : zl_case zk_PT zk_CT zk_RT zk_tab 99999 200 zm_law [zl_en] zl_s 36 39 = true := by decide +kernel
theorem zl_c36_40 : zl_case zk_PT zk_CT zk_RT zk_tab 99999 200 zm_law [zl_en] zl_s 36 40 = true := by decide +kernel
theorem zl_c36_41 : zl_case zk_PT zk_CT zk_RT zk_tab 99999 200 zm_law [zl_en] zl_s 36 41 = true := by decide +kernel
theorem zl_c36_42 : zl_case zk_PT zk_CT zk_RT zk_tab 99999 200 zm_law [zl_en] zl_s 36 42 = true := by decide +kernel
theorem zl_c36_43 : zl_case zk_PT zk_CT zk_RT zk_tab 99999 200 zm_law [zl_en] zl_s 36 43 = true := by decide +kernel
end
