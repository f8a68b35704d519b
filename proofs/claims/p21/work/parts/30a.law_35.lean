noncomputable section
theorem zl_v35 : zl_way zk_PT zk_CT zk_RT zk_tab 100000 200 zm_law [zl_en] zl_s 35 = true := by decide +kernel
theorem zl_v36 : zl_way zk_PT zk_CT zk_RT zk_tab 100000 200 zm_law [zl_en] zl_s 36 = true := by decide +kernel
theorem zl_v37 : zl_way zk_PT zk_CT zk_RT zk_tab 100000 200 zm_law [zl_en] zl_s 37 = true := by decide +kernel
theorem zl_c38_0 : zl_case zk_PT zk_CT zk_RT zk_tab 99999 200 zm_law [zl_en] zl_s 38 0 = true := by decide +kernel
theorem zl_c38_1 : zl_case zk_PT zk_CT zk_RT zk_tab 99999 200 zm_law [zl_en] zl_s 38 1 = true := by decide +kernel
theorem zl_c38_2 : zl_case zk_PT zk_CT zk_RT zk_tab 99999 200 zm_law [zl_en] zl_s 38 2 = true := by decide +kernel
end
