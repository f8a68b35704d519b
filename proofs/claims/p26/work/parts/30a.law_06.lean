noncomputable section
theorem zl_c4_5n : zl_kidn zk_PT zk_CT zk_RT zk_tab 200 zm_law 16 99982 10 (zl_cas zk_RT zk_tab zm_law zl_s 99999 4 5) = true := by decide +kernel
theorem zl_c4_5_0 : zl_ob zk_PT zk_CT zk_RT zk_tab 200 zm_law [zl_en] (zl_kid zk_PT zk_CT zk_RT zk_tab 200 zm_law 16 99982 0 (zl_cas zk_RT zk_tab zm_law zl_s 99999 4 5)) = true := by decide +kernel
theorem zl_c4_5_1 : zl_ob zk_PT zk_CT zk_RT zk_tab 200 zm_law [zl_en] (zl_kid zk_PT zk_CT zk_RT zk_tab 200 zm_law 16 99982 1 (zl_cas zk_RT zk_tab zm_law zl_s 99999 4 5)) = true := by decide +kernel
end
