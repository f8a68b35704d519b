noncomputable section
theorem zl_c19_0_9 : zl_ob zk_PT zk_CT zk_RT zk_tab 200 zm_law [zl_en] (zl_kid zk_PT zk_CT zk_RT zk_tab 200 zm_law 16 99982 9 (zl_cas zk_RT zk_tab zm_law zl_s 99999 19 0)) = true := by decide +kernel
end
