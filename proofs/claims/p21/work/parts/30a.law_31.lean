noncomputable section
theorem zl_n19 : zl_cn zk_RT zk_tab zm_law zl_s 19 1 = true := by decide +kernel
theorem zl_v19 : zl_way zk_PT zk_CT zk_RT zk_tab 100000 200 zm_law [zl_en] zl_s 19 = true := zl_byc (k := 99999) zl_n19 fun i hi => match i, hi with
  | 0, _ => zl_c19_0
  | n + 1, h => absurd h (Nat.not_lt.mpr (Nat.le_add_left 1 n))
theorem zl_v20 : zl_way zk_PT zk_CT zk_RT zk_tab 100000 200 zm_law [zl_en] zl_s 20 = true := by decide +kernel
theorem zl_v21 : zl_way zk_PT zk_CT zk_RT zk_tab 100000 200 zm_law [zl_en] zl_s 21 = true := by decide +kernel
theorem zl_v22 : zl_way zk_PT zk_CT zk_RT zk_tab 100000 200 zm_law [zl_en] zl_s 22 = true := by decide +kernel
theorem zl_v23 : zl_way zk_PT zk_CT zk_RT zk_tab 100000 200 zm_law [zl_en] zl_s 23 = true := by decide +kernel
theorem zl_v24 : zl_way zk_PT zk_CT zk_RT zk_tab 100000 200 zm_law [zl_en] zl_s 24 = true := by decide +kernel
end
