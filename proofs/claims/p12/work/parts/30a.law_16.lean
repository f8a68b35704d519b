noncomputable section
theorem zl_c10_5 : zl_case zk_PT zk_CT zk_RT zk_tab 99999 200 zm_law [zl_en] zl_s 10 5 = true := by decide +kernel
theorem zl_c10_6 : zl_case zk_PT zk_CT zk_RT zk_tab 99999 200 zm_law [zl_en] zl_s 10 6 = true := by decide +kernel
theorem zl_c10_7 : zl_case zk_PT zk_CT zk_RT zk_tab 99999 200 zm_law [zl_en] zl_s 10 7 = true := by decide +kernel
theorem zl_n10 : zl_cn zk_RT zk_tab zm_law zl_s 10 8 = true := by decide +kernel
theorem zl_v10 : zl_way zk_PT zk_CT zk_RT zk_tab 100000 200 zm_law [zl_en] zl_s 10 = true := zl_byc (k := 99999) zl_n10 fun i hi => match i, hi with
  | 0, _ => zl_c10_0
  | 1, _ => zl_c10_1
  | 2, _ => zl_c10_2
  | 3, _ => zl_c10_3
  | 4, _ => zl_c10_4
  | 5, _ => zl_c10_5
  | 6, _ => zl_c10_6
  | 7, _ => zl_c10_7
  | n + 8, h => absurd h (Nat.not_lt.mpr (Nat.le_add_left 8 n))
theorem zl_v11 : zl_way zk_PT zk_CT zk_RT zk_tab 100000 200 zm_law [zl_en] zl_s 11 = true := by decide +kernel
theorem zl_v12 : zl_way zk_PT zk_CT zk_RT zk_tab 100000 200 zm_law [zl_en] zl_s 12 = true := by decide +kernel
end
