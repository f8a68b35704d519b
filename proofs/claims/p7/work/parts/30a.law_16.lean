noncomputable section
theorem zl_c5_10 : zl_case zk_PT zk_CT zk_RT zk_tab 99999 200 zm_law [zl_en] zl_s 5 10 = true := by decide +kernel
theorem zl_c5_11 : zl_case zk_PT zk_CT zk_RT zk_tab 99999 200 zm_law [zl_en] zl_s 5 11 = true := by decide +kernel
theorem zl_c5_12 : zl_case zk_PT zk_CT zk_RT zk_tab 99999 200 zm_law [zl_en] zl_s 5 12 = true := by decide +kernel
theorem zl_n5 : zl_cn zk_RT zk_tab zm_law zl_s 5 13 = true := by decide +kernel
theorem zl_v5 : zl_way zk_PT zk_CT zk_RT zk_tab 100000 200 zm_law [zl_en] zl_s 5 = true := zl_byc (k := 99999) zl_n5 fun i hi => match i, hi with
  | 0, _ => zl_c5_0
  | 1, _ => zl_c5_1
  | 2, _ => zl_c5_2
  | 3, _ => zl_c5_3
  | 4, _ => zl_c5_4
  | 5, _ => zl_c5_5
  | 6, _ => zl_c5_6
  | 7, _ => zl_c5_7
  | 8, _ => zl_c5_8
  | 9, _ => zl_c5_9
  | 10, _ => zl_c5_10
  | 11, _ => zl_c5_11
  | 12, _ => zl_c5_12
  | n + 13, h => absurd h (Nat.not_lt.mpr (Nat.le_add_left 13 n))
theorem zl_v6 : zl_way zk_PT zk_CT zk_RT zk_tab 100000 200 zm_law [zl_en] zl_s 6 = true := by decide +kernel
theorem zl_v7 : zl_way zk_PT zk_CT zk_RT zk_tab 100000 200 zm_law [zl_en] zl_s 7 = true := by decide +kernel
end
