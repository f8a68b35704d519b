noncomputable section
theorem zl_c4_10 : zl_case zk_PT zk_CT zk_RT zk_tab 99999 200 zm_law [zl_en] zl_s 4 10 = true := by decide +kernel
theorem zl_n4 : zl_cn zk_RT zk_tab zm_law zl_s 4 11 = true := by decide +kernel
theorem zl_v4 : zl_way zk_PT zk_CT zk_RT zk_tab 100000 200 zm_law [zl_en] zl_s 4 = true := zl_byc (k := 99999) zl_n4 fun i hi => match i, hi with
  | 0, _ => zl_c4_0
  | 1, _ => zl_c4_1
  | 2, _ => zl_c4_2
  | 3, _ => zl_c4_3
  | 4, _ => zl_c4_4
  | 5, _ => zl_c4_5
  | 6, _ => zl_c4_6
  | 7, _ => zl_c4_7
  | 8, _ => zl_c4_8
  | 9, _ => zl_c4_9
  | 10, _ => zl_c4_10
  | n + 11, h => absurd h (Nat.not_lt.mpr (Nat.le_add_left 11 n))
theorem zl_v5 : zl_way zk_PT zk_CT zk_RT zk_tab 100000 200 zm_law [zl_en] zl_s 5 = true := by decide +kernel
theorem zl_v6 : zl_way zk_PT zk_CT zk_RT zk_tab 100000 200 zm_law [zl_en] zl_s 6 = true := by decide +kernel
theorem zl_v7 : zl_way zk_PT zk_CT zk_RT zk_tab 100000 200 zm_law [zl_en] zl_s 7 = true := by decide +kernel
theorem zl_v8 : zl_way zk_PT zk_CT zk_RT zk_tab 100000 200 zm_law [zl_en] zl_s 8 = true := by decide +kernel
end
