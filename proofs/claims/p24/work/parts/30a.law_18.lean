noncomputable section
theorem zl_c22_5 : zl_case zk_PT zk_CT zk_RT zk_tab 99999 200 zm_law [zl_en] zl_s 22 5 = true := by decide +kernel
theorem zl_c22_6 : zl_case zk_PT zk_CT zk_RT zk_tab 99999 200 zm_law [zl_en] zl_s 22 6 = true := by decide +kernel
theorem zl_c22_7 : zl_case zk_PT zk_CT zk_RT zk_tab 99999 200 zm_law [zl_en] zl_s 22 7 = true := by decide +kernel
theorem zl_n22 : zl_cn zk_RT zk_tab zm_law zl_s 22 8 = true := by decide +kernel
theorem zl_v22 : zl_way zk_PT zk_CT zk_RT zk_tab 100000 200 zm_law [zl_en] zl_s 22 = true := zl_byc (k := 99999) zl_n22 fun i hi => match i, hi with
  | 0, _ => zl_c22_0
  | 1, _ => zl_c22_1
  | 2, _ => zl_c22_2
  | 3, _ => zl_c22_3
  | 4, _ => zl_c22_4
  | 5, _ => zl_c22_5
  | 6, _ => zl_c22_6
  | 7, _ => zl_c22_7
  | n + 8, h => absurd h (Nat.not_lt.mpr (Nat.le_add_left 8 n))
theorem zl_v23 : zl_way zk_PT zk_CT zk_RT zk_tab 100000 200 zm_law [zl_en] zl_s 23 = true := by decide +kernel
theorem zl_v24 : zl_way zk_PT zk_CT zk_RT zk_tab 100000 200 zm_law [zl_en] zl_s 24 = true := by decide +kernel
end
