noncomputable section
theorem zl_c21_6 : zl_case zk_PT zk_CT zk_RT zk_tab 99999 200 zm_law [zl_en] zl_s 21 6 = true := by decide +kernel
theorem zl_c21_7 : zl_case zk_PT zk_CT zk_RT zk_tab 99999 200 zm_law [zl_en] zl_s 21 7 = true := by decide +kernel
theorem zl_n21 : zl_cn zk_RT zk_tab zm_law zl_s 21 8 = true := by decide +kernel
theorem zl_v21 : zl_way zk_PT zk_CT zk_RT zk_tab 100000 200 zm_law [zl_en] zl_s 21 = true := zl_byc (k := 99999) zl_n21 fun i hi => match i, hi with
  | 0, _ => zl_c21_0
  | 1, _ => zl_c21_1
  | 2, _ => zl_c21_2
  | 3, _ => zl_c21_3
  | 4, _ => zl_c21_4
  | 5, _ => zl_c21_5
  | 6, _ => zl_c21_6
  | 7, _ => zl_c21_7
  | n + 8, h => absurd h (Nat.not_lt.mpr (Nat.le_add_left 8 n))
theorem zl_v22 : zl_way zk_PT zk_CT zk_RT zk_tab 100000 200 zm_law [zl_en] zl_s 22 = true := by decide +kernel
theorem zl_v23 : zl_way zk_PT zk_CT zk_RT zk_tab 100000 200 zm_law [zl_en] zl_s 23 = true := by decide +kernel
theorem zl_v24 : zl_way zk_PT zk_CT zk_RT zk_tab 100000 200 zm_law [zl_en] zl_s 24 = true := by decide +kernel
end
