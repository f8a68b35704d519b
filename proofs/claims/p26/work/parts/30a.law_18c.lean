noncomputable section
theorem zl_n24 : zl_cn zk_RT zk_tab zm_law zl_s 24 8 = true := by decide +kernel
theorem zl_v24 : zl_way zk_PT zk_CT zk_RT zk_tab 100000 200 zm_law [zl_en] zl_s 24 = true := zl_byc (k := 99999) zl_n24 fun i hi => match i, hi with
  | 0, _ => zl_c24_0
  | 1, _ => zl_c24_1
  | 2, _ => zl_c24_2
  | 3, _ => zl_c24_3
  | 4, _ => zl_c24_4
  | 5, _ => zl_c24_5
  | 6, _ => zl_c24_6
  | 7, _ => zl_c24_7
  | n + 8, h => absurd h (Nat.not_lt.mpr (Nat.le_add_left 8 n))
end
