noncomputable section
theorem zl_c39_6 : zl_case zk_PT zk_CT zk_RT zk_tab 99999 200 zm_law [zl_en] zl_s 39 6 = true := by decide +kernel
theorem zl_c39_7 : zl_case zk_PT zk_CT zk_RT zk_tab 99999 200 zm_law [zl_en] zl_s 39 7 = true := by decide +kernel
theorem zl_n39 : zl_cn zk_RT zk_tab zm_law zl_s 39 8 = true := by decide +kernel
theorem zl_v39 : zl_way zk_PT zk_CT zk_RT zk_tab 100000 200 zm_law [zl_en] zl_s 39 = true := zl_byc (k := 99999) zl_n39 fun i hi => match i, hi with
  | 0, _ => zl_c39_0
  | 1, _ => zl_c39_1
  | 2, _ => zl_c39_2
  | 3, _ => zl_c39_3
  | 4, _ => zl_c39_4
  | 5, _ => zl_c39_5
  | 6, _ => zl_c39_6
  | 7, _ => zl_c39_7
  | n + 8, h => absurd h (Nat.not_lt.mpr (Nat.le_add_left 8 n))
theorem zl_v41 : zl_way zk_PT zk_CT zk_RT zk_tab 100000 200 zm_law [zl_en] zl_s 41 = true := by decide +kernel
theorem zl_v43 : zl_way zk_PT zk_CT zk_RT zk_tab 100000 200 zm_law [zl_en] zl_s 43 = true := by decide +kernel
theorem zl_v44 : zl_way zk_PT zk_CT zk_RT zk_tab 100000 200 zm_law [zl_en] zl_s 44 = true := by decide +kernel
end
