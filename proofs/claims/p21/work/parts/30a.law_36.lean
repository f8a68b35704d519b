noncomputable section
theorem zl_c38_3 : zl_case zk_PT zk_CT zk_RT zk_tab 99999 200 zm_law [zl_en] zl_s 38 3 = true := by decide +kernel
theorem zl_c38_4 : zl_case zk_PT zk_CT zk_RT zk_tab 99999 200 zm_law [zl_en] zl_s 38 4 = true := by decide +kernel
theorem zl_c38_5 : zl_case zk_PT zk_CT zk_RT zk_tab 99999 200 zm_law [zl_en] zl_s 38 5 = true := by decide +kernel
theorem zl_c38_6 : zl_case zk_PT zk_CT zk_RT zk_tab 99999 200 zm_law [zl_en] zl_s 38 6 = true := by decide +kernel
theorem zl_c38_7 : zl_case zk_PT zk_CT zk_RT zk_tab 99999 200 zm_law [zl_en] zl_s 38 7 = true := by decide +kernel
theorem zl_n38 : zl_cn zk_RT zk_tab zm_law zl_s 38 8 = true := by decide +kernel
theorem zl_v38 : zl_way zk_PT zk_CT zk_RT zk_tab 100000 200 zm_law [zl_en] zl_s 38 = true := zl_byc (k := 99999) zl_n38 fun i hi => match i, hi with
  | 0, _ => zl_c38_0
  | 1, _ => zl_c38_1
  | 2, _ => zl_c38_2
  | 3, _ => zl_c38_3
  | 4, _ => zl_c38_4
  | 5, _ => zl_c38_5
  | 6, _ => zl_c38_6
  | 7, _ => zl_c38_7
  | n + 8, h => absurd h (Nat.not_lt.mpr (Nat.le_add_left 8 n))
end
