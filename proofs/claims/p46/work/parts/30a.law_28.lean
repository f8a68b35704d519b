noncomputable section
theorem zl_c36_44 : zl_case zk_PT zk_CT zk_RT zk_tab 99999 200 zm_law [zl_en] zl_s 36 44 = true := by decide +kernel
theorem zl_c36_45 : zl_case zk_PT zk_CT zk_RT zk_tab 99999 200 zm_law [zl_en] zl_s 36 45 = true := by decide +kernel
theorem zl_c36_46 : zl_case zk_PT zk_CT zk_RT zk_tab 99999 200 zm_law [zl_en] zl_s 36 46 = true := by decide +kernel
theorem zl_c36_47 : zl_case zk_PT zk_CT zk_RT zk_tab 99999 200 zm_law [zl_en] zl_s 36 47 = true := by decide +kernel
theorem zl_n36 : zl_cn zk_RT zk_tab zm_law zl_s 36 48 = true := by decide +kernel
theorem zl_v36 : zl_way zk_PT zk_CT zk_RT zk_tab 100000 200 zm_law [zl_en] zl_s 36 = true := zl_byc (k := 99999) zl_n36 fun i hi => match i, hi with
  | 0, _ => zl_c36_0
  | 1, _ => zl_c36_1
  | 2, _ => zl_c36_2
  | 3, _ => zl_c36_3
  | 4, _ => zl_c36_4
  | 5, _ => zl_c36_5
  | 6, _ => zl_c36_6
  | 7, _ => zl_c36_7
  | 8, _ => zl_c36_8
  | 9, _ => zl_c36_9
  | 10, _ => zl_c36_10
  | 11, _ => zl_c36_11
  | 12, _ => zl_c36_12
  | 13, _ => zl_c36_13
  | 14, _ => zl_c36_14
  | 15, _ => zl_c36_15
  | 16, _ => zl_c36_16
  | 17, _ => zl_c36_17
  | 18, _ => zl_c36_18
  | 19, _ => zl_c36_19
  | 20, _ => zl_c36_20
  | 21, _ => zl_c36_21
  | 22, _ => zl_c36_22
  | 23, _ => zl_c36_23
  | 24, _ => zl_c36_24
  | 25, _ => zl_c36_25
  | 26, _ => zl_c36_26
  | 27, _ => zl_c36_27
  | 28, _ => zl_c36_28
  | 29, _ => zl_c36_29
  | 30, _ => zl_c36_30
  | 31, _ => zl_c36_31
  | 32, _ => zl_c36_32
  | 33, _ => zl_c36_33
  | 34, _ => zl_c36_34
  | 35, _ => zl_c36_35
  | 36, _ => zl_c36_36
  | 37, _ => zl_c36_37
  | 38, _ => zl_c36_38
  | 39, _ => zl_c36_39
  | 40, _ => zl_c36_40
  | 41, _ => zl_c36_41
  | 42, _ => zl_c36_42
  | 43, _ => zl_c36_43
  | 44, _ => zl_c36_44
  | 45, _ => zl_c36_45
  | 46, _ => zl_c36_46
  | 47, _ => zl_c36_47
  | n + 48, h => absurd h (Nat.not_lt.mpr (Nat.le_add_left 48 n))
theorem zl_v37 : zl_way zk_PT zk_CT zk_RT zk_tab 100000 200 zm_law [zl_en] zl_s 37 = true := by decide +kernel
end
