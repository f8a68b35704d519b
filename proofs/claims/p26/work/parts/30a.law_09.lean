noncomputable section
theorem zl_c4_5_8 : zl_ob zk_PT zk_CT zk_RT zk_tab 200 zm_law [zl_en] (zl_kid zk_PT zk_CT zk_RT zk_tab 200 zm_law 16 99982 8 (zl_cas zk_RT zk_tab zm_law zl_s 99999 4 5)) = true := by decide +kernel
theorem zl_c4_5_9 : zl_ob zk_PT zk_CT zk_RT zk_tab 200 zm_law [zl_en] (zl_kid zk_PT zk_CT zk_RT zk_tab 200 zm_law 16 99982 9 (zl_cas zk_RT zk_tab zm_law zl_s 99999 4 5)) = true := by decide +kernel
theorem zl_c4_5 : zl_case zk_PT zk_CT zk_RT zk_tab 99999 200 zm_law [zl_en] zl_s 4 5 = true := zl_bs (zl_bk (n := 16) (k := 99982) zl_c4_5n fun t ht => match t, ht with
  | 0, _ => zl_c4_5_0
  | 1, _ => zl_c4_5_1
  | 2, _ => zl_c4_5_2
  | 3, _ => zl_c4_5_3
  | 4, _ => zl_c4_5_4
  | 5, _ => zl_c4_5_5
  | 6, _ => zl_c4_5_6
  | 7, _ => zl_c4_5_7
  | 8, _ => zl_c4_5_8
  | 9, _ => zl_c4_5_9
  | n + 10, h => absurd h (Nat.not_lt.mpr (Nat.le_add_left 10 n)))
end
