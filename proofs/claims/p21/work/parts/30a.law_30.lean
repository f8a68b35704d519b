noncomputable section
theorem zl_c19_0_12 : zl_ob zk_PT zk_CT zk_RT zk_tab 200 zm_law [zl_en] (zl_kid zk_PT zk_CT zk_RT zk_tab 200 zm_law 16 99982 12 (zl_cas zk_RT zk_tab zm_law zl_s 99999 19 0)) = true := by decide +kernel
theorem zl_c19_0 : zl_case zk_PT zk_CT zk_RT zk_tab 99999 200 zm_law [zl_en] zl_s 19 0 = true := zl_bs (zl_bk (n := 16) (k := 99982) zl_c19_0n fun t ht => match t, ht with
  | 0, _ => zl_c19_0_0
  | 1, _ => zl_c19_0_1
  | 2, _ => zl_c19_0_2
  | 3, _ => zl_c19_0_3
  | 4, _ => zl_c19_0_4
  | 5, _ => zl_c19_0_5
  | 6, _ => zl_c19_0_6
  | 7, _ => zl_c19_0_7
  | 8, _ => zl_c19_0_8
  | 9, _ => zl_c19_0_9
  | 10, _ => zl_c19_0_10
  | 11, _ => zl_c19_0_11
  | 12, _ => zl_c19_0_12
  | n + 13, h => absurd h (Nat.not_lt.mpr (Nat.le_add_left 13 n)))
end
