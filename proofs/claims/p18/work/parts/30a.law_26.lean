noncomputable section
theorem zl_c16_0_8 : zl_ob zk_PT zk_CT zk_RT zk_tab 200 zm_law [zl_en] (zl_kid zk_PT zk_CT zk_RT zk_tab 200 zm_law 11 99987 8 (zl_cas zk_RT zk_tab zm_law zl_s 99999 16 0)) = true := by decide +kernel
theorem zl_c16_0 : zl_case zk_PT zk_CT zk_RT zk_tab 99999 200 zm_law [zl_en] zl_s 16 0 = true := zl_bs (zl_bk (n := 11) (k := 99987) zl_c16_0n fun t ht => match t, ht with
  | 0, _ => zl_c16_0_0
  | 1, _ => zl_c16_0_1
  | 2, _ => zl_c16_0_2
  | 3, _ => zl_c16_0_3
  | 4, _ => zl_c16_0_4
  | 5, _ => zl_c16_0_5
  | 6, _ => zl_c16_0_6
  | 7, _ => zl_c16_0_7
  | 8, _ => zl_c16_0_8
  | n + 9, h => absurd h (Nat.not_lt.mpr (Nat.le_add_left 9 n)))
end
