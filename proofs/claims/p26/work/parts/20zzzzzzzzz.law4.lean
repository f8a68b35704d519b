noncomputable section
/-! A ROW'S NUMBER TOLD APART, at a place that the script tells -/
def zk_rsq (cc : Nat) (k lo : Int) (n : Nat) : zk_Rl := fun z => match zk_locv z 3, zk_row z.2.1 (3, cc, [], 0) with
  | some v, some q => match zk_rd z.1 0 (zk_vadd v (zk_c k)) with
    | some r => match zk_rd r.2 q.2.2.2 r.1 with
      | some u => match Nat.blt 0 z.1.1 && Nat.blt q.2.2.2 z.1.1 with
        | true => some ((match zk_asm u.2 (zk_vsub (zk_c (lo - 1)) u.1) with
          | some N' => [N']
          | none => []) ++ zk_spl u.2 u.1 lo n)
        | false => none
      | none => none
    | none => none
  | _, _ => none
theorem zk_rsq_ok (cc : Nat) (k lo : Int) (n : Nat) : zk_Rok (zk_rsq cc k lo n) := by
  intro z L hz E h hc hcs hl hs
  unfold zk_rsq at hz
  split at hz
  · rename_i v q hv hq
    split at hz
    · rename_i r hr
      split at hz
      · rename_i u hu
        split at hz
        · rename_i h0
          simp only [Bool.and_eq_true] at h0
          have h00 := Nat.blt_eq.mp h0.1
          have h01 := Nat.blt_eq.mp h0.2
          cases hz
          have hvs : zk_sv z.1.1 v := by
            unfold zk_locv at hv
            split at hv
            · rename_i t ht
              split at hv
              · cases hv
                exact hl _ (zk_loc_mem ht)
              · cases hv
            · cases hv
          obtain ⟨E1, a1, a2, a3, a4, a5, -⟩ := zk_rd_ok h hc h00 (zk_vadd_sv hvs zk_c_sv) hr
          obtain ⟨E2, c1, c2, c3, c4, c5, -⟩ := zk_rd_ok a2 a3 (Nat.lt_of_lt_of_le h01 a4) a5 hu
          have hag : zk_ag z.1.1 E E2 := zk_ag_tr a1 c1 a4
          by_cases hlt : zk_i E2 u.1 < lo
          · obtain ⟨N', b1, b2⟩ := zk_asm_ok c2 (d := zk_vsub (zk_c (lo - 1)) u.1) (by rw [zk_vsub_i, zk_c_i]; omega)
            obtain ⟨b3, b4⟩ := zk_asm_cl c3 (zk_vsub_sv zk_c_sv c5) b1
            refine ⟨N', List.mem_append_left _ ?_, E2, hag, b2, b3, by rw [b4]; exact Nat.le_trans a4 c4⟩
            rw [b1]
            exact List.mem_cons_self
          · obtain ⟨N', b1, b2, b3, b4⟩ := zk_spl_ok c2 c3 c5 (n := n) (lo := lo) (by omega)
            exact ⟨N', List.mem_append_right _ b1, E2, hag, b2, b3, by rw [b4]; exact Nat.le_trans a4 c4⟩
        · cases hz
      · cases hz
    · cases hz
  · cases hz
end
