noncomputable section
/-- a sum that two known ones give, told by itself -/
def zk_rF (cf : zk_Z → Option zk_V) : zk_Rl := fun z => match cf z with
  | some d => match zk_n2 z.1 d && zk_svB z.1.1 d with
    | true => some [zk_addF z.1 d]
    | false => some [z.1]
  | none => none
theorem zk_rF_ok (cf : zk_Z → Option zk_V) : zk_Rok (zk_rF cf) := by
  refine zk_Rs_ok fun z L hz E h hc hcs hl hs => ?_
  unfold zk_rF at hz
  split at hz
  · rename_i d hd
    split at hz
    · rename_i e
      cases hz
      simp only [Bool.and_eq_true] at e
      exact ⟨_, List.mem_cons_self, zk_addF_ok h (zk_n2_ok h e.1), zk_addF_cl hc (zk_svB_of e.2), rfl⟩
    · cases hz
      exact ⟨_, List.mem_cons_self, h, hc, rfl⟩
  · cases hz
/-- here, less twice the lines that were before (61 less than local 1) -/
def zk_hl2 (z : zk_Z) : Option zk_V := match zk_intf z 22, zk_locv z 1 with
  | some h, some k => some (zk_vadd (zk_vsub h (zk_vmul 2 k)) (zk_c 121))
  | _, _ => none
/-- reads of the row before, at other places -/
def zk_erd (N : zk_N) (g : Nat) (r : Nat × zk_V × zk_V) : zk_G → List zk_G
  | (1, [f], [k, w]) => match Nat.beq f r.1 && zk_n2 N k && zk_n2 N r.2.1 && (zk_n2 N (zk_vsub (zk_vsub k r.2.1) (zk_c 1)) || zk_n2 N (zk_vsub (zk_vsub r.2.1 k) (zk_c 1))) with
    | true => [(1, [g], [k, w])]
    | false => []
  | _ => []
def zk_rrd (j : Nat) : zk_Rl := fun z => match zk_rowf z j with
  | some g => match zk_sto g z.1.2.2.2 with
    | some r => some [zk_addGs z.1 (zk_fm (zk_erd z.1 g r) z.1.2.2.2)]
    | none => none
  | none => none
theorem zk_rrd_ok (j : Nat) : zk_Rok (zk_rrd j) := by
  refine zk_Rs_ok fun z L hz E h hc hcs hl hs => ?_
  unfold zk_rrd at hz
  split at hz
  · rename_i g hg
    split at hz
    · rename_i r hr
      cases hz
      refine ⟨_, List.mem_cons_self, ?_⟩
      rw [← and_assoc]
      refine ⟨zk_addGs_ok h hc fun x hx => ?_, rfl⟩
      obtain ⟨g0, hg0, hd⟩ := zk_fm_mem hx
      unfold zk_erd at hd
      split at hd
      · rename_i f k w
        split at hd
        · rename_i e
          simp only [Bool.and_eq_true, Bool.or_eq_true] at e
          obtain ⟨⟨⟨e1, e2⟩, e3⟩, e4⟩ := e
          have e1 := Nat.eq_of_beq_eq_true e1
          subst e1
          have e2 := zk_n2_ok h e2
          have e3 := zk_n2_ok h e3
          have hne : zk_i E k ≠ zk_i E r.2.1 := by
            rcases e4 with e4 | e4
            · have := zk_n2_ok h e4
              rw [zk_vsub_i, zk_vsub_i, zk_c_i] at this
              omega
            · have := zk_n2_ok h e4
              rw [zk_vsub_i, zk_vsub_i, zk_c_i] at this
              omega
          obtain ⟨q1, q2, q3⟩ := zk_old_good h hc hg0
          have q1 : E.2 r.1 (zk_i E k).toNat = zk_i E w := q1
          rw [List.mem_singleton.mp hd]
          refine ⟨?_, fun a ha => by rw [List.mem_singleton.mp ha]; exact zk_rowf_lt hcs hg, q3⟩
          show E.2 g (zk_i E k).toNat = zk_i E w
          rw [zk_sto_i h hr]
          simp only
          rw [if_neg (by omega)]
          exact q1
        · cases hd
      · cases hd
    · cases hz
  · cases hz
end
