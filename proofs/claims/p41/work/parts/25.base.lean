def zk_args0 (n : Nat) : Nat → List zk_T
  | 0 => []
  | k + 1 => (0, 0, zk_y n) :: zk_args0 (n + 1) k
/-- a method from the world's state, with an object and ints of any size -/
def zk_z0 (o : Option Nat) (k : Nat) : zk_Z := ((zk_N0.1 + k, (List.range k).map (fun i => (zk_N0.1 + i, -2147483648, 2147483647)) ++ zk_B0, [], zk_G0), zk_hp0, zk_args 0 (match o with
  | some a => (3, a, [], 0) :: zk_args0 zk_N0.1 k
  | none => zk_args0 zk_N0.1 k), [])
def zk_try (f d : Nat) (M : zk_M) (o : Option Nat) (k : Nat) : Option Nat := (zk_run zk_PT [] zk_tab f d M [] M.2.2.2.2.2.1 (zk_z0 o k)).map List.length
/-- the cells that a method may move, told anew with what is always so of them -/
def zk_xg : List (Nat × Nat) → Nat → List zk_C → Option (Nat × zk_B × List zk_G × List zk_C)
  | [], n, hp => some (n, [], [], hp)
  | q :: l, n, hp => match zk_get hp q.1 with
    | some c => match Nat.beq c.1 0 with
      | true => match zk_get c.2.2 q.2 with
        | some t => match t.2.2.1 with
          | [u] => match zk_find zk_B0 u.1, zk_xg l (n + 1) (zk_put (c.1, c.2.1, zk_put (t.1, 0, zk_y n) c.2.2 q.2) hp q.1) with
            | some b, some r => some (r.1, (n, b.1, b.2) :: r.2.1, r.2.2.1, r.2.2.2)
            | _, _ => none
          | _ => none
        | none => none
      | false => match zk_eb (zk_hd c.2.2) zk_G0, zk_xg l (n + 1) (zk_put (c.1, c.2.1, [(0, n, [], 0)]) hp q.1) with
        | some b, some r => some (r.1, r.2.1, (3, [n], [zk_c b.1, zk_c b.2]) :: r.2.2.1, r.2.2.2)
        | _, _ => none
    | none => none
/-- an end of any such cells, with a value of tag tg within bounds -/
def zk_xM (nE : Nat) (ms : List (Nat × Nat)) (tg : Nat) (lo hi : Int) : List zk_Kx := match zk_xg ms (nE + 1) zk_hp0 with
  | some r => [((r.1, (nE, lo, hi) :: r.2.1, [], r.2.2.1), r.2.2.2, some (tg, 0, zk_y nE))]
  | none => []
/-- an end with no value -/
def zk_xV (nE : Nat) (ms : List (Nat × Nat)) : List zk_Kx := match zk_xg ms nE zk_hp0 with
  | some r => [((r.1, r.2.1, [], r.2.2.1), r.2.2.2, none)]
  | none => []
/-- a method from any world that is as it always is, with arguments as, of which bs tells the bounds -/
def zk_Kg (mi d : Nat) (bs : zk_B) (as : List zk_T) (xs : List zk_Kx) : zk_K := (mi, d, (152 + bs.length, bs ++ zk_B0, [], zk_G0), zk_hp0, as, xs)
