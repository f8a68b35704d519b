def zk_args0 (n : Nat) : Nat → List zk_T
  | 0 => []
  | k + 1 => (0, 0, zk_y n) :: zk_args0 (n + 1) k
/-- a method from the world's state, with an object and ints of any size -/
def zk_z0 (o : Option Nat) (k : Nat) : zk_Z := ((zk_N0.1 + k, (List.range k).map (fun i => (zk_N0.1 + i, -2147483648, 2147483647)) ++ zk_B0, [], zk_G0), zk_hp0, zk_args 0 (match o with
  | some a => (3, a, [], 0) :: zk_args0 zk_N0.1 k
  | none => zk_args0 zk_N0.1 k), [])
def zk_try (f d : Nat) (M : zk_M) (o : Option Nat) (k : Nat) : Option Nat := (zk_run zk_PT zk_tab f d M [] M.2.2.2.2.2.1 (zk_z0 o k)).map List.length
theorem zk_t_boys : (zk_try 3000 50 zm_9 (some 0) 3).isSome = true := by decide +kernel
