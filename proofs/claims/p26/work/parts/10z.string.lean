noncomputable section
/-! THE STRING CONSTANT: what its indexOf answers -/
def zk_str (st : Nat → Nat) (ba : Nat) (U : State) : Prop := vk_R "NightLetIn$Reader" 57 "abltnd" (st 7) U ∧ vk_S 1 [6] [[97, 98, 108, 116, 110, 100]] (fun _ => st 7) (fun _ => st 8) (fun q => ba ≤ q) U U.heap ∧ va_Z "java/lang/String" "COMPACT_STRINGS" "Z" (.int 1) (fun q => ba ≤ q) U U.heap
theorem zk_str_mv {st : Nat → Nat} {ba : Nat} {s U : State} (h : zk_str st ba s) (hW : s.WarmedH U.vm) (hH : ∀ q : Nat, q < s.heap.size → ¬ ba ≤ q → U.heap[q]? = s.heap[q]?) : zk_str st ba U :=
  ⟨vk_R.warm hW h.1, vk_S.moved hW.alike (h.2.1.kept hH), va_Z.moved hW.alike (h.2.2.kept hH)⟩
theorem zk_str_call {st : Nat → Nat} {ba : Nat} {U : State} {g : JFrame} {mk : MethodId} {a : Array Value} (h : zk_str st ba U) : zk_str st ba (U.calling g mk a) :=
  ⟨vk_R.same (u := U) (U := U.calling g mk a) rfl h.1, vk_S.moved (u := U) (U := U.calling g mk a) (Vm.Alike.refl U.vm) h.2.1, va_Z.moved (u := U) (U := U.calling g mk a) (Vm.Alike.refl U.vm) h.2.2⟩
def zk_mS (n d : String) : MethodName := { cls := "java/lang/String", name := n, desc := d }
def zk_mL (n d : String) : MethodName := { cls := "java/lang/StringLatin1", name := n, desc := d }
def zk_cCd : Cond := .code (zk_mS "coder" "()B") prog_18_method_152_code 1 (some .byte)
def zk_cIl : Cond := .code (zk_mS "isLatin1" "()Z") prog_18_method_154_code 1 (some .boolean)
def zk_cLn : Cond := .code (zk_mS "length" "()I") prog_18_method_54_code 1 (some .int)
def zk_cCe : Cond := .code (zk_mL "canEncode" "(I)Z") prog_19_method_4_code 1 (some .boolean)
def zk_cIc : Cond := .code (zk_mL "indexOfChar" "([BIII)I") prog_19_method_23_code 6 (some .int)
def zk_cLi : Cond := .code (zk_mL "indexOf" "([BIII)I") prog_19_method_22_code 4 (some .int)
def zk_cI2 : Cond := .code (zk_mS "indexOf" "(II)I") prog_18_method_80_code 3 (some .int)
def zk_cI1 : Cond := .code (zk_mS "indexOf" "(I)I") prog_18_method_79_code 2 (some .int)
/-- the words that it takes -/
def zk_sw : List Cond := [.initialized "java/lang/String", .initialized "java/lang/StringLatin1", .initialized "java/lang/Math",
  .fieldLink "java/lang/String" 38 "java/lang/String" "COMPACT_STRINGS" "Z", .fieldLink "java/lang/String" 15 "java/lang/String" "coder" "B", .fieldLink "java/lang/String" 9 "java/lang/String" "value" "[B",
  zk_cCd, .methodLink "java/lang/String" 335 (zk_mS "coder" "()B"), .instanceMethod (zk_mS "coder" "()B"), .selects "java/lang/String" (zk_mS "coder" "()B") (zk_mS "coder" "()B"),
  zk_cIl, .methodLink "java/lang/String" 492 (zk_mS "isLatin1" "()Z"), .instanceMethod (zk_mS "isLatin1" "()Z"), .selects "java/lang/String" (zk_mS "isLatin1" "()Z") (zk_mS "isLatin1" "()Z"),
  zk_cLn, .methodLink "java/lang/String" 505 (zk_mS "length" "()I"), .instanceMethod (zk_mS "length" "()I"), .selects "java/lang/String" (zk_mS "length" "()I") (zk_mS "length" "()I"),
  zk_cCe, .methodLink "java/lang/StringLatin1" 88 (zk_mL "canEncode" "(I)Z"), .static (zk_mL "canEncode" "(I)Z"),
  zk_cIc, .methodLink "java/lang/StringLatin1" 95 (zk_mL "indexOfChar" "([BIII)I"), .static (zk_mL "indexOfChar" "([BIII)I"),
  zk_cLi, .methodLink "java/lang/String" 637 (zk_mL "indexOf" "([BIII)I"), .static (zk_mL "indexOf" "([BIII)I"),
  .methodLink "java/lang/StringLatin1" 92 Lib.Math.max.name, .static Lib.Math.max.name, .code Lib.Math.max.name Lib.Math.max.code 2 (some .int),
  .methodLink "java/lang/StringLatin1" 38 Lib.Math.min.name, .static Lib.Math.min.name, .code Lib.Math.min.name Lib.Math.min.code 2 (some .int),
  zk_cI2, .methodLink "java/lang/String" 633 (zk_mS "indexOf" "(II)I"), .instanceMethod (zk_mS "indexOf" "(II)I"), .selects "java/lang/String" (zk_mS "indexOf" "(II)I") (zk_mS "indexOf" "(II)I"),
  zk_cI1, .methodLink "NightLetIn$Reader" 59 (zk_mS "indexOf" "(I)I"), .instanceMethod (zk_mS "indexOf" "(I)I"), .selects "java/lang/String" (zk_mS "indexOf" "(I)I") (zk_mS "indexOf" "(I)I")]
end
