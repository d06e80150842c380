set_option maxRecDepth 100000 in
theorem pObjC : Cond.code Lib.objectInit ⟨#[0xb1]⟩ 1 none ∈ pG0 := pHas 1 23 rfl rfl
theorem pON_mh : ∀ x ∈ pON, x ≠ "java/lang/invoke/MethodHandle" ∧ x ≠ "java/lang/invoke/VarHandle" := by decide +kernel
