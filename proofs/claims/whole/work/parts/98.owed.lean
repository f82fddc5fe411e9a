/-! the relation that all calls keep -/
theorem whole_owed : ∃ (fu : Nat) (R : Mm → Prop), f_SR_init fu (fun M1 => f_Md_init fu R 145 M1) 0 (fun _ _ => 0) ∧ op_all fu R := by
  have hf : 1300 ≤ 1300 := Nat.le_refl _
  exact ⟨1300, JR, init_ok hf, op_k0, op_k1, op_k2 hf, op_k3 hf, op_k4 hf, op_k5 hf, op_k6 hf, op_k7 hf, op_k8 hf, op_k9 hf, op_k10 hf, op_k11, op_k12, op_k13 hf, op_k14, op_k15, op_k16 hf, op_k17 hf, op_k18 hf, op_k19 hf, op_k20 hf, op_k21 hf, op_k22 hf, op_k23 hf, op_k24 hf, op_k25 hf, op_k26 hf, op_k27 hf, op_k28 hf, op_k29 hf, op_k30 hf, op_k31⟩
