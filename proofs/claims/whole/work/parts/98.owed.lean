theorem whole_owed : ∃ (fu : Nat) (R : Mm → Prop), f_SR_init fu (fun M1 => f_Md_init fu R 145 M1) 0 (fun _ _ => 0) ∧ op_all fu R := sorry
