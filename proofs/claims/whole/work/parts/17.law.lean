theorem tw_290 : Cond.methodLink RL 13 yX10_appendCharacter ∈ Tk := tk_at 290 (by decide +kernel) rfl
theorem tw_890 : Cond.methodLink RL 17 yX11_appendCharacter ∈ Tk := tk_at 890 (by decide +kernel) rfl
theorem tw_299 : Cond.methodLink RL 18 yX10_clearText ∈ Tk := tk_at 299 (by decide +kernel) rfl
theorem tw_897 : Cond.methodLink RL 22 yX11_clearText ∈ Tk := tk_at 897 (by decide +kernel) rfl
theorem tw_303 : Cond.methodLink RL 23 yX10_loadGrammar ∈ Tk := tk_at 303 (by decide +kernel) rfl
theorem tw_901 : Cond.methodLink RL 26 yX11_loadGrammar ∈ Tk := tk_at 901 (by decide +kernel) rfl
theorem tw_474 : Cond.methodLink RL 27 yX10_appendToken ∈ Tk := tk_at 474 (by decide +kernel) rfl
theorem tw_961 : Cond.methodLink RL 30 yX11_appendToken ∈ Tk := tk_at 961 (by decide +kernel) rfl
theorem tw_489 : Cond.methodLink RL 31 yX10_insertToken ∈ Tk := tk_at 489 (by decide +kernel) rfl
theorem tw_972 : Cond.methodLink RL 35 yX11_insertToken ∈ Tk := tk_at 972 (by decide +kernel) rfl
theorem tw_493 : Cond.methodLink RL 36 yX10_removeToken ∈ Tk := tk_at 493 (by decide +kernel) rfl
theorem tw_973 : Cond.methodLink RL 39 yX11_removeToken ∈ Tk := tk_at 973 (by decide +kernel) rfl
theorem tw_509 : Cond.methodLink RL 40 yX10_clearTokens ∈ Tk := tk_at 509 (by decide +kernel) rfl
theorem tw_981 : Cond.methodLink RL 43 yX11_clearTokens ∈ Tk := tk_at 981 (by decide +kernel) rfl
theorem tw_513 : Cond.methodLink RL 44 yX10_setInsertionCost ∈ Tk := tk_at 513 (by decide +kernel) rfl
theorem tw_985 : Cond.methodLink RL 47 yX11_setInsertionCost ∈ Tk := tk_at 985 (by decide +kernel) rfl
theorem tw_527 : Cond.methodLink RL 48 yX10_setDeletionCost ∈ Tk := tk_at 527 (by decide +kernel) rfl
theorem tw_993 : Cond.methodLink RL 51 yX11_setDeletionCost ∈ Tk := tk_at 993 (by decide +kernel) rfl
theorem tw_531 : Cond.methodLink RL 52 yX10_setReplacementCost ∈ Tk := tk_at 531 (by decide +kernel) rfl
theorem tw_997 : Cond.methodLink RL 55 yX11_setReplacementCost ∈ Tk := tk_at 997 (by decide +kernel) rfl
theorem tw_535 : Cond.methodLink RL 56 yX10_undo ∈ Tk := tk_at 535 (by decide +kernel) rfl
theorem tw_1001 : Cond.methodLink RL 59 yX11_undo ∈ Tk := tk_at 1001 (by decide +kernel) rfl
theorem tw_543 : Cond.methodLink RL 60 yX10_stateCount ∈ Tk := tk_at 543 (by decide +kernel) rfl
theorem tw_1005 : Cond.methodLink RL 63 yX11_stateCount ∈ Tk := tk_at 1005 (by decide +kernel) rfl
theorem tw_547 : Cond.methodLink RL 64 yX10_isAccepting ∈ Tk := tk_at 547 (by decide +kernel) rfl
theorem tw_1009 : Cond.methodLink RL 67 yX11_isAccepting ∈ Tk := tk_at 1009 (by decide +kernel) rfl
theorem tw_555 : Cond.methodLink RL 68 yX10_ruleCount ∈ Tk := tk_at 555 (by decide +kernel) rfl
theorem tw_1013 : Cond.methodLink RL 71 yX11_ruleCount ∈ Tk := tk_at 1013 (by decide +kernel) rfl
theorem tw_563 : Cond.methodLink RL 72 yX10_tokenCount ∈ Tk := tk_at 563 (by decide +kernel) rfl
theorem tw_1017 : Cond.methodLink RL 75 yX11_tokenCount ∈ Tk := tk_at 1017 (by decide +kernel) rfl
theorem tw_567 : Cond.methodLink RL 76 yX10_tokenAt ∈ Tk := tk_at 567 (by decide +kernel) rfl
theorem tw_1021 : Cond.methodLink RL 79 yX11_tokenAt ∈ Tk := tk_at 1021 (by decide +kernel) rfl
theorem tw_572 : Cond.methodLink RL 80 yX10_errorPosition ∈ Tk := tk_at 572 (by decide +kernel) rfl
theorem tw_1025 : Cond.methodLink RL 83 yX11_errorPosition ∈ Tk := tk_at 1025 (by decide +kernel) rfl
theorem tw_603 : Cond.methodLink RL 84 yX10_stateAfter ∈ Tk := tk_at 603 (by decide +kernel) rfl
theorem tw_1045 : Cond.methodLink RL 87 yX11_stateAfter ∈ Tk := tk_at 1045 (by decide +kernel) rfl
theorem tw_611 : Cond.methodLink RL 88 yX10_depthAfter ∈ Tk := tk_at 611 (by decide +kernel) rfl
theorem tw_1053 : Cond.methodLink RL 91 yX11_depthAfter ∈ Tk := tk_at 1053 (by decide +kernel) rfl
theorem tw_618 : Cond.methodLink RL 92 yX10_expectedKinds ∈ Tk := tk_at 618 (by decide +kernel) rfl
theorem tw_1060 : Cond.methodLink RL 95 yX11_expectedKinds ∈ Tk := tk_at 1060 (by decide +kernel) rfl
theorem tw_623 : Cond.methodLink RL 96 yX10_repairCost ∈ Tk := tk_at 623 (by decide +kernel) rfl
theorem tw_1064 : Cond.methodLink RL 99 yX11_repairCost ∈ Tk := tk_at 1064 (by decide +kernel) rfl
theorem tw_691 : Cond.methodLink RL 100 yX10_repairCount ∈ Tk := tk_at 691 (by decide +kernel) rfl
theorem tw_1092 : Cond.methodLink RL 103 yX11_repairCount ∈ Tk := tk_at 1092 (by decide +kernel) rfl
theorem tw_699 : Cond.methodLink RL 104 yX10_secondCost ∈ Tk := tk_at 699 (by decide +kernel) rfl
theorem tw_1108 : Cond.methodLink RL 107 yX11_secondCost ∈ Tk := tk_at 1108 (by decide +kernel) rfl
theorem tw_707 : Cond.methodLink RL 108 yX10_repairLength ∈ Tk := tk_at 707 (by decide +kernel) rfl
theorem tw_1112 : Cond.methodLink RL 111 yX11_repairLength ∈ Tk := tk_at 1112 (by decide +kernel) rfl
theorem tw_748 : Cond.methodLink RL 112 yX10_repairOperation ∈ Tk := tk_at 748 (by decide +kernel) rfl
theorem tw_1128 : Cond.methodLink RL 115 yX11_repairOperation ∈ Tk := tk_at 1128 (by decide +kernel) rfl
theorem tw_757 : Cond.methodLink RL 116 yX10_repairKind ∈ Tk := tk_at 757 (by decide +kernel) rfl
theorem tw_1140 : Cond.methodLink RL 119 yX11_repairKind ∈ Tk := tk_at 1140 (by decide +kernel) rfl
theorem tw_765 : Cond.methodLink RL 120 yX10_applyRepair ∈ Tk := tk_at 765 (by decide +kernel) rfl
theorem tw_1144 : Cond.methodLink RL 123 yX11_applyRepair ∈ Tk := tk_at 1144 (by decide +kernel) rfl
theorem tw_781 : Cond.methodLink RL 124 yX10_localCost ∈ Tk := tk_at 781 (by decide +kernel) rfl
theorem tw_1148 : Cond.methodLink RL 127 yX11_localCost ∈ Tk := tk_at 1148 (by decide +kernel) rfl
theorem tw_792 : Cond.methodLink RL 128 yX10_localOperation ∈ Tk := tk_at 792 (by decide +kernel) rfl
theorem tw_1180 : Cond.methodLink RL 131 yX11_localOperation ∈ Tk := tk_at 1180 (by decide +kernel) rfl
theorem tw_796 : Cond.methodLink RL 132 yX10_localKind ∈ Tk := tk_at 796 (by decide +kernel) rfl
theorem tw_1188 : Cond.methodLink RL 135 yX11_localKind ∈ Tk := tk_at 1188 (by decide +kernel) rfl
theorem tw_800 : Cond.methodLink RL 136 yX10_sweepCost ∈ Tk := tk_at 800 (by decide +kernel) rfl
theorem tw_1192 : Cond.methodLink RL 139 yX11_sweepCost ∈ Tk := tk_at 1192 (by decide +kernel) rfl
theorem tw_804 : Cond.methodLink RL 140 yX10_undoCount ∈ Tk := tk_at 804 (by decide +kernel) rfl
theorem tw_1196 : Cond.methodLink RL 143 yX11_undoCount ∈ Tk := tk_at 1196 (by decide +kernel) rfl
section LAW
variable {X : CX} {g : GX} {w : WX} {cc : ByteArray} {nL k ns d : Nat} {own : String} {ret : Option FieldType} {Q : State → Prop} {pc : Nat} {vs : List (Option Value)} {st : List Value} {M : Mm} {b L : Nat} {xs : Nat → Int32}
theorem V_scr (hC : Cx X g cc nL own ret d) (hX : va_X b L xs X.2.2.2.2.1 X.2.2.2.2.1.heap) (hbl : b < X.2.2.2.2.1.heap.size) (hbA : ¬ Af g b) {i : Int32} (hin : vp_in i L) (hd : decode cc pc = .ok (.iaload, 1)) (kk : V X g w nL k ns Q (pc + 1) vs (.int (xs i.toNatClampNeg) :: st) M) : V X g w nL k ns Q pc vs (.int i :: .ref b :: st) M :=
  fun H locs ls hL hz hP hS => va_sld hC.1 hC.2.1 hX hbl hbA hS hin hd (kk H locs ls hL hz hP hS)
theorem V_scrlen (hC : Cx X g cc nL own ret d) (hX : va_X b L xs X.2.2.2.2.1 X.2.2.2.2.1.heap) (hbl : b < X.2.2.2.2.1.heap.size) (hbA : ¬ Af g b) (hd : decode cc pc = .ok (.arraylength, 1)) (kk : V X g w nL k ns Q (pc + 1) vs (.int (nI L) :: st) M) : V X g w nL k ns Q pc vs (.ref b :: st) M :=
  fun H locs ls hL hz hP hS => va_slen hC.1 hC.2.1 hX hbl hbA hS hd (kk H locs ls hL hz hP hS)
end LAW
theorem lw_cond {L i : Nat} (hL : L ≤ 1536) (hi : i ≤ 2000) : (nI L - 3 < nI i) ↔ L < i + 3 := by
  rcases Nat.lt_or_ge L 3 with q | q
  · have : L = 0 ∨ L = 1 ∨ L = 2 := by omega
    have h0 : (0 : Int32) ≤ nI i := nI_pos' (by omega)
    constructor
    · intro _; omega
    · intro _
      rcases this with rfl | rfl | rfl
      · exact Std.lt_of_lt_of_le (show nI 0 - 3 < 0 by decide) h0
      · exact Std.lt_of_lt_of_le (show nI 1 - 3 < 0 by decide) h0
      · exact Std.lt_of_lt_of_le (show nI 2 - 3 < 0 by decide) h0
  · have e : nI L - 3 = nI (L - 3) := pk_sub (b := 3) q
    rw [e, nI_ltI (by omega) (by omega)]
    omega
def op_0 (fu : Nat) (R : Mm → Prop) : Prop := ∀ M, R M → ∀ (a1 : Int32), f_SR_appendCharacter fu (fun r1 M1 => f_Md_appendCharacter fu (fun r2 M2 => r1 = r2 ∧ R M2) 145 a1 M1) 0 a1 M
def op_1 (fu : Nat) (R : Mm → Prop) : Prop := ∀ M, R M → ∀ (_ : Unit), f_SR_clearText fu (fun r1 M1 => f_Md_clearText fu (fun r2 M2 => r1 = r2 ∧ R M2) 145 M1) 0 M
def op_2 (fu : Nat) (R : Mm → Prop) : Prop := ∀ M, R M → ∀ (_ : Unit), f_SR_loadGrammar fu (fun r1 M1 => f_Md_loadGrammar fu (fun r2 M2 => r1 = r2 ∧ R M2) 145 M1) 0 M
def op_3 (fu : Nat) (R : Mm → Prop) : Prop := ∀ M, R M → ∀ (a1 : Int32), f_SR_appendToken fu (fun r1 M1 => f_Md_appendToken fu (fun r2 M2 => r1 = r2 ∧ R M2) 145 a1 M1) 0 a1 M
def op_4 (fu : Nat) (R : Mm → Prop) : Prop := ∀ M, R M → ∀ (a1 : Int32) (a2 : Int32), f_SR_insertToken fu (fun r1 M1 => f_Md_insertToken fu (fun r2 M2 => r1 = r2 ∧ R M2) 145 a1 a2 M1) 0 a1 a2 M
def op_5 (fu : Nat) (R : Mm → Prop) : Prop := ∀ M, R M → ∀ (a1 : Int32), f_SR_removeToken fu (fun r1 M1 => f_Md_removeToken fu (fun r2 M2 => r1 = r2 ∧ R M2) 145 a1 M1) 0 a1 M
def op_6 (fu : Nat) (R : Mm → Prop) : Prop := ∀ M, R M → ∀ (_ : Unit), f_SR_clearTokens fu (fun r1 M1 => f_Md_clearTokens fu (fun r2 M2 => r1 = r2 ∧ R M2) 145 M1) 0 M
def op_7 (fu : Nat) (R : Mm → Prop) : Prop := ∀ M, R M → ∀ (a1 : Int32) (a2 : Int32), f_SR_setInsertionCost fu (fun r1 M1 => f_Md_setInsertionCost fu (fun r2 M2 => r1 = r2 ∧ R M2) 145 a1 a2 M1) 0 a1 a2 M
def op_8 (fu : Nat) (R : Mm → Prop) : Prop := ∀ M, R M → ∀ (a1 : Int32) (a2 : Int32), f_SR_setDeletionCost fu (fun r1 M1 => f_Md_setDeletionCost fu (fun r2 M2 => r1 = r2 ∧ R M2) 145 a1 a2 M1) 0 a1 a2 M
def op_9 (fu : Nat) (R : Mm → Prop) : Prop := ∀ M, R M → ∀ (a1 : Int32) (a2 : Int32), f_SR_setReplacementCost fu (fun r1 M1 => f_Md_setReplacementCost fu (fun r2 M2 => r1 = r2 ∧ R M2) 145 a1 a2 M1) 0 a1 a2 M
def op_10 (fu : Nat) (R : Mm → Prop) : Prop := ∀ M, R M → ∀ (_ : Unit), f_SR_undo fu (fun r1 M1 => f_Md_undo fu (fun r2 M2 => r1 = r2 ∧ R M2) 145 M1) 0 M
def op_11 (fu : Nat) (R : Mm → Prop) : Prop := ∀ M, R M → ∀ (_ : Unit), f_SR_stateCount fu (fun r1 M1 => f_Md_stateCount fu (fun r2 M2 => r1 = r2 ∧ R M2) 145 M1) 0 M
def op_12 (fu : Nat) (R : Mm → Prop) : Prop := ∀ M, R M → ∀ (a1 : Int32), f_SR_isAccepting fu (fun r1 M1 => f_Md_isAccepting fu (fun r2 M2 => r1 = r2 ∧ R M2) 145 a1 M1) 0 a1 M
def op_13 (fu : Nat) (R : Mm → Prop) : Prop := ∀ M, R M → ∀ (_ : Unit), f_SR_ruleCount fu (fun r1 M1 => f_Md_ruleCount fu (fun r2 M2 => r1 = r2 ∧ R M2) 145 M1) 0 M
def op_14 (fu : Nat) (R : Mm → Prop) : Prop := ∀ M, R M → ∀ (_ : Unit), f_SR_tokenCount fu (fun r1 M1 => f_Md_tokenCount fu (fun r2 M2 => r1 = r2 ∧ R M2) 145 M1) 0 M
def op_15 (fu : Nat) (R : Mm → Prop) : Prop := ∀ M, R M → ∀ (a1 : Int32), f_SR_tokenAt fu (fun r1 M1 => f_Md_tokenAt fu (fun r2 M2 => r1 = r2 ∧ R M2) 145 a1 M1) 0 a1 M
def op_16 (fu : Nat) (R : Mm → Prop) : Prop := ∀ M, R M → ∀ (_ : Unit), f_SR_errorPosition fu (fun r1 M1 => f_Md_errorPosition fu (fun r2 M2 => r1 = r2 ∧ R M2) 145 M1) 0 M
def op_17 (fu : Nat) (R : Mm → Prop) : Prop := ∀ M, R M → ∀ (a1 : Int32), f_SR_stateAfter fu (fun r1 M1 => f_Md_stateAfter fu (fun r2 M2 => r1 = r2 ∧ R M2) 145 a1 M1) 0 a1 M
def op_18 (fu : Nat) (R : Mm → Prop) : Prop := ∀ M, R M → ∀ (a1 : Int32), f_SR_depthAfter fu (fun r1 M1 => f_Md_depthAfter fu (fun r2 M2 => r1 = r2 ∧ R M2) 145 a1 M1) 0 a1 M
def op_19 (fu : Nat) (R : Mm → Prop) : Prop := ∀ M, R M → ∀ (_ : Unit), f_SR_expectedKinds fu (fun r1 M1 => f_Md_expectedKinds fu (fun r2 M2 => r1 = r2 ∧ R M2) 145 M1) 0 M
def op_20 (fu : Nat) (R : Mm → Prop) : Prop := ∀ M, R M → ∀ (_ : Unit), f_SR_repairCost fu (fun r1 M1 => f_Md_repairCost fu (fun r2 M2 => r1 = r2 ∧ R M2) 145 M1) 0 M
def op_21 (fu : Nat) (R : Mm → Prop) : Prop := ∀ M, R M → ∀ (_ : Unit), f_SR_repairCount fu (fun r1 M1 => f_Md_repairCount fu (fun r2 M2 => r1 = r2 ∧ R M2) 145 M1) 0 M
def op_22 (fu : Nat) (R : Mm → Prop) : Prop := ∀ M, R M → ∀ (_ : Unit), f_SR_secondCost fu (fun r1 M1 => f_Md_secondCost fu (fun r2 M2 => r1 = r2 ∧ R M2) 145 M1) 0 M
def op_23 (fu : Nat) (R : Mm → Prop) : Prop := ∀ M, R M → ∀ (a1 : Int32), f_SR_repairLength fu (fun r1 M1 => f_Md_repairLength fu (fun r2 M2 => r1 = r2 ∧ R M2) 145 a1 M1) 0 a1 M
def op_24 (fu : Nat) (R : Mm → Prop) : Prop := ∀ M, R M → ∀ (a1 : Int32) (a2 : Int32), f_SR_repairOperation fu (fun r1 M1 => f_Md_repairOperation fu (fun r2 M2 => r1 = r2 ∧ R M2) 145 a1 a2 M1) 0 a1 a2 M
def op_25 (fu : Nat) (R : Mm → Prop) : Prop := ∀ M, R M → ∀ (a1 : Int32) (a2 : Int32), f_SR_repairKind fu (fun r1 M1 => f_Md_repairKind fu (fun r2 M2 => r1 = r2 ∧ R M2) 145 a1 a2 M1) 0 a1 a2 M
def op_26 (fu : Nat) (R : Mm → Prop) : Prop := ∀ M, R M → ∀ (a1 : Int32), f_SR_applyRepair fu (fun r1 M1 => f_Md_applyRepair fu (fun r2 M2 => r1 = r2 ∧ R M2) 145 a1 M1) 0 a1 M
def op_27 (fu : Nat) (R : Mm → Prop) : Prop := ∀ M, R M → ∀ (a1 : Int32), f_SR_localCost fu (fun r1 M1 => f_Md_localCost fu (fun r2 M2 => r1 = r2 ∧ R M2) 145 a1 M1) 0 a1 M
def op_28 (fu : Nat) (R : Mm → Prop) : Prop := ∀ M, R M → ∀ (a1 : Int32) (a2 : Int32), f_SR_localOperation fu (fun r1 M1 => f_Md_localOperation fu (fun r2 M2 => r1 = r2 ∧ R M2) 145 a1 a2 M1) 0 a1 a2 M
def op_29 (fu : Nat) (R : Mm → Prop) : Prop := ∀ M, R M → ∀ (a1 : Int32) (a2 : Int32), f_SR_localKind fu (fun r1 M1 => f_Md_localKind fu (fun r2 M2 => r1 = r2 ∧ R M2) 145 a1 a2 M1) 0 a1 a2 M
def op_30 (fu : Nat) (R : Mm → Prop) : Prop := ∀ M, R M → ∀ (a1 : Int32), f_SR_sweepCost fu (fun r1 M1 => f_Md_sweepCost fu (fun r2 M2 => r1 = r2 ∧ R M2) 145 a1 M1) 0 a1 M
def op_31 (fu : Nat) (R : Mm → Prop) : Prop := ∀ M, R M → ∀ (_ : Unit), f_SR_undoCount fu (fun r1 M1 => f_Md_undoCount fu (fun r2 M2 => r1 = r2 ∧ R M2) 145 M1) 0 M
def op_all (fu : Nat) (R : Mm → Prop) : Prop := op_0 fu R ∧ op_1 fu R ∧ op_2 fu R ∧ op_3 fu R ∧ op_4 fu R ∧ op_5 fu R ∧ op_6 fu R ∧ op_7 fu R ∧ op_8 fu R ∧ op_9 fu R ∧ op_10 fu R ∧ op_11 fu R ∧ op_12 fu R ∧ op_13 fu R ∧ op_14 fu R ∧ op_15 fu R ∧ op_16 fu R ∧ op_17 fu R ∧ op_18 fu R ∧ op_19 fu R ∧ op_20 fu R ∧ op_21 fu R ∧ op_22 fu R ∧ op_23 fu R ∧ op_24 fu R ∧ op_25 fu R ∧ op_26 fu R ∧ op_27 fu R ∧ op_28 fu R ∧ op_29 fu R ∧ op_30 fu R ∧ op_31 fu R
theorem ok_156_0 : ok (156, fun _ => none) 0 10 := ⟨by decide +kernel, fun j hj => ⟨by have hj : j < 145 := hj; show 0 + j < 156; omega, rfl⟩⟩
theorem ok_156_145 : ok (156, fun _ => none) 145 11 := ⟨by decide +kernel, fun j hj => ⟨by have hj : j < 11 := hj; show 145 + j < 156; omega, rfl⟩⟩
set_option maxRecDepth 100000 in
theorem law_0 {X : CX} {g : GX} {fu k ns b L i : Nat} {Q : State → Prop} {xs : Nat → Int32} {R : Mm → Prop} {M : Mm} (hC : Cx X g code 4 RL ret 11) (hr : k ≤ X.2.2.2.1.cells ∧ ns ≤ X.2.2.2.1.slots) (hXs : va_X b L xs X.2.2.2.2.1 X.2.2.2.2.1.heap) (hbl : b < X.2.2.2.2.1.heap.size) (hbA : ¬ Af g b) (hi : i + 2 < L) (hL : L ≤ 1536) (hop : op_0 fu R) (hM : R M) (hback : ∀ M2, R M2 → V X g (156, fun _ => none) 4 k ns Q 862 [some (.ref b), some (ob g 0), some (ob g 145), some (.int (nI i))] [] M2) : V X g (156, fun _ => none) 4 k ns Q 176 [some (.ref b), some (ob g 0), some (ob g 145), some (.int (nI i))] [] M := by
  have ok0 := ok_156_0
  have ok145 := ok_156_145
  have h1 : vp_in (nI i + 1) L := by rw [nI_1]; exact vp_in_nI (by omega) (by omega)
  have h2 : vp_in (nI i + 2) L := by rw [show nI i + 2 = nI (i + 2) from nI_add i 2]; exact vp_in_nI (by omega) (by omega)
  obtain ⟨a1, e1⟩ : ∃ z, xs (nI i + 1).toNatClampNeg = z := ⟨_, rfl⟩
  obtain ⟨a2, e2⟩ : ∃ z, xs (nI i + 2).toNatClampNeg = z := ⟨_, rfl⟩
  have h := hop M hM a1
  refine V_aload_n hC rfl dL_law_176 ?_
  refine V_aload_n hC rfl dL_law_177 ?_
  refine V_iload_n hC rfl dL_law_178 ?_
  refine V_iconst (v := 1) hC (by decide) dL_law_179 ?_
  refine V_iadd hC dL_law_180 ?_
  refine V_scr hC hXs hbl hbA h1 dL_law_181 ?_
  rw [e1]
  refine V_calli (As := [.int a1]) hC (c_SR_appendCharacter X.2.1 g (156, fun _ => none) fu _ 0 a1 M ok0 h) mw_X10_appendCharacter (by decide) tw_290 ok0 (by decide) rfl rfl rfl (Nat.le_of_ble_eq_true rfl) hr dL_law_182 (fun r1 M1 h => ?_)
  refine V_aload_n hC rfl dL_law_185 ?_
  refine V_aload_n hC rfl dL_law_186 ?_
  refine V_iload_n hC rfl dL_law_187 ?_
  refine V_iconst (v := 1) hC (by decide) dL_law_188 ?_
  refine V_iadd hC dL_law_189 ?_
  refine V_scr hC hXs hbl hbA h1 dL_law_190 ?_
  rw [e1]
  refine V_calli (As := [.int a1]) hC (c_Md_appendCharacter X.2.1 g (156, fun _ => none) fu _ 145 a1 M1 ok145 h) mw_X11_appendCharacter (by decide) tw_890 ok145 (by decide) rfl rfl rfl (Nat.le_of_ble_eq_true rfl) hr dL_law_191 (fun r2 M2 h => ?_)
  obtain ⟨rfl, hM2⟩ := h
  refine V_icmp_eq (tgt := 862) hC dL_law_194 (by decide) (fun _ => ?_) (fun q => absurd rfl q)
  exact hback M2 hM2
set_option maxRecDepth 100000 in
theorem law_1 {X : CX} {g : GX} {fu k ns b L i : Nat} {Q : State → Prop} {xs : Nat → Int32} {R : Mm → Prop} {M : Mm} (hC : Cx X g code 4 RL ret 11) (hr : k ≤ X.2.2.2.1.cells ∧ ns ≤ X.2.2.2.1.slots) (hXs : va_X b L xs X.2.2.2.2.1 X.2.2.2.2.1.heap) (hbl : b < X.2.2.2.2.1.heap.size) (hbA : ¬ Af g b) (hi : i + 2 < L) (hL : L ≤ 1536) (hop : op_1 fu R) (hM : R M) (hback : ∀ M2, R M2 → V X g (156, fun _ => none) 4 k ns Q 862 [some (.ref b), some (ob g 0), some (ob g 145), some (.int (nI i))] [] M2) : V X g (156, fun _ => none) 4 k ns Q 199 [some (.ref b), some (ob g 0), some (ob g 145), some (.int (nI i))] [] M := by
  have ok0 := ok_156_0
  have ok145 := ok_156_145
  have h1 : vp_in (nI i + 1) L := by rw [nI_1]; exact vp_in_nI (by omega) (by omega)
  have h2 : vp_in (nI i + 2) L := by rw [show nI i + 2 = nI (i + 2) from nI_add i 2]; exact vp_in_nI (by omega) (by omega)
  obtain ⟨a1, e1⟩ : ∃ z, xs (nI i + 1).toNatClampNeg = z := ⟨_, rfl⟩
  obtain ⟨a2, e2⟩ : ∃ z, xs (nI i + 2).toNatClampNeg = z := ⟨_, rfl⟩
  have h := hop M hM ()
  refine V_aload_n hC rfl dL_law_199 ?_
  refine V_calli (As := []) hC (c_SR_clearText X.2.1 g (156, fun _ => none) fu _ 0 M ok0 h) mw_X10_clearText (by decide) tw_299 ok0 (by decide) rfl rfl rfl (Nat.le_of_ble_eq_true rfl) hr dL_law_200 (fun r1 M1 h => ?_)
  refine V_aload_n hC rfl dL_law_203 ?_
  refine V_calli (As := []) hC (c_Md_clearText X.2.1 g (156, fun _ => none) fu _ 145 M1 ok145 h) mw_X11_clearText (by decide) tw_897 ok145 (by decide) rfl rfl rfl (Nat.le_of_ble_eq_true rfl) hr dL_law_204 (fun r2 M2 h => ?_)
  obtain ⟨rfl, hM2⟩ := h
  refine V_icmp_eq (tgt := 862) hC dL_law_207 (by decide) (fun _ => ?_) (fun q => absurd rfl q)
  exact hback M2 hM2
set_option maxRecDepth 100000 in
theorem law_2 {X : CX} {g : GX} {fu k ns b L i : Nat} {Q : State → Prop} {xs : Nat → Int32} {R : Mm → Prop} {M : Mm} (hC : Cx X g code 4 RL ret 11) (hr : k ≤ X.2.2.2.1.cells ∧ ns ≤ X.2.2.2.1.slots) (hXs : va_X b L xs X.2.2.2.2.1 X.2.2.2.2.1.heap) (hbl : b < X.2.2.2.2.1.heap.size) (hbA : ¬ Af g b) (hi : i + 2 < L) (hL : L ≤ 1536) (hop : op_2 fu R) (hM : R M) (hback : ∀ M2, R M2 → V X g (156, fun _ => none) 4 k ns Q 862 [some (.ref b), some (ob g 0), some (ob g 145), some (.int (nI i))] [] M2) : V X g (156, fun _ => none) 4 k ns Q 212 [some (.ref b), some (ob g 0), some (ob g 145), some (.int (nI i))] [] M := by
  have ok0 := ok_156_0
  have ok145 := ok_156_145
  have h1 : vp_in (nI i + 1) L := by rw [nI_1]; exact vp_in_nI (by omega) (by omega)
  have h2 : vp_in (nI i + 2) L := by rw [show nI i + 2 = nI (i + 2) from nI_add i 2]; exact vp_in_nI (by omega) (by omega)
  obtain ⟨a1, e1⟩ : ∃ z, xs (nI i + 1).toNatClampNeg = z := ⟨_, rfl⟩
  obtain ⟨a2, e2⟩ : ∃ z, xs (nI i + 2).toNatClampNeg = z := ⟨_, rfl⟩
  have h := hop M hM ()
  refine V_aload_n hC rfl dL_law_212 ?_
  refine V_calli (As := []) hC (c_SR_loadGrammar X.2.1 g (156, fun _ => none) fu _ 0 M ok0 h) mw_X10_loadGrammar (by decide) tw_303 ok0 (by decide) rfl rfl rfl (Nat.le_of_ble_eq_true rfl) hr dL_law_213 (fun r1 M1 h => ?_)
  refine V_aload_n hC rfl dL_law_216 ?_
  refine V_calli (As := []) hC (c_Md_loadGrammar X.2.1 g (156, fun _ => none) fu _ 145 M1 ok145 h) mw_X11_loadGrammar (by decide) tw_901 ok145 (by decide) rfl rfl rfl (Nat.le_of_ble_eq_true rfl) hr dL_law_217 (fun r2 M2 h => ?_)
  obtain ⟨rfl, hM2⟩ := h
  refine V_icmp_eq (tgt := 862) hC dL_law_220 (by decide) (fun _ => ?_) (fun q => absurd rfl q)
  exact hback M2 hM2
set_option maxRecDepth 100000 in
theorem law_3 {X : CX} {g : GX} {fu k ns b L i : Nat} {Q : State → Prop} {xs : Nat → Int32} {R : Mm → Prop} {M : Mm} (hC : Cx X g code 4 RL ret 11) (hr : k ≤ X.2.2.2.1.cells ∧ ns ≤ X.2.2.2.1.slots) (hXs : va_X b L xs X.2.2.2.2.1 X.2.2.2.2.1.heap) (hbl : b < X.2.2.2.2.1.heap.size) (hbA : ¬ Af g b) (hi : i + 2 < L) (hL : L ≤ 1536) (hop : op_3 fu R) (hM : R M) (hback : ∀ M2, R M2 → V X g (156, fun _ => none) 4 k ns Q 862 [some (.ref b), some (ob g 0), some (ob g 145), some (.int (nI i))] [] M2) : V X g (156, fun _ => none) 4 k ns Q 225 [some (.ref b), some (ob g 0), some (ob g 145), some (.int (nI i))] [] M := by
  have ok0 := ok_156_0
  have ok145 := ok_156_145
  have h1 : vp_in (nI i + 1) L := by rw [nI_1]; exact vp_in_nI (by omega) (by omega)
  have h2 : vp_in (nI i + 2) L := by rw [show nI i + 2 = nI (i + 2) from nI_add i 2]; exact vp_in_nI (by omega) (by omega)
  obtain ⟨a1, e1⟩ : ∃ z, xs (nI i + 1).toNatClampNeg = z := ⟨_, rfl⟩
  obtain ⟨a2, e2⟩ : ∃ z, xs (nI i + 2).toNatClampNeg = z := ⟨_, rfl⟩
  have h := hop M hM a1
  refine V_aload_n hC rfl dL_law_225 ?_
  refine V_aload_n hC rfl dL_law_226 ?_
  refine V_iload_n hC rfl dL_law_227 ?_
  refine V_iconst (v := 1) hC (by decide) dL_law_228 ?_
  refine V_iadd hC dL_law_229 ?_
  refine V_scr hC hXs hbl hbA h1 dL_law_230 ?_
  rw [e1]
  refine V_calli (As := [.int a1]) hC (c_SR_appendToken X.2.1 g (156, fun _ => none) fu _ 0 a1 M ok0 h) mw_X10_appendToken (by decide) tw_474 ok0 (by decide) rfl rfl rfl (Nat.le_of_ble_eq_true rfl) hr dL_law_231 (fun r1 M1 h => ?_)
  refine V_aload_n hC rfl dL_law_234 ?_
  refine V_aload_n hC rfl dL_law_235 ?_
  refine V_iload_n hC rfl dL_law_236 ?_
  refine V_iconst (v := 1) hC (by decide) dL_law_237 ?_
  refine V_iadd hC dL_law_238 ?_
  refine V_scr hC hXs hbl hbA h1 dL_law_239 ?_
  rw [e1]
  refine V_calli (As := [.int a1]) hC (c_Md_appendToken X.2.1 g (156, fun _ => none) fu _ 145 a1 M1 ok145 h) mw_X11_appendToken (by decide) tw_961 ok145 (by decide) rfl rfl rfl (Nat.le_of_ble_eq_true rfl) hr dL_law_240 (fun r2 M2 h => ?_)
  obtain ⟨rfl, hM2⟩ := h
  refine V_icmp_eq (tgt := 862) hC dL_law_243 (by decide) (fun _ => ?_) (fun q => absurd rfl q)
  exact hback M2 hM2
set_option maxRecDepth 100000 in
theorem law_4 {X : CX} {g : GX} {fu k ns b L i : Nat} {Q : State → Prop} {xs : Nat → Int32} {R : Mm → Prop} {M : Mm} (hC : Cx X g code 4 RL ret 11) (hr : k ≤ X.2.2.2.1.cells ∧ ns ≤ X.2.2.2.1.slots) (hXs : va_X b L xs X.2.2.2.2.1 X.2.2.2.2.1.heap) (hbl : b < X.2.2.2.2.1.heap.size) (hbA : ¬ Af g b) (hi : i + 2 < L) (hL : L ≤ 1536) (hop : op_4 fu R) (hM : R M) (hback : ∀ M2, R M2 → V X g (156, fun _ => none) 4 k ns Q 862 [some (.ref b), some (ob g 0), some (ob g 145), some (.int (nI i))] [] M2) : V X g (156, fun _ => none) 4 k ns Q 248 [some (.ref b), some (ob g 0), some (ob g 145), some (.int (nI i))] [] M := by
  have ok0 := ok_156_0
  have ok145 := ok_156_145
  have h1 : vp_in (nI i + 1) L := by rw [nI_1]; exact vp_in_nI (by omega) (by omega)
  have h2 : vp_in (nI i + 2) L := by rw [show nI i + 2 = nI (i + 2) from nI_add i 2]; exact vp_in_nI (by omega) (by omega)
  obtain ⟨a1, e1⟩ : ∃ z, xs (nI i + 1).toNatClampNeg = z := ⟨_, rfl⟩
  obtain ⟨a2, e2⟩ : ∃ z, xs (nI i + 2).toNatClampNeg = z := ⟨_, rfl⟩
  have h := hop M hM a1 a2
  refine V_aload_n hC rfl dL_law_248 ?_
  refine V_aload_n hC rfl dL_law_249 ?_
  refine V_iload_n hC rfl dL_law_250 ?_
  refine V_iconst (v := 1) hC (by decide) dL_law_251 ?_
  refine V_iadd hC dL_law_252 ?_
  refine V_scr hC hXs hbl hbA h1 dL_law_253 ?_
  rw [e1]
  refine V_aload_n hC rfl dL_law_254 ?_
  refine V_iload_n hC rfl dL_law_255 ?_
  refine V_iconst (v := 2) hC (by decide) dL_law_256 ?_
  refine V_iadd hC dL_law_257 ?_
  refine V_scr hC hXs hbl hbA h2 dL_law_258 ?_
  rw [e2]
  refine V_calli (As := [.int a1, .int a2]) hC (c_SR_insertToken X.2.1 g (156, fun _ => none) fu _ 0 a1 a2 M ok0 h) mw_X10_insertToken (by decide) tw_489 ok0 (by decide) rfl rfl rfl (Nat.le_of_ble_eq_true rfl) hr dL_law_259 (fun r1 M1 h => ?_)
  refine V_aload_n hC rfl dL_law_262 ?_
  refine V_aload_n hC rfl dL_law_263 ?_
  refine V_iload_n hC rfl dL_law_264 ?_
  refine V_iconst (v := 1) hC (by decide) dL_law_265 ?_
  refine V_iadd hC dL_law_266 ?_
  refine V_scr hC hXs hbl hbA h1 dL_law_267 ?_
  rw [e1]
  refine V_aload_n hC rfl dL_law_268 ?_
  refine V_iload_n hC rfl dL_law_269 ?_
  refine V_iconst (v := 2) hC (by decide) dL_law_270 ?_
  refine V_iadd hC dL_law_271 ?_
  refine V_scr hC hXs hbl hbA h2 dL_law_272 ?_
  rw [e2]
  refine V_calli (As := [.int a1, .int a2]) hC (c_Md_insertToken X.2.1 g (156, fun _ => none) fu _ 145 a1 a2 M1 ok145 h) mw_X11_insertToken (by decide) tw_972 ok145 (by decide) rfl rfl rfl (Nat.le_of_ble_eq_true rfl) hr dL_law_273 (fun r2 M2 h => ?_)
  obtain ⟨rfl, hM2⟩ := h
  refine V_icmp_eq (tgt := 862) hC dL_law_276 (by decide) (fun _ => ?_) (fun q => absurd rfl q)
  exact hback M2 hM2
set_option maxRecDepth 100000 in
theorem law_5 {X : CX} {g : GX} {fu k ns b L i : Nat} {Q : State → Prop} {xs : Nat → Int32} {R : Mm → Prop} {M : Mm} (hC : Cx X g code 4 RL ret 11) (hr : k ≤ X.2.2.2.1.cells ∧ ns ≤ X.2.2.2.1.slots) (hXs : va_X b L xs X.2.2.2.2.1 X.2.2.2.2.1.heap) (hbl : b < X.2.2.2.2.1.heap.size) (hbA : ¬ Af g b) (hi : i + 2 < L) (hL : L ≤ 1536) (hop : op_5 fu R) (hM : R M) (hback : ∀ M2, R M2 → V X g (156, fun _ => none) 4 k ns Q 862 [some (.ref b), some (ob g 0), some (ob g 145), some (.int (nI i))] [] M2) : V X g (156, fun _ => none) 4 k ns Q 281 [some (.ref b), some (ob g 0), some (ob g 145), some (.int (nI i))] [] M := by
  have ok0 := ok_156_0
  have ok145 := ok_156_145
  have h1 : vp_in (nI i + 1) L := by rw [nI_1]; exact vp_in_nI (by omega) (by omega)
  have h2 : vp_in (nI i + 2) L := by rw [show nI i + 2 = nI (i + 2) from nI_add i 2]; exact vp_in_nI (by omega) (by omega)
  obtain ⟨a1, e1⟩ : ∃ z, xs (nI i + 1).toNatClampNeg = z := ⟨_, rfl⟩
  obtain ⟨a2, e2⟩ : ∃ z, xs (nI i + 2).toNatClampNeg = z := ⟨_, rfl⟩
  have h := hop M hM a1
  refine V_aload_n hC rfl dL_law_281 ?_
  refine V_aload_n hC rfl dL_law_282 ?_
  refine V_iload_n hC rfl dL_law_283 ?_
  refine V_iconst (v := 1) hC (by decide) dL_law_284 ?_
  refine V_iadd hC dL_law_285 ?_
  refine V_scr hC hXs hbl hbA h1 dL_law_286 ?_
  rw [e1]
  refine V_calli (As := [.int a1]) hC (c_SR_removeToken X.2.1 g (156, fun _ => none) fu _ 0 a1 M ok0 h) mw_X10_removeToken (by decide) tw_493 ok0 (by decide) rfl rfl rfl (Nat.le_of_ble_eq_true rfl) hr dL_law_287 (fun r1 M1 h => ?_)
  refine V_aload_n hC rfl dL_law_290 ?_
  refine V_aload_n hC rfl dL_law_291 ?_
  refine V_iload_n hC rfl dL_law_292 ?_
  refine V_iconst (v := 1) hC (by decide) dL_law_293 ?_
  refine V_iadd hC dL_law_294 ?_
  refine V_scr hC hXs hbl hbA h1 dL_law_295 ?_
  rw [e1]
  refine V_calli (As := [.int a1]) hC (c_Md_removeToken X.2.1 g (156, fun _ => none) fu _ 145 a1 M1 ok145 h) mw_X11_removeToken (by decide) tw_973 ok145 (by decide) rfl rfl rfl (Nat.le_of_ble_eq_true rfl) hr dL_law_296 (fun r2 M2 h => ?_)
  obtain ⟨rfl, hM2⟩ := h
  refine V_icmp_eq (tgt := 862) hC dL_law_299 (by decide) (fun _ => ?_) (fun q => absurd rfl q)
  exact hback M2 hM2
set_option maxRecDepth 100000 in
theorem law_6 {X : CX} {g : GX} {fu k ns b L i : Nat} {Q : State → Prop} {xs : Nat → Int32} {R : Mm → Prop} {M : Mm} (hC : Cx X g code 4 RL ret 11) (hr : k ≤ X.2.2.2.1.cells ∧ ns ≤ X.2.2.2.1.slots) (hXs : va_X b L xs X.2.2.2.2.1 X.2.2.2.2.1.heap) (hbl : b < X.2.2.2.2.1.heap.size) (hbA : ¬ Af g b) (hi : i + 2 < L) (hL : L ≤ 1536) (hop : op_6 fu R) (hM : R M) (hback : ∀ M2, R M2 → V X g (156, fun _ => none) 4 k ns Q 862 [some (.ref b), some (ob g 0), some (ob g 145), some (.int (nI i))] [] M2) : V X g (156, fun _ => none) 4 k ns Q 304 [some (.ref b), some (ob g 0), some (ob g 145), some (.int (nI i))] [] M := by
  have ok0 := ok_156_0
  have ok145 := ok_156_145
  have h1 : vp_in (nI i + 1) L := by rw [nI_1]; exact vp_in_nI (by omega) (by omega)
  have h2 : vp_in (nI i + 2) L := by rw [show nI i + 2 = nI (i + 2) from nI_add i 2]; exact vp_in_nI (by omega) (by omega)
  obtain ⟨a1, e1⟩ : ∃ z, xs (nI i + 1).toNatClampNeg = z := ⟨_, rfl⟩
  obtain ⟨a2, e2⟩ : ∃ z, xs (nI i + 2).toNatClampNeg = z := ⟨_, rfl⟩
  have h := hop M hM ()
  refine V_aload_n hC rfl dL_law_304 ?_
  refine V_calli (As := []) hC (c_SR_clearTokens X.2.1 g (156, fun _ => none) fu _ 0 M ok0 h) mw_X10_clearTokens (by decide) tw_509 ok0 (by decide) rfl rfl rfl (Nat.le_of_ble_eq_true rfl) hr dL_law_305 (fun r1 M1 h => ?_)
  refine V_aload_n hC rfl dL_law_308 ?_
  refine V_calli (As := []) hC (c_Md_clearTokens X.2.1 g (156, fun _ => none) fu _ 145 M1 ok145 h) mw_X11_clearTokens (by decide) tw_981 ok145 (by decide) rfl rfl rfl (Nat.le_of_ble_eq_true rfl) hr dL_law_309 (fun r2 M2 h => ?_)
  obtain ⟨rfl, hM2⟩ := h
  refine V_icmp_eq (tgt := 862) hC dL_law_312 (by decide) (fun _ => ?_) (fun q => absurd rfl q)
  exact hback M2 hM2
set_option maxRecDepth 100000 in
theorem law_7 {X : CX} {g : GX} {fu k ns b L i : Nat} {Q : State → Prop} {xs : Nat → Int32} {R : Mm → Prop} {M : Mm} (hC : Cx X g code 4 RL ret 11) (hr : k ≤ X.2.2.2.1.cells ∧ ns ≤ X.2.2.2.1.slots) (hXs : va_X b L xs X.2.2.2.2.1 X.2.2.2.2.1.heap) (hbl : b < X.2.2.2.2.1.heap.size) (hbA : ¬ Af g b) (hi : i + 2 < L) (hL : L ≤ 1536) (hop : op_7 fu R) (hM : R M) (hback : ∀ M2, R M2 → V X g (156, fun _ => none) 4 k ns Q 862 [some (.ref b), some (ob g 0), some (ob g 145), some (.int (nI i))] [] M2) : V X g (156, fun _ => none) 4 k ns Q 317 [some (.ref b), some (ob g 0), some (ob g 145), some (.int (nI i))] [] M := by
  have ok0 := ok_156_0
  have ok145 := ok_156_145
  have h1 : vp_in (nI i + 1) L := by rw [nI_1]; exact vp_in_nI (by omega) (by omega)
  have h2 : vp_in (nI i + 2) L := by rw [show nI i + 2 = nI (i + 2) from nI_add i 2]; exact vp_in_nI (by omega) (by omega)
  obtain ⟨a1, e1⟩ : ∃ z, xs (nI i + 1).toNatClampNeg = z := ⟨_, rfl⟩
  obtain ⟨a2, e2⟩ : ∃ z, xs (nI i + 2).toNatClampNeg = z := ⟨_, rfl⟩
  have h := hop M hM a1 a2
  refine V_aload_n hC rfl dL_law_317 ?_
  refine V_aload_n hC rfl dL_law_318 ?_
  refine V_iload_n hC rfl dL_law_319 ?_
  refine V_iconst (v := 1) hC (by decide) dL_law_320 ?_
  refine V_iadd hC dL_law_321 ?_
  refine V_scr hC hXs hbl hbA h1 dL_law_322 ?_
  rw [e1]
  refine V_aload_n hC rfl dL_law_323 ?_
  refine V_iload_n hC rfl dL_law_324 ?_
  refine V_iconst (v := 2) hC (by decide) dL_law_325 ?_
  refine V_iadd hC dL_law_326 ?_
  refine V_scr hC hXs hbl hbA h2 dL_law_327 ?_
  rw [e2]
  refine V_calli (As := [.int a1, .int a2]) hC (c_SR_setInsertionCost X.2.1 g (156, fun _ => none) fu _ 0 a1 a2 M ok0 h) mw_X10_setInsertionCost (by decide) tw_513 ok0 (by decide) rfl rfl rfl (Nat.le_of_ble_eq_true rfl) hr dL_law_328 (fun r1 M1 h => ?_)
  refine V_aload_n hC rfl dL_law_331 ?_
  refine V_aload_n hC rfl dL_law_332 ?_
  refine V_iload_n hC rfl dL_law_333 ?_
  refine V_iconst (v := 1) hC (by decide) dL_law_334 ?_
  refine V_iadd hC dL_law_335 ?_
  refine V_scr hC hXs hbl hbA h1 dL_law_336 ?_
  rw [e1]
  refine V_aload_n hC rfl dL_law_337 ?_
  refine V_iload_n hC rfl dL_law_338 ?_
  refine V_iconst (v := 2) hC (by decide) dL_law_339 ?_
  refine V_iadd hC dL_law_340 ?_
  refine V_scr hC hXs hbl hbA h2 dL_law_341 ?_
  rw [e2]
  refine V_calli (As := [.int a1, .int a2]) hC (c_Md_setInsertionCost X.2.1 g (156, fun _ => none) fu _ 145 a1 a2 M1 ok145 h) mw_X11_setInsertionCost (by decide) tw_985 ok145 (by decide) rfl rfl rfl (Nat.le_of_ble_eq_true rfl) hr dL_law_342 (fun r2 M2 h => ?_)
  obtain ⟨rfl, hM2⟩ := h
  refine V_icmp_eq (tgt := 862) hC dL_law_345 (by decide) (fun _ => ?_) (fun q => absurd rfl q)
  exact hback M2 hM2
set_option maxRecDepth 100000 in
theorem law_8 {X : CX} {g : GX} {fu k ns b L i : Nat} {Q : State → Prop} {xs : Nat → Int32} {R : Mm → Prop} {M : Mm} (hC : Cx X g code 4 RL ret 11) (hr : k ≤ X.2.2.2.1.cells ∧ ns ≤ X.2.2.2.1.slots) (hXs : va_X b L xs X.2.2.2.2.1 X.2.2.2.2.1.heap) (hbl : b < X.2.2.2.2.1.heap.size) (hbA : ¬ Af g b) (hi : i + 2 < L) (hL : L ≤ 1536) (hop : op_8 fu R) (hM : R M) (hback : ∀ M2, R M2 → V X g (156, fun _ => none) 4 k ns Q 862 [some (.ref b), some (ob g 0), some (ob g 145), some (.int (nI i))] [] M2) : V X g (156, fun _ => none) 4 k ns Q 350 [some (.ref b), some (ob g 0), some (ob g 145), some (.int (nI i))] [] M := by
  have ok0 := ok_156_0
  have ok145 := ok_156_145
  have h1 : vp_in (nI i + 1) L := by rw [nI_1]; exact vp_in_nI (by omega) (by omega)
  have h2 : vp_in (nI i + 2) L := by rw [show nI i + 2 = nI (i + 2) from nI_add i 2]; exact vp_in_nI (by omega) (by omega)
  obtain ⟨a1, e1⟩ : ∃ z, xs (nI i + 1).toNatClampNeg = z := ⟨_, rfl⟩
  obtain ⟨a2, e2⟩ : ∃ z, xs (nI i + 2).toNatClampNeg = z := ⟨_, rfl⟩
  have h := hop M hM a1 a2
  refine V_aload_n hC rfl dL_law_350 ?_
  refine V_aload_n hC rfl dL_law_351 ?_
  refine V_iload_n hC rfl dL_law_352 ?_
  refine V_iconst (v := 1) hC (by decide) dL_law_353 ?_
  refine V_iadd hC dL_law_354 ?_
  refine V_scr hC hXs hbl hbA h1 dL_law_355 ?_
  rw [e1]
  refine V_aload_n hC rfl dL_law_356 ?_
  refine V_iload_n hC rfl dL_law_357 ?_
  refine V_iconst (v := 2) hC (by decide) dL_law_358 ?_
  refine V_iadd hC dL_law_359 ?_
  refine V_scr hC hXs hbl hbA h2 dL_law_360 ?_
  rw [e2]
  refine V_calli (As := [.int a1, .int a2]) hC (c_SR_setDeletionCost X.2.1 g (156, fun _ => none) fu _ 0 a1 a2 M ok0 h) mw_X10_setDeletionCost (by decide) tw_527 ok0 (by decide) rfl rfl rfl (Nat.le_of_ble_eq_true rfl) hr dL_law_361 (fun r1 M1 h => ?_)
  refine V_aload_n hC rfl dL_law_364 ?_
  refine V_aload_n hC rfl dL_law_365 ?_
  refine V_iload_n hC rfl dL_law_366 ?_
  refine V_iconst (v := 1) hC (by decide) dL_law_367 ?_
  refine V_iadd hC dL_law_368 ?_
  refine V_scr hC hXs hbl hbA h1 dL_law_369 ?_
  rw [e1]
  refine V_aload_n hC rfl dL_law_370 ?_
  refine V_iload_n hC rfl dL_law_371 ?_
  refine V_iconst (v := 2) hC (by decide) dL_law_372 ?_
  refine V_iadd hC dL_law_373 ?_
  refine V_scr hC hXs hbl hbA h2 dL_law_374 ?_
  rw [e2]
  refine V_calli (As := [.int a1, .int a2]) hC (c_Md_setDeletionCost X.2.1 g (156, fun _ => none) fu _ 145 a1 a2 M1 ok145 h) mw_X11_setDeletionCost (by decide) tw_993 ok145 (by decide) rfl rfl rfl (Nat.le_of_ble_eq_true rfl) hr dL_law_375 (fun r2 M2 h => ?_)
  obtain ⟨rfl, hM2⟩ := h
  refine V_icmp_eq (tgt := 862) hC dL_law_378 (by decide) (fun _ => ?_) (fun q => absurd rfl q)
  exact hback M2 hM2
set_option maxRecDepth 100000 in
theorem law_9 {X : CX} {g : GX} {fu k ns b L i : Nat} {Q : State → Prop} {xs : Nat → Int32} {R : Mm → Prop} {M : Mm} (hC : Cx X g code 4 RL ret 11) (hr : k ≤ X.2.2.2.1.cells ∧ ns ≤ X.2.2.2.1.slots) (hXs : va_X b L xs X.2.2.2.2.1 X.2.2.2.2.1.heap) (hbl : b < X.2.2.2.2.1.heap.size) (hbA : ¬ Af g b) (hi : i + 2 < L) (hL : L ≤ 1536) (hop : op_9 fu R) (hM : R M) (hback : ∀ M2, R M2 → V X g (156, fun _ => none) 4 k ns Q 862 [some (.ref b), some (ob g 0), some (ob g 145), some (.int (nI i))] [] M2) : V X g (156, fun _ => none) 4 k ns Q 383 [some (.ref b), some (ob g 0), some (ob g 145), some (.int (nI i))] [] M := by
  have ok0 := ok_156_0
  have ok145 := ok_156_145
  have h1 : vp_in (nI i + 1) L := by rw [nI_1]; exact vp_in_nI (by omega) (by omega)
  have h2 : vp_in (nI i + 2) L := by rw [show nI i + 2 = nI (i + 2) from nI_add i 2]; exact vp_in_nI (by omega) (by omega)
  obtain ⟨a1, e1⟩ : ∃ z, xs (nI i + 1).toNatClampNeg = z := ⟨_, rfl⟩
  obtain ⟨a2, e2⟩ : ∃ z, xs (nI i + 2).toNatClampNeg = z := ⟨_, rfl⟩
  have h := hop M hM a1 a2
  refine V_aload_n hC rfl dL_law_383 ?_
  refine V_aload_n hC rfl dL_law_384 ?_
  refine V_iload_n hC rfl dL_law_385 ?_
  refine V_iconst (v := 1) hC (by decide) dL_law_386 ?_
  refine V_iadd hC dL_law_387 ?_
  refine V_scr hC hXs hbl hbA h1 dL_law_388 ?_
  rw [e1]
  refine V_aload_n hC rfl dL_law_389 ?_
  refine V_iload_n hC rfl dL_law_390 ?_
  refine V_iconst (v := 2) hC (by decide) dL_law_391 ?_
  refine V_iadd hC dL_law_392 ?_
  refine V_scr hC hXs hbl hbA h2 dL_law_393 ?_
  rw [e2]
  refine V_calli (As := [.int a1, .int a2]) hC (c_SR_setReplacementCost X.2.1 g (156, fun _ => none) fu _ 0 a1 a2 M ok0 h) mw_X10_setReplacementCost (by decide) tw_531 ok0 (by decide) rfl rfl rfl (Nat.le_of_ble_eq_true rfl) hr dL_law_394 (fun r1 M1 h => ?_)
  refine V_aload_n hC rfl dL_law_397 ?_
  refine V_aload_n hC rfl dL_law_398 ?_
  refine V_iload_n hC rfl dL_law_399 ?_
  refine V_iconst (v := 1) hC (by decide) dL_law_400 ?_
  refine V_iadd hC dL_law_401 ?_
  refine V_scr hC hXs hbl hbA h1 dL_law_402 ?_
  rw [e1]
  refine V_aload_n hC rfl dL_law_403 ?_
  refine V_iload_n hC rfl dL_law_404 ?_
  refine V_iconst (v := 2) hC (by decide) dL_law_405 ?_
  refine V_iadd hC dL_law_406 ?_
  refine V_scr hC hXs hbl hbA h2 dL_law_407 ?_
  rw [e2]
  refine V_calli (As := [.int a1, .int a2]) hC (c_Md_setReplacementCost X.2.1 g (156, fun _ => none) fu _ 145 a1 a2 M1 ok145 h) mw_X11_setReplacementCost (by decide) tw_997 ok145 (by decide) rfl rfl rfl (Nat.le_of_ble_eq_true rfl) hr dL_law_408 (fun r2 M2 h => ?_)
  obtain ⟨rfl, hM2⟩ := h
  refine V_icmp_eq (tgt := 862) hC dL_law_411 (by decide) (fun _ => ?_) (fun q => absurd rfl q)
  exact hback M2 hM2
set_option maxRecDepth 100000 in
theorem law_10 {X : CX} {g : GX} {fu k ns b L i : Nat} {Q : State → Prop} {xs : Nat → Int32} {R : Mm → Prop} {M : Mm} (hC : Cx X g code 4 RL ret 11) (hr : k ≤ X.2.2.2.1.cells ∧ ns ≤ X.2.2.2.1.slots) (hXs : va_X b L xs X.2.2.2.2.1 X.2.2.2.2.1.heap) (hbl : b < X.2.2.2.2.1.heap.size) (hbA : ¬ Af g b) (hi : i + 2 < L) (hL : L ≤ 1536) (hop : op_10 fu R) (hM : R M) (hback : ∀ M2, R M2 → V X g (156, fun _ => none) 4 k ns Q 862 [some (.ref b), some (ob g 0), some (ob g 145), some (.int (nI i))] [] M2) : V X g (156, fun _ => none) 4 k ns Q 416 [some (.ref b), some (ob g 0), some (ob g 145), some (.int (nI i))] [] M := by
  have ok0 := ok_156_0
  have ok145 := ok_156_145
  have h1 : vp_in (nI i + 1) L := by rw [nI_1]; exact vp_in_nI (by omega) (by omega)
  have h2 : vp_in (nI i + 2) L := by rw [show nI i + 2 = nI (i + 2) from nI_add i 2]; exact vp_in_nI (by omega) (by omega)
  obtain ⟨a1, e1⟩ : ∃ z, xs (nI i + 1).toNatClampNeg = z := ⟨_, rfl⟩
  obtain ⟨a2, e2⟩ : ∃ z, xs (nI i + 2).toNatClampNeg = z := ⟨_, rfl⟩
  have h := hop M hM ()
  refine V_aload_n hC rfl dL_law_416 ?_
  refine V_calli (As := []) hC (c_SR_undo X.2.1 g (156, fun _ => none) fu _ 0 M ok0 h) mw_X10_undo (by decide) tw_535 ok0 (by decide) rfl rfl rfl (Nat.le_of_ble_eq_true rfl) hr dL_law_417 (fun r1 M1 h => ?_)
  refine V_aload_n hC rfl dL_law_420 ?_
  refine V_calli (As := []) hC (c_Md_undo X.2.1 g (156, fun _ => none) fu _ 145 M1 ok145 h) mw_X11_undo (by decide) tw_1001 ok145 (by decide) rfl rfl rfl (Nat.le_of_ble_eq_true rfl) hr dL_law_421 (fun r2 M2 h => ?_)
  obtain ⟨rfl, hM2⟩ := h
  refine V_icmp_eq (tgt := 862) hC dL_law_424 (by decide) (fun _ => ?_) (fun q => absurd rfl q)
  exact hback M2 hM2
set_option maxRecDepth 100000 in
theorem law_11 {X : CX} {g : GX} {fu k ns b L i : Nat} {Q : State → Prop} {xs : Nat → Int32} {R : Mm → Prop} {M : Mm} (hC : Cx X g code 4 RL ret 11) (hr : k ≤ X.2.2.2.1.cells ∧ ns ≤ X.2.2.2.1.slots) (hXs : va_X b L xs X.2.2.2.2.1 X.2.2.2.2.1.heap) (hbl : b < X.2.2.2.2.1.heap.size) (hbA : ¬ Af g b) (hi : i + 2 < L) (hL : L ≤ 1536) (hop : op_11 fu R) (hM : R M) (hback : ∀ M2, R M2 → V X g (156, fun _ => none) 4 k ns Q 862 [some (.ref b), some (ob g 0), some (ob g 145), some (.int (nI i))] [] M2) : V X g (156, fun _ => none) 4 k ns Q 429 [some (.ref b), some (ob g 0), some (ob g 145), some (.int (nI i))] [] M := by
  have ok0 := ok_156_0
  have ok145 := ok_156_145
  have h1 : vp_in (nI i + 1) L := by rw [nI_1]; exact vp_in_nI (by omega) (by omega)
  have h2 : vp_in (nI i + 2) L := by rw [show nI i + 2 = nI (i + 2) from nI_add i 2]; exact vp_in_nI (by omega) (by omega)
  obtain ⟨a1, e1⟩ : ∃ z, xs (nI i + 1).toNatClampNeg = z := ⟨_, rfl⟩
  obtain ⟨a2, e2⟩ : ∃ z, xs (nI i + 2).toNatClampNeg = z := ⟨_, rfl⟩
  have h := hop M hM ()
  refine V_aload_n hC rfl dL_law_429 ?_
  refine V_calli (As := []) hC (c_SR_stateCount X.2.1 g (156, fun _ => none) fu _ 0 M ok0 h) mw_X10_stateCount (by decide) tw_543 ok0 (by decide) rfl rfl rfl (Nat.le_of_ble_eq_true rfl) hr dL_law_430 (fun r1 M1 h => ?_)
  refine V_aload_n hC rfl dL_law_433 ?_
  refine V_calli (As := []) hC (c_Md_stateCount X.2.1 g (156, fun _ => none) fu _ 145 M1 ok145 h) mw_X11_stateCount (by decide) tw_1005 ok145 (by decide) rfl rfl rfl (Nat.le_of_ble_eq_true rfl) hr dL_law_434 (fun r2 M2 h => ?_)
  obtain ⟨rfl, hM2⟩ := h
  refine V_icmp_eq (tgt := 862) hC dL_law_437 (by decide) (fun _ => ?_) (fun q => absurd rfl q)
  exact hback M2 hM2
set_option maxRecDepth 100000 in
theorem law_12 {X : CX} {g : GX} {fu k ns b L i : Nat} {Q : State → Prop} {xs : Nat → Int32} {R : Mm → Prop} {M : Mm} (hC : Cx X g code 4 RL ret 11) (hr : k ≤ X.2.2.2.1.cells ∧ ns ≤ X.2.2.2.1.slots) (hXs : va_X b L xs X.2.2.2.2.1 X.2.2.2.2.1.heap) (hbl : b < X.2.2.2.2.1.heap.size) (hbA : ¬ Af g b) (hi : i + 2 < L) (hL : L ≤ 1536) (hop : op_12 fu R) (hM : R M) (hback : ∀ M2, R M2 → V X g (156, fun _ => none) 4 k ns Q 862 [some (.ref b), some (ob g 0), some (ob g 145), some (.int (nI i))] [] M2) : V X g (156, fun _ => none) 4 k ns Q 442 [some (.ref b), some (ob g 0), some (ob g 145), some (.int (nI i))] [] M := by
  have ok0 := ok_156_0
  have ok145 := ok_156_145
  have h1 : vp_in (nI i + 1) L := by rw [nI_1]; exact vp_in_nI (by omega) (by omega)
  have h2 : vp_in (nI i + 2) L := by rw [show nI i + 2 = nI (i + 2) from nI_add i 2]; exact vp_in_nI (by omega) (by omega)
  obtain ⟨a1, e1⟩ : ∃ z, xs (nI i + 1).toNatClampNeg = z := ⟨_, rfl⟩
  obtain ⟨a2, e2⟩ : ∃ z, xs (nI i + 2).toNatClampNeg = z := ⟨_, rfl⟩
  have h := hop M hM a1
  refine V_aload_n hC rfl dL_law_442 ?_
  refine V_aload_n hC rfl dL_law_443 ?_
  refine V_iload_n hC rfl dL_law_444 ?_
  refine V_iconst (v := 1) hC (by decide) dL_law_445 ?_
  refine V_iadd hC dL_law_446 ?_
  refine V_scr hC hXs hbl hbA h1 dL_law_447 ?_
  rw [e1]
  refine V_calli (As := [.int a1]) hC (c_SR_isAccepting X.2.1 g (156, fun _ => none) fu _ 0 a1 M ok0 h) mw_X10_isAccepting (by decide) tw_547 ok0 (by decide) rfl rfl rfl (Nat.le_of_ble_eq_true rfl) hr dL_law_448 (fun r1 M1 h => ?_)
  refine V_aload_n hC rfl dL_law_451 ?_
  refine V_aload_n hC rfl dL_law_452 ?_
  refine V_iload_n hC rfl dL_law_453 ?_
  refine V_iconst (v := 1) hC (by decide) dL_law_454 ?_
  refine V_iadd hC dL_law_455 ?_
  refine V_scr hC hXs hbl hbA h1 dL_law_456 ?_
  rw [e1]
  refine V_calli (As := [.int a1]) hC (c_Md_isAccepting X.2.1 g (156, fun _ => none) fu _ 145 a1 M1 ok145 h) mw_X11_isAccepting (by decide) tw_1009 ok145 (by decide) rfl rfl rfl (Nat.le_of_ble_eq_true rfl) hr dL_law_457 (fun r2 M2 h => ?_)
  obtain ⟨rfl, hM2⟩ := h
  refine V_icmp_eq (tgt := 862) hC dL_law_460 (by decide) (fun _ => ?_) (fun q => absurd rfl q)
  exact hback M2 hM2
set_option maxRecDepth 100000 in
theorem law_13 {X : CX} {g : GX} {fu k ns b L i : Nat} {Q : State → Prop} {xs : Nat → Int32} {R : Mm → Prop} {M : Mm} (hC : Cx X g code 4 RL ret 11) (hr : k ≤ X.2.2.2.1.cells ∧ ns ≤ X.2.2.2.1.slots) (hXs : va_X b L xs X.2.2.2.2.1 X.2.2.2.2.1.heap) (hbl : b < X.2.2.2.2.1.heap.size) (hbA : ¬ Af g b) (hi : i + 2 < L) (hL : L ≤ 1536) (hop : op_13 fu R) (hM : R M) (hback : ∀ M2, R M2 → V X g (156, fun _ => none) 4 k ns Q 862 [some (.ref b), some (ob g 0), some (ob g 145), some (.int (nI i))] [] M2) : V X g (156, fun _ => none) 4 k ns Q 465 [some (.ref b), some (ob g 0), some (ob g 145), some (.int (nI i))] [] M := by
  have ok0 := ok_156_0
  have ok145 := ok_156_145
  have h1 : vp_in (nI i + 1) L := by rw [nI_1]; exact vp_in_nI (by omega) (by omega)
  have h2 : vp_in (nI i + 2) L := by rw [show nI i + 2 = nI (i + 2) from nI_add i 2]; exact vp_in_nI (by omega) (by omega)
  obtain ⟨a1, e1⟩ : ∃ z, xs (nI i + 1).toNatClampNeg = z := ⟨_, rfl⟩
  obtain ⟨a2, e2⟩ : ∃ z, xs (nI i + 2).toNatClampNeg = z := ⟨_, rfl⟩
  have h := hop M hM ()
  refine V_aload_n hC rfl dL_law_465 ?_
  refine V_calli (As := []) hC (c_SR_ruleCount X.2.1 g (156, fun _ => none) fu _ 0 M ok0 h) mw_X10_ruleCount (by decide) tw_555 ok0 (by decide) rfl rfl rfl (Nat.le_of_ble_eq_true rfl) hr dL_law_466 (fun r1 M1 h => ?_)
  refine V_aload_n hC rfl dL_law_469 ?_
  refine V_calli (As := []) hC (c_Md_ruleCount X.2.1 g (156, fun _ => none) fu _ 145 M1 ok145 h) mw_X11_ruleCount (by decide) tw_1013 ok145 (by decide) rfl rfl rfl (Nat.le_of_ble_eq_true rfl) hr dL_law_470 (fun r2 M2 h => ?_)
  obtain ⟨rfl, hM2⟩ := h
  refine V_icmp_eq (tgt := 862) hC dL_law_473 (by decide) (fun _ => ?_) (fun q => absurd rfl q)
  exact hback M2 hM2
set_option maxRecDepth 100000 in
theorem law_14 {X : CX} {g : GX} {fu k ns b L i : Nat} {Q : State → Prop} {xs : Nat → Int32} {R : Mm → Prop} {M : Mm} (hC : Cx X g code 4 RL ret 11) (hr : k ≤ X.2.2.2.1.cells ∧ ns ≤ X.2.2.2.1.slots) (hXs : va_X b L xs X.2.2.2.2.1 X.2.2.2.2.1.heap) (hbl : b < X.2.2.2.2.1.heap.size) (hbA : ¬ Af g b) (hi : i + 2 < L) (hL : L ≤ 1536) (hop : op_14 fu R) (hM : R M) (hback : ∀ M2, R M2 → V X g (156, fun _ => none) 4 k ns Q 862 [some (.ref b), some (ob g 0), some (ob g 145), some (.int (nI i))] [] M2) : V X g (156, fun _ => none) 4 k ns Q 478 [some (.ref b), some (ob g 0), some (ob g 145), some (.int (nI i))] [] M := by
  have ok0 := ok_156_0
  have ok145 := ok_156_145
  have h1 : vp_in (nI i + 1) L := by rw [nI_1]; exact vp_in_nI (by omega) (by omega)
  have h2 : vp_in (nI i + 2) L := by rw [show nI i + 2 = nI (i + 2) from nI_add i 2]; exact vp_in_nI (by omega) (by omega)
  obtain ⟨a1, e1⟩ : ∃ z, xs (nI i + 1).toNatClampNeg = z := ⟨_, rfl⟩
  obtain ⟨a2, e2⟩ : ∃ z, xs (nI i + 2).toNatClampNeg = z := ⟨_, rfl⟩
  have h := hop M hM ()
  refine V_aload_n hC rfl dL_law_478 ?_
  refine V_calli (As := []) hC (c_SR_tokenCount X.2.1 g (156, fun _ => none) fu _ 0 M ok0 h) mw_X10_tokenCount (by decide) tw_563 ok0 (by decide) rfl rfl rfl (Nat.le_of_ble_eq_true rfl) hr dL_law_479 (fun r1 M1 h => ?_)
  refine V_aload_n hC rfl dL_law_482 ?_
  refine V_calli (As := []) hC (c_Md_tokenCount X.2.1 g (156, fun _ => none) fu _ 145 M1 ok145 h) mw_X11_tokenCount (by decide) tw_1017 ok145 (by decide) rfl rfl rfl (Nat.le_of_ble_eq_true rfl) hr dL_law_483 (fun r2 M2 h => ?_)
  obtain ⟨rfl, hM2⟩ := h
  refine V_icmp_eq (tgt := 862) hC dL_law_486 (by decide) (fun _ => ?_) (fun q => absurd rfl q)
  exact hback M2 hM2
set_option maxRecDepth 100000 in
theorem law_15 {X : CX} {g : GX} {fu k ns b L i : Nat} {Q : State → Prop} {xs : Nat → Int32} {R : Mm → Prop} {M : Mm} (hC : Cx X g code 4 RL ret 11) (hr : k ≤ X.2.2.2.1.cells ∧ ns ≤ X.2.2.2.1.slots) (hXs : va_X b L xs X.2.2.2.2.1 X.2.2.2.2.1.heap) (hbl : b < X.2.2.2.2.1.heap.size) (hbA : ¬ Af g b) (hi : i + 2 < L) (hL : L ≤ 1536) (hop : op_15 fu R) (hM : R M) (hback : ∀ M2, R M2 → V X g (156, fun _ => none) 4 k ns Q 862 [some (.ref b), some (ob g 0), some (ob g 145), some (.int (nI i))] [] M2) : V X g (156, fun _ => none) 4 k ns Q 491 [some (.ref b), some (ob g 0), some (ob g 145), some (.int (nI i))] [] M := by
  have ok0 := ok_156_0
  have ok145 := ok_156_145
  have h1 : vp_in (nI i + 1) L := by rw [nI_1]; exact vp_in_nI (by omega) (by omega)
  have h2 : vp_in (nI i + 2) L := by rw [show nI i + 2 = nI (i + 2) from nI_add i 2]; exact vp_in_nI (by omega) (by omega)
  obtain ⟨a1, e1⟩ : ∃ z, xs (nI i + 1).toNatClampNeg = z := ⟨_, rfl⟩
  obtain ⟨a2, e2⟩ : ∃ z, xs (nI i + 2).toNatClampNeg = z := ⟨_, rfl⟩
  have h := hop M hM a1
  refine V_aload_n hC rfl dL_law_491 ?_
  refine V_aload_n hC rfl dL_law_492 ?_
  refine V_iload_n hC rfl dL_law_493 ?_
  refine V_iconst (v := 1) hC (by decide) dL_law_494 ?_
  refine V_iadd hC dL_law_495 ?_
  refine V_scr hC hXs hbl hbA h1 dL_law_496 ?_
  rw [e1]
  refine V_calli (As := [.int a1]) hC (c_SR_tokenAt X.2.1 g (156, fun _ => none) fu _ 0 a1 M ok0 h) mw_X10_tokenAt (by decide) tw_567 ok0 (by decide) rfl rfl rfl (Nat.le_of_ble_eq_true rfl) hr dL_law_497 (fun r1 M1 h => ?_)
  refine V_aload_n hC rfl dL_law_500 ?_
  refine V_aload_n hC rfl dL_law_501 ?_
  refine V_iload_n hC rfl dL_law_502 ?_
  refine V_iconst (v := 1) hC (by decide) dL_law_503 ?_
  refine V_iadd hC dL_law_504 ?_
  refine V_scr hC hXs hbl hbA h1 dL_law_505 ?_
  rw [e1]
  refine V_calli (As := [.int a1]) hC (c_Md_tokenAt X.2.1 g (156, fun _ => none) fu _ 145 a1 M1 ok145 h) mw_X11_tokenAt (by decide) tw_1021 ok145 (by decide) rfl rfl rfl (Nat.le_of_ble_eq_true rfl) hr dL_law_506 (fun r2 M2 h => ?_)
  obtain ⟨rfl, hM2⟩ := h
  refine V_icmp_eq (tgt := 862) hC dL_law_509 (by decide) (fun _ => ?_) (fun q => absurd rfl q)
  exact hback M2 hM2
set_option maxRecDepth 100000 in
theorem law_16 {X : CX} {g : GX} {fu k ns b L i : Nat} {Q : State → Prop} {xs : Nat → Int32} {R : Mm → Prop} {M : Mm} (hC : Cx X g code 4 RL ret 11) (hr : k ≤ X.2.2.2.1.cells ∧ ns ≤ X.2.2.2.1.slots) (hXs : va_X b L xs X.2.2.2.2.1 X.2.2.2.2.1.heap) (hbl : b < X.2.2.2.2.1.heap.size) (hbA : ¬ Af g b) (hi : i + 2 < L) (hL : L ≤ 1536) (hop : op_16 fu R) (hM : R M) (hback : ∀ M2, R M2 → V X g (156, fun _ => none) 4 k ns Q 862 [some (.ref b), some (ob g 0), some (ob g 145), some (.int (nI i))] [] M2) : V X g (156, fun _ => none) 4 k ns Q 514 [some (.ref b), some (ob g 0), some (ob g 145), some (.int (nI i))] [] M := by
  have ok0 := ok_156_0
  have ok145 := ok_156_145
  have h1 : vp_in (nI i + 1) L := by rw [nI_1]; exact vp_in_nI (by omega) (by omega)
  have h2 : vp_in (nI i + 2) L := by rw [show nI i + 2 = nI (i + 2) from nI_add i 2]; exact vp_in_nI (by omega) (by omega)
  obtain ⟨a1, e1⟩ : ∃ z, xs (nI i + 1).toNatClampNeg = z := ⟨_, rfl⟩
  obtain ⟨a2, e2⟩ : ∃ z, xs (nI i + 2).toNatClampNeg = z := ⟨_, rfl⟩
  have h := hop M hM ()
  refine V_aload_n hC rfl dL_law_514 ?_
  refine V_calli (As := []) hC (c_SR_errorPosition X.2.1 g (156, fun _ => none) fu _ 0 M ok0 h) mw_X10_errorPosition (by decide) tw_572 ok0 (by decide) rfl rfl rfl (Nat.le_of_ble_eq_true rfl) hr dL_law_515 (fun r1 M1 h => ?_)
  refine V_aload_n hC rfl dL_law_518 ?_
  refine V_calli (As := []) hC (c_Md_errorPosition X.2.1 g (156, fun _ => none) fu _ 145 M1 ok145 h) mw_X11_errorPosition (by decide) tw_1025 ok145 (by decide) rfl rfl rfl (Nat.le_of_ble_eq_true rfl) hr dL_law_519 (fun r2 M2 h => ?_)
  obtain ⟨rfl, hM2⟩ := h
  refine V_icmp_eq (tgt := 862) hC dL_law_522 (by decide) (fun _ => ?_) (fun q => absurd rfl q)
  exact hback M2 hM2
set_option maxRecDepth 100000 in
theorem law_17 {X : CX} {g : GX} {fu k ns b L i : Nat} {Q : State → Prop} {xs : Nat → Int32} {R : Mm → Prop} {M : Mm} (hC : Cx X g code 4 RL ret 11) (hr : k ≤ X.2.2.2.1.cells ∧ ns ≤ X.2.2.2.1.slots) (hXs : va_X b L xs X.2.2.2.2.1 X.2.2.2.2.1.heap) (hbl : b < X.2.2.2.2.1.heap.size) (hbA : ¬ Af g b) (hi : i + 2 < L) (hL : L ≤ 1536) (hop : op_17 fu R) (hM : R M) (hback : ∀ M2, R M2 → V X g (156, fun _ => none) 4 k ns Q 862 [some (.ref b), some (ob g 0), some (ob g 145), some (.int (nI i))] [] M2) : V X g (156, fun _ => none) 4 k ns Q 527 [some (.ref b), some (ob g 0), some (ob g 145), some (.int (nI i))] [] M := by
  have ok0 := ok_156_0
  have ok145 := ok_156_145
  have h1 : vp_in (nI i + 1) L := by rw [nI_1]; exact vp_in_nI (by omega) (by omega)
  have h2 : vp_in (nI i + 2) L := by rw [show nI i + 2 = nI (i + 2) from nI_add i 2]; exact vp_in_nI (by omega) (by omega)
  obtain ⟨a1, e1⟩ : ∃ z, xs (nI i + 1).toNatClampNeg = z := ⟨_, rfl⟩
  obtain ⟨a2, e2⟩ : ∃ z, xs (nI i + 2).toNatClampNeg = z := ⟨_, rfl⟩
  have h := hop M hM a1
  refine V_aload_n hC rfl dL_law_527 ?_
  refine V_aload_n hC rfl dL_law_528 ?_
  refine V_iload_n hC rfl dL_law_529 ?_
  refine V_iconst (v := 1) hC (by decide) dL_law_530 ?_
  refine V_iadd hC dL_law_531 ?_
  refine V_scr hC hXs hbl hbA h1 dL_law_532 ?_
  rw [e1]
  refine V_calli (As := [.int a1]) hC (c_SR_stateAfter X.2.1 g (156, fun _ => none) fu _ 0 a1 M ok0 h) mw_X10_stateAfter (by decide) tw_603 ok0 (by decide) rfl rfl rfl (Nat.le_of_ble_eq_true rfl) hr dL_law_533 (fun r1 M1 h => ?_)
  refine V_aload_n hC rfl dL_law_536 ?_
  refine V_aload_n hC rfl dL_law_537 ?_
  refine V_iload_n hC rfl dL_law_538 ?_
  refine V_iconst (v := 1) hC (by decide) dL_law_539 ?_
  refine V_iadd hC dL_law_540 ?_
  refine V_scr hC hXs hbl hbA h1 dL_law_541 ?_
  rw [e1]
  refine V_calli (As := [.int a1]) hC (c_Md_stateAfter X.2.1 g (156, fun _ => none) fu _ 145 a1 M1 ok145 h) mw_X11_stateAfter (by decide) tw_1045 ok145 (by decide) rfl rfl rfl (Nat.le_of_ble_eq_true rfl) hr dL_law_542 (fun r2 M2 h => ?_)
  obtain ⟨rfl, hM2⟩ := h
  refine V_icmp_eq (tgt := 862) hC dL_law_545 (by decide) (fun _ => ?_) (fun q => absurd rfl q)
  exact hback M2 hM2
set_option maxRecDepth 100000 in
theorem law_18 {X : CX} {g : GX} {fu k ns b L i : Nat} {Q : State → Prop} {xs : Nat → Int32} {R : Mm → Prop} {M : Mm} (hC : Cx X g code 4 RL ret 11) (hr : k ≤ X.2.2.2.1.cells ∧ ns ≤ X.2.2.2.1.slots) (hXs : va_X b L xs X.2.2.2.2.1 X.2.2.2.2.1.heap) (hbl : b < X.2.2.2.2.1.heap.size) (hbA : ¬ Af g b) (hi : i + 2 < L) (hL : L ≤ 1536) (hop : op_18 fu R) (hM : R M) (hback : ∀ M2, R M2 → V X g (156, fun _ => none) 4 k ns Q 862 [some (.ref b), some (ob g 0), some (ob g 145), some (.int (nI i))] [] M2) : V X g (156, fun _ => none) 4 k ns Q 550 [some (.ref b), some (ob g 0), some (ob g 145), some (.int (nI i))] [] M := by
  have ok0 := ok_156_0
  have ok145 := ok_156_145
  have h1 : vp_in (nI i + 1) L := by rw [nI_1]; exact vp_in_nI (by omega) (by omega)
  have h2 : vp_in (nI i + 2) L := by rw [show nI i + 2 = nI (i + 2) from nI_add i 2]; exact vp_in_nI (by omega) (by omega)
  obtain ⟨a1, e1⟩ : ∃ z, xs (nI i + 1).toNatClampNeg = z := ⟨_, rfl⟩
  obtain ⟨a2, e2⟩ : ∃ z, xs (nI i + 2).toNatClampNeg = z := ⟨_, rfl⟩
  have h := hop M hM a1
  refine V_aload_n hC rfl dL_law_550 ?_
  refine V_aload_n hC rfl dL_law_551 ?_
  refine V_iload_n hC rfl dL_law_552 ?_
  refine V_iconst (v := 1) hC (by decide) dL_law_553 ?_
  refine V_iadd hC dL_law_554 ?_
  refine V_scr hC hXs hbl hbA h1 dL_law_555 ?_
  rw [e1]
  refine V_calli (As := [.int a1]) hC (c_SR_depthAfter X.2.1 g (156, fun _ => none) fu _ 0 a1 M ok0 h) mw_X10_depthAfter (by decide) tw_611 ok0 (by decide) rfl rfl rfl (Nat.le_of_ble_eq_true rfl) hr dL_law_556 (fun r1 M1 h => ?_)
  refine V_aload_n hC rfl dL_law_559 ?_
  refine V_aload_n hC rfl dL_law_560 ?_
  refine V_iload_n hC rfl dL_law_561 ?_
  refine V_iconst (v := 1) hC (by decide) dL_law_562 ?_
  refine V_iadd hC dL_law_563 ?_
  refine V_scr hC hXs hbl hbA h1 dL_law_564 ?_
  rw [e1]
  refine V_calli (As := [.int a1]) hC (c_Md_depthAfter X.2.1 g (156, fun _ => none) fu _ 145 a1 M1 ok145 h) mw_X11_depthAfter (by decide) tw_1053 ok145 (by decide) rfl rfl rfl (Nat.le_of_ble_eq_true rfl) hr dL_law_565 (fun r2 M2 h => ?_)
  obtain ⟨rfl, hM2⟩ := h
  refine V_icmp_eq (tgt := 862) hC dL_law_568 (by decide) (fun _ => ?_) (fun q => absurd rfl q)
  exact hback M2 hM2
set_option maxRecDepth 100000 in
theorem law_19 {X : CX} {g : GX} {fu k ns b L i : Nat} {Q : State → Prop} {xs : Nat → Int32} {R : Mm → Prop} {M : Mm} (hC : Cx X g code 4 RL ret 11) (hr : k ≤ X.2.2.2.1.cells ∧ ns ≤ X.2.2.2.1.slots) (hXs : va_X b L xs X.2.2.2.2.1 X.2.2.2.2.1.heap) (hbl : b < X.2.2.2.2.1.heap.size) (hbA : ¬ Af g b) (hi : i + 2 < L) (hL : L ≤ 1536) (hop : op_19 fu R) (hM : R M) (hback : ∀ M2, R M2 → V X g (156, fun _ => none) 4 k ns Q 862 [some (.ref b), some (ob g 0), some (ob g 145), some (.int (nI i))] [] M2) : V X g (156, fun _ => none) 4 k ns Q 573 [some (.ref b), some (ob g 0), some (ob g 145), some (.int (nI i))] [] M := by
  have ok0 := ok_156_0
  have ok145 := ok_156_145
  have h1 : vp_in (nI i + 1) L := by rw [nI_1]; exact vp_in_nI (by omega) (by omega)
  have h2 : vp_in (nI i + 2) L := by rw [show nI i + 2 = nI (i + 2) from nI_add i 2]; exact vp_in_nI (by omega) (by omega)
  obtain ⟨a1, e1⟩ : ∃ z, xs (nI i + 1).toNatClampNeg = z := ⟨_, rfl⟩
  obtain ⟨a2, e2⟩ : ∃ z, xs (nI i + 2).toNatClampNeg = z := ⟨_, rfl⟩
  have h := hop M hM ()
  refine V_aload_n hC rfl dL_law_573 ?_
  refine V_calli (As := []) hC (c_SR_expectedKinds X.2.1 g (156, fun _ => none) fu _ 0 M ok0 h) mw_X10_expectedKinds (by decide) tw_618 ok0 (by decide) rfl rfl rfl (Nat.le_of_ble_eq_true rfl) hr dL_law_574 (fun r1 M1 h => ?_)
  refine V_aload_n hC rfl dL_law_577 ?_
  refine V_calli (As := []) hC (c_Md_expectedKinds X.2.1 g (156, fun _ => none) fu _ 145 M1 ok145 h) mw_X11_expectedKinds (by decide) tw_1060 ok145 (by decide) rfl rfl rfl (Nat.le_of_ble_eq_true rfl) hr dL_law_578 (fun r2 M2 h => ?_)
  obtain ⟨rfl, hM2⟩ := h
  refine V_icmp_eq (tgt := 862) hC dL_law_581 (by decide) (fun _ => ?_) (fun q => absurd rfl q)
  exact hback M2 hM2
set_option maxRecDepth 100000 in
theorem law_20 {X : CX} {g : GX} {fu k ns b L i : Nat} {Q : State → Prop} {xs : Nat → Int32} {R : Mm → Prop} {M : Mm} (hC : Cx X g code 4 RL ret 11) (hr : k ≤ X.2.2.2.1.cells ∧ ns ≤ X.2.2.2.1.slots) (hXs : va_X b L xs X.2.2.2.2.1 X.2.2.2.2.1.heap) (hbl : b < X.2.2.2.2.1.heap.size) (hbA : ¬ Af g b) (hi : i + 2 < L) (hL : L ≤ 1536) (hop : op_20 fu R) (hM : R M) (hback : ∀ M2, R M2 → V X g (156, fun _ => none) 4 k ns Q 862 [some (.ref b), some (ob g 0), some (ob g 145), some (.int (nI i))] [] M2) : V X g (156, fun _ => none) 4 k ns Q 586 [some (.ref b), some (ob g 0), some (ob g 145), some (.int (nI i))] [] M := by
  have ok0 := ok_156_0
  have ok145 := ok_156_145
  have h1 : vp_in (nI i + 1) L := by rw [nI_1]; exact vp_in_nI (by omega) (by omega)
  have h2 : vp_in (nI i + 2) L := by rw [show nI i + 2 = nI (i + 2) from nI_add i 2]; exact vp_in_nI (by omega) (by omega)
  obtain ⟨a1, e1⟩ : ∃ z, xs (nI i + 1).toNatClampNeg = z := ⟨_, rfl⟩
  obtain ⟨a2, e2⟩ : ∃ z, xs (nI i + 2).toNatClampNeg = z := ⟨_, rfl⟩
  have h := hop M hM ()
  refine V_aload_n hC rfl dL_law_586 ?_
  refine V_calli (As := []) hC (c_SR_repairCost X.2.1 g (156, fun _ => none) fu _ 0 M ok0 h) mw_X10_repairCost (by decide) tw_623 ok0 (by decide) rfl rfl rfl (Nat.le_of_ble_eq_true rfl) hr dL_law_587 (fun r1 M1 h => ?_)
  refine V_aload_n hC rfl dL_law_590 ?_
  refine V_calli (As := []) hC (c_Md_repairCost X.2.1 g (156, fun _ => none) fu _ 145 M1 ok145 h) mw_X11_repairCost (by decide) tw_1064 ok145 (by decide) rfl rfl rfl (Nat.le_of_ble_eq_true rfl) hr dL_law_591 (fun r2 M2 h => ?_)
  obtain ⟨rfl, hM2⟩ := h
  refine V_icmp_eq (tgt := 862) hC dL_law_594 (by decide) (fun _ => ?_) (fun q => absurd rfl q)
  exact hback M2 hM2
set_option maxRecDepth 100000 in
theorem law_21 {X : CX} {g : GX} {fu k ns b L i : Nat} {Q : State → Prop} {xs : Nat → Int32} {R : Mm → Prop} {M : Mm} (hC : Cx X g code 4 RL ret 11) (hr : k ≤ X.2.2.2.1.cells ∧ ns ≤ X.2.2.2.1.slots) (hXs : va_X b L xs X.2.2.2.2.1 X.2.2.2.2.1.heap) (hbl : b < X.2.2.2.2.1.heap.size) (hbA : ¬ Af g b) (hi : i + 2 < L) (hL : L ≤ 1536) (hop : op_21 fu R) (hM : R M) (hback : ∀ M2, R M2 → V X g (156, fun _ => none) 4 k ns Q 862 [some (.ref b), some (ob g 0), some (ob g 145), some (.int (nI i))] [] M2) : V X g (156, fun _ => none) 4 k ns Q 599 [some (.ref b), some (ob g 0), some (ob g 145), some (.int (nI i))] [] M := by
  have ok0 := ok_156_0
  have ok145 := ok_156_145
  have h1 : vp_in (nI i + 1) L := by rw [nI_1]; exact vp_in_nI (by omega) (by omega)
  have h2 : vp_in (nI i + 2) L := by rw [show nI i + 2 = nI (i + 2) from nI_add i 2]; exact vp_in_nI (by omega) (by omega)
  obtain ⟨a1, e1⟩ : ∃ z, xs (nI i + 1).toNatClampNeg = z := ⟨_, rfl⟩
  obtain ⟨a2, e2⟩ : ∃ z, xs (nI i + 2).toNatClampNeg = z := ⟨_, rfl⟩
  have h := hop M hM ()
  refine V_aload_n hC rfl dL_law_599 ?_
  refine V_calli (As := []) hC (c_SR_repairCount X.2.1 g (156, fun _ => none) fu _ 0 M ok0 h) mw_X10_repairCount (by decide) tw_691 ok0 (by decide) rfl rfl rfl (Nat.le_of_ble_eq_true rfl) hr dL_law_600 (fun r1 M1 h => ?_)
  refine V_aload_n hC rfl dL_law_603 ?_
  refine V_calli (As := []) hC (c_Md_repairCount X.2.1 g (156, fun _ => none) fu _ 145 M1 ok145 h) mw_X11_repairCount (by decide) tw_1092 ok145 (by decide) rfl rfl rfl (Nat.le_of_ble_eq_true rfl) hr dL_law_604 (fun r2 M2 h => ?_)
  obtain ⟨rfl, hM2⟩ := h
  refine V_icmp_eq (tgt := 862) hC dL_law_607 (by decide) (fun _ => ?_) (fun q => absurd rfl q)
  exact hback M2 hM2
set_option maxRecDepth 100000 in
theorem law_22 {X : CX} {g : GX} {fu k ns b L i : Nat} {Q : State → Prop} {xs : Nat → Int32} {R : Mm → Prop} {M : Mm} (hC : Cx X g code 4 RL ret 11) (hr : k ≤ X.2.2.2.1.cells ∧ ns ≤ X.2.2.2.1.slots) (hXs : va_X b L xs X.2.2.2.2.1 X.2.2.2.2.1.heap) (hbl : b < X.2.2.2.2.1.heap.size) (hbA : ¬ Af g b) (hi : i + 2 < L) (hL : L ≤ 1536) (hop : op_22 fu R) (hM : R M) (hback : ∀ M2, R M2 → V X g (156, fun _ => none) 4 k ns Q 862 [some (.ref b), some (ob g 0), some (ob g 145), some (.int (nI i))] [] M2) : V X g (156, fun _ => none) 4 k ns Q 612 [some (.ref b), some (ob g 0), some (ob g 145), some (.int (nI i))] [] M := by
  have ok0 := ok_156_0
  have ok145 := ok_156_145
  have h1 : vp_in (nI i + 1) L := by rw [nI_1]; exact vp_in_nI (by omega) (by omega)
  have h2 : vp_in (nI i + 2) L := by rw [show nI i + 2 = nI (i + 2) from nI_add i 2]; exact vp_in_nI (by omega) (by omega)
  obtain ⟨a1, e1⟩ : ∃ z, xs (nI i + 1).toNatClampNeg = z := ⟨_, rfl⟩
  obtain ⟨a2, e2⟩ : ∃ z, xs (nI i + 2).toNatClampNeg = z := ⟨_, rfl⟩
  have h := hop M hM ()
  refine V_aload_n hC rfl dL_law_612 ?_
  refine V_calli (As := []) hC (c_SR_secondCost X.2.1 g (156, fun _ => none) fu _ 0 M ok0 h) mw_X10_secondCost (by decide) tw_699 ok0 (by decide) rfl rfl rfl (Nat.le_of_ble_eq_true rfl) hr dL_law_613 (fun r1 M1 h => ?_)
  refine V_aload_n hC rfl dL_law_616 ?_
  refine V_calli (As := []) hC (c_Md_secondCost X.2.1 g (156, fun _ => none) fu _ 145 M1 ok145 h) mw_X11_secondCost (by decide) tw_1108 ok145 (by decide) rfl rfl rfl (Nat.le_of_ble_eq_true rfl) hr dL_law_617 (fun r2 M2 h => ?_)
  obtain ⟨rfl, hM2⟩ := h
  refine V_icmp_eq (tgt := 862) hC dL_law_620 (by decide) (fun _ => ?_) (fun q => absurd rfl q)
  exact hback M2 hM2
set_option maxRecDepth 100000 in
theorem law_23 {X : CX} {g : GX} {fu k ns b L i : Nat} {Q : State → Prop} {xs : Nat → Int32} {R : Mm → Prop} {M : Mm} (hC : Cx X g code 4 RL ret 11) (hr : k ≤ X.2.2.2.1.cells ∧ ns ≤ X.2.2.2.1.slots) (hXs : va_X b L xs X.2.2.2.2.1 X.2.2.2.2.1.heap) (hbl : b < X.2.2.2.2.1.heap.size) (hbA : ¬ Af g b) (hi : i + 2 < L) (hL : L ≤ 1536) (hop : op_23 fu R) (hM : R M) (hback : ∀ M2, R M2 → V X g (156, fun _ => none) 4 k ns Q 862 [some (.ref b), some (ob g 0), some (ob g 145), some (.int (nI i))] [] M2) : V X g (156, fun _ => none) 4 k ns Q 625 [some (.ref b), some (ob g 0), some (ob g 145), some (.int (nI i))] [] M := by
  have ok0 := ok_156_0
  have ok145 := ok_156_145
  have h1 : vp_in (nI i + 1) L := by rw [nI_1]; exact vp_in_nI (by omega) (by omega)
  have h2 : vp_in (nI i + 2) L := by rw [show nI i + 2 = nI (i + 2) from nI_add i 2]; exact vp_in_nI (by omega) (by omega)
  obtain ⟨a1, e1⟩ : ∃ z, xs (nI i + 1).toNatClampNeg = z := ⟨_, rfl⟩
  obtain ⟨a2, e2⟩ : ∃ z, xs (nI i + 2).toNatClampNeg = z := ⟨_, rfl⟩
  have h := hop M hM a1
  refine V_aload_n hC rfl dL_law_625 ?_
  refine V_aload_n hC rfl dL_law_626 ?_
  refine V_iload_n hC rfl dL_law_627 ?_
  refine V_iconst (v := 1) hC (by decide) dL_law_628 ?_
  refine V_iadd hC dL_law_629 ?_
  refine V_scr hC hXs hbl hbA h1 dL_law_630 ?_
  rw [e1]
  refine V_calli (As := [.int a1]) hC (c_SR_repairLength X.2.1 g (156, fun _ => none) fu _ 0 a1 M ok0 h) mw_X10_repairLength (by decide) tw_707 ok0 (by decide) rfl rfl rfl (Nat.le_of_ble_eq_true rfl) hr dL_law_631 (fun r1 M1 h => ?_)
  refine V_aload_n hC rfl dL_law_634 ?_
  refine V_aload_n hC rfl dL_law_635 ?_
  refine V_iload_n hC rfl dL_law_636 ?_
  refine V_iconst (v := 1) hC (by decide) dL_law_637 ?_
  refine V_iadd hC dL_law_638 ?_
  refine V_scr hC hXs hbl hbA h1 dL_law_639 ?_
  rw [e1]
  refine V_calli (As := [.int a1]) hC (c_Md_repairLength X.2.1 g (156, fun _ => none) fu _ 145 a1 M1 ok145 h) mw_X11_repairLength (by decide) tw_1112 ok145 (by decide) rfl rfl rfl (Nat.le_of_ble_eq_true rfl) hr dL_law_640 (fun r2 M2 h => ?_)
  obtain ⟨rfl, hM2⟩ := h
  refine V_icmp_eq (tgt := 862) hC dL_law_643 (by decide) (fun _ => ?_) (fun q => absurd rfl q)
  exact hback M2 hM2
set_option maxRecDepth 100000 in
theorem law_24 {X : CX} {g : GX} {fu k ns b L i : Nat} {Q : State → Prop} {xs : Nat → Int32} {R : Mm → Prop} {M : Mm} (hC : Cx X g code 4 RL ret 11) (hr : k ≤ X.2.2.2.1.cells ∧ ns ≤ X.2.2.2.1.slots) (hXs : va_X b L xs X.2.2.2.2.1 X.2.2.2.2.1.heap) (hbl : b < X.2.2.2.2.1.heap.size) (hbA : ¬ Af g b) (hi : i + 2 < L) (hL : L ≤ 1536) (hop : op_24 fu R) (hM : R M) (hback : ∀ M2, R M2 → V X g (156, fun _ => none) 4 k ns Q 862 [some (.ref b), some (ob g 0), some (ob g 145), some (.int (nI i))] [] M2) : V X g (156, fun _ => none) 4 k ns Q 648 [some (.ref b), some (ob g 0), some (ob g 145), some (.int (nI i))] [] M := by
  have ok0 := ok_156_0
  have ok145 := ok_156_145
  have h1 : vp_in (nI i + 1) L := by rw [nI_1]; exact vp_in_nI (by omega) (by omega)
  have h2 : vp_in (nI i + 2) L := by rw [show nI i + 2 = nI (i + 2) from nI_add i 2]; exact vp_in_nI (by omega) (by omega)
  obtain ⟨a1, e1⟩ : ∃ z, xs (nI i + 1).toNatClampNeg = z := ⟨_, rfl⟩
  obtain ⟨a2, e2⟩ : ∃ z, xs (nI i + 2).toNatClampNeg = z := ⟨_, rfl⟩
  have h := hop M hM a1 a2
  refine V_aload_n hC rfl dL_law_648 ?_
  refine V_aload_n hC rfl dL_law_649 ?_
  refine V_iload_n hC rfl dL_law_650 ?_
  refine V_iconst (v := 1) hC (by decide) dL_law_651 ?_
  refine V_iadd hC dL_law_652 ?_
  refine V_scr hC hXs hbl hbA h1 dL_law_653 ?_
  rw [e1]
  refine V_aload_n hC rfl dL_law_654 ?_
  refine V_iload_n hC rfl dL_law_655 ?_
  refine V_iconst (v := 2) hC (by decide) dL_law_656 ?_
  refine V_iadd hC dL_law_657 ?_
  refine V_scr hC hXs hbl hbA h2 dL_law_658 ?_
  rw [e2]
  refine V_calli (As := [.int a1, .int a2]) hC (c_SR_repairOperation X.2.1 g (156, fun _ => none) fu _ 0 a1 a2 M ok0 h) mw_X10_repairOperation (by decide) tw_748 ok0 (by decide) rfl rfl rfl (Nat.le_of_ble_eq_true rfl) hr dL_law_659 (fun r1 M1 h => ?_)
  refine V_aload_n hC rfl dL_law_662 ?_
  refine V_aload_n hC rfl dL_law_663 ?_
  refine V_iload_n hC rfl dL_law_664 ?_
  refine V_iconst (v := 1) hC (by decide) dL_law_665 ?_
  refine V_iadd hC dL_law_666 ?_
  refine V_scr hC hXs hbl hbA h1 dL_law_667 ?_
  rw [e1]
  refine V_aload_n hC rfl dL_law_668 ?_
  refine V_iload_n hC rfl dL_law_669 ?_
  refine V_iconst (v := 2) hC (by decide) dL_law_670 ?_
  refine V_iadd hC dL_law_671 ?_
  refine V_scr hC hXs hbl hbA h2 dL_law_672 ?_
  rw [e2]
  refine V_calli (As := [.int a1, .int a2]) hC (c_Md_repairOperation X.2.1 g (156, fun _ => none) fu _ 145 a1 a2 M1 ok145 h) mw_X11_repairOperation (by decide) tw_1128 ok145 (by decide) rfl rfl rfl (Nat.le_of_ble_eq_true rfl) hr dL_law_673 (fun r2 M2 h => ?_)
  obtain ⟨rfl, hM2⟩ := h
  refine V_icmp_eq (tgt := 862) hC dL_law_676 (by decide) (fun _ => ?_) (fun q => absurd rfl q)
  exact hback M2 hM2
set_option maxRecDepth 100000 in
theorem law_25 {X : CX} {g : GX} {fu k ns b L i : Nat} {Q : State → Prop} {xs : Nat → Int32} {R : Mm → Prop} {M : Mm} (hC : Cx X g code 4 RL ret 11) (hr : k ≤ X.2.2.2.1.cells ∧ ns ≤ X.2.2.2.1.slots) (hXs : va_X b L xs X.2.2.2.2.1 X.2.2.2.2.1.heap) (hbl : b < X.2.2.2.2.1.heap.size) (hbA : ¬ Af g b) (hi : i + 2 < L) (hL : L ≤ 1536) (hop : op_25 fu R) (hM : R M) (hback : ∀ M2, R M2 → V X g (156, fun _ => none) 4 k ns Q 862 [some (.ref b), some (ob g 0), some (ob g 145), some (.int (nI i))] [] M2) : V X g (156, fun _ => none) 4 k ns Q 681 [some (.ref b), some (ob g 0), some (ob g 145), some (.int (nI i))] [] M := by
  have ok0 := ok_156_0
  have ok145 := ok_156_145
  have h1 : vp_in (nI i + 1) L := by rw [nI_1]; exact vp_in_nI (by omega) (by omega)
  have h2 : vp_in (nI i + 2) L := by rw [show nI i + 2 = nI (i + 2) from nI_add i 2]; exact vp_in_nI (by omega) (by omega)
  obtain ⟨a1, e1⟩ : ∃ z, xs (nI i + 1).toNatClampNeg = z := ⟨_, rfl⟩
  obtain ⟨a2, e2⟩ : ∃ z, xs (nI i + 2).toNatClampNeg = z := ⟨_, rfl⟩
  have h := hop M hM a1 a2
  refine V_aload_n hC rfl dL_law_681 ?_
  refine V_aload_n hC rfl dL_law_682 ?_
  refine V_iload_n hC rfl dL_law_683 ?_
  refine V_iconst (v := 1) hC (by decide) dL_law_684 ?_
  refine V_iadd hC dL_law_685 ?_
  refine V_scr hC hXs hbl hbA h1 dL_law_686 ?_
  rw [e1]
  refine V_aload_n hC rfl dL_law_687 ?_
  refine V_iload_n hC rfl dL_law_688 ?_
  refine V_iconst (v := 2) hC (by decide) dL_law_689 ?_
  refine V_iadd hC dL_law_690 ?_
  refine V_scr hC hXs hbl hbA h2 dL_law_691 ?_
  rw [e2]
  refine V_calli (As := [.int a1, .int a2]) hC (c_SR_repairKind X.2.1 g (156, fun _ => none) fu _ 0 a1 a2 M ok0 h) mw_X10_repairKind (by decide) tw_757 ok0 (by decide) rfl rfl rfl (Nat.le_of_ble_eq_true rfl) hr dL_law_692 (fun r1 M1 h => ?_)
  refine V_aload_n hC rfl dL_law_695 ?_
  refine V_aload_n hC rfl dL_law_696 ?_
  refine V_iload_n hC rfl dL_law_697 ?_
  refine V_iconst (v := 1) hC (by decide) dL_law_698 ?_
  refine V_iadd hC dL_law_699 ?_
  refine V_scr hC hXs hbl hbA h1 dL_law_700 ?_
  rw [e1]
  refine V_aload_n hC rfl dL_law_701 ?_
  refine V_iload_n hC rfl dL_law_702 ?_
  refine V_iconst (v := 2) hC (by decide) dL_law_703 ?_
  refine V_iadd hC dL_law_704 ?_
  refine V_scr hC hXs hbl hbA h2 dL_law_705 ?_
  rw [e2]
  refine V_calli (As := [.int a1, .int a2]) hC (c_Md_repairKind X.2.1 g (156, fun _ => none) fu _ 145 a1 a2 M1 ok145 h) mw_X11_repairKind (by decide) tw_1140 ok145 (by decide) rfl rfl rfl (Nat.le_of_ble_eq_true rfl) hr dL_law_706 (fun r2 M2 h => ?_)
  obtain ⟨rfl, hM2⟩ := h
  refine V_icmp_eq (tgt := 862) hC dL_law_709 (by decide) (fun _ => ?_) (fun q => absurd rfl q)
  exact hback M2 hM2
set_option maxRecDepth 100000 in
theorem law_26 {X : CX} {g : GX} {fu k ns b L i : Nat} {Q : State → Prop} {xs : Nat → Int32} {R : Mm → Prop} {M : Mm} (hC : Cx X g code 4 RL ret 11) (hr : k ≤ X.2.2.2.1.cells ∧ ns ≤ X.2.2.2.1.slots) (hXs : va_X b L xs X.2.2.2.2.1 X.2.2.2.2.1.heap) (hbl : b < X.2.2.2.2.1.heap.size) (hbA : ¬ Af g b) (hi : i + 2 < L) (hL : L ≤ 1536) (hop : op_26 fu R) (hM : R M) (hback : ∀ M2, R M2 → V X g (156, fun _ => none) 4 k ns Q 862 [some (.ref b), some (ob g 0), some (ob g 145), some (.int (nI i))] [] M2) : V X g (156, fun _ => none) 4 k ns Q 714 [some (.ref b), some (ob g 0), some (ob g 145), some (.int (nI i))] [] M := by
  have ok0 := ok_156_0
  have ok145 := ok_156_145
  have h1 : vp_in (nI i + 1) L := by rw [nI_1]; exact vp_in_nI (by omega) (by omega)
  have h2 : vp_in (nI i + 2) L := by rw [show nI i + 2 = nI (i + 2) from nI_add i 2]; exact vp_in_nI (by omega) (by omega)
  obtain ⟨a1, e1⟩ : ∃ z, xs (nI i + 1).toNatClampNeg = z := ⟨_, rfl⟩
  obtain ⟨a2, e2⟩ : ∃ z, xs (nI i + 2).toNatClampNeg = z := ⟨_, rfl⟩
  have h := hop M hM a1
  refine V_aload_n hC rfl dL_law_714 ?_
  refine V_aload_n hC rfl dL_law_715 ?_
  refine V_iload_n hC rfl dL_law_716 ?_
  refine V_iconst (v := 1) hC (by decide) dL_law_717 ?_
  refine V_iadd hC dL_law_718 ?_
  refine V_scr hC hXs hbl hbA h1 dL_law_719 ?_
  rw [e1]
  refine V_calli (As := [.int a1]) hC (c_SR_applyRepair X.2.1 g (156, fun _ => none) fu _ 0 a1 M ok0 h) mw_X10_applyRepair (by decide) tw_765 ok0 (by decide) rfl rfl rfl (Nat.le_of_ble_eq_true rfl) hr dL_law_720 (fun r1 M1 h => ?_)
  refine V_aload_n hC rfl dL_law_723 ?_
  refine V_aload_n hC rfl dL_law_724 ?_
  refine V_iload_n hC rfl dL_law_725 ?_
  refine V_iconst (v := 1) hC (by decide) dL_law_726 ?_
  refine V_iadd hC dL_law_727 ?_
  refine V_scr hC hXs hbl hbA h1 dL_law_728 ?_
  rw [e1]
  refine V_calli (As := [.int a1]) hC (c_Md_applyRepair X.2.1 g (156, fun _ => none) fu _ 145 a1 M1 ok145 h) mw_X11_applyRepair (by decide) tw_1144 ok145 (by decide) rfl rfl rfl (Nat.le_of_ble_eq_true rfl) hr dL_law_729 (fun r2 M2 h => ?_)
  obtain ⟨rfl, hM2⟩ := h
  refine V_icmp_eq (tgt := 862) hC dL_law_732 (by decide) (fun _ => ?_) (fun q => absurd rfl q)
  exact hback M2 hM2
set_option maxRecDepth 100000 in
theorem law_27 {X : CX} {g : GX} {fu k ns b L i : Nat} {Q : State → Prop} {xs : Nat → Int32} {R : Mm → Prop} {M : Mm} (hC : Cx X g code 4 RL ret 11) (hr : k ≤ X.2.2.2.1.cells ∧ ns ≤ X.2.2.2.1.slots) (hXs : va_X b L xs X.2.2.2.2.1 X.2.2.2.2.1.heap) (hbl : b < X.2.2.2.2.1.heap.size) (hbA : ¬ Af g b) (hi : i + 2 < L) (hL : L ≤ 1536) (hop : op_27 fu R) (hM : R M) (hback : ∀ M2, R M2 → V X g (156, fun _ => none) 4 k ns Q 862 [some (.ref b), some (ob g 0), some (ob g 145), some (.int (nI i))] [] M2) : V X g (156, fun _ => none) 4 k ns Q 737 [some (.ref b), some (ob g 0), some (ob g 145), some (.int (nI i))] [] M := by
  have ok0 := ok_156_0
  have ok145 := ok_156_145
  have h1 : vp_in (nI i + 1) L := by rw [nI_1]; exact vp_in_nI (by omega) (by omega)
  have h2 : vp_in (nI i + 2) L := by rw [show nI i + 2 = nI (i + 2) from nI_add i 2]; exact vp_in_nI (by omega) (by omega)
  obtain ⟨a1, e1⟩ : ∃ z, xs (nI i + 1).toNatClampNeg = z := ⟨_, rfl⟩
  obtain ⟨a2, e2⟩ : ∃ z, xs (nI i + 2).toNatClampNeg = z := ⟨_, rfl⟩
  have h := hop M hM a1
  refine V_aload_n hC rfl dL_law_737 ?_
  refine V_aload_n hC rfl dL_law_738 ?_
  refine V_iload_n hC rfl dL_law_739 ?_
  refine V_iconst (v := 1) hC (by decide) dL_law_740 ?_
  refine V_iadd hC dL_law_741 ?_
  refine V_scr hC hXs hbl hbA h1 dL_law_742 ?_
  rw [e1]
  refine V_calli (As := [.int a1]) hC (c_SR_localCost X.2.1 g (156, fun _ => none) fu _ 0 a1 M ok0 h) mw_X10_localCost (by decide) tw_781 ok0 (by decide) rfl rfl rfl (Nat.le_of_ble_eq_true rfl) hr dL_law_743 (fun r1 M1 h => ?_)
  refine V_aload_n hC rfl dL_law_746 ?_
  refine V_aload_n hC rfl dL_law_747 ?_
  refine V_iload_n hC rfl dL_law_748 ?_
  refine V_iconst (v := 1) hC (by decide) dL_law_749 ?_
  refine V_iadd hC dL_law_750 ?_
  refine V_scr hC hXs hbl hbA h1 dL_law_751 ?_
  rw [e1]
  refine V_calli (As := [.int a1]) hC (c_Md_localCost X.2.1 g (156, fun _ => none) fu _ 145 a1 M1 ok145 h) mw_X11_localCost (by decide) tw_1148 ok145 (by decide) rfl rfl rfl (Nat.le_of_ble_eq_true rfl) hr dL_law_752 (fun r2 M2 h => ?_)
  obtain ⟨rfl, hM2⟩ := h
  refine V_icmp_eq (tgt := 862) hC dL_law_755 (by decide) (fun _ => ?_) (fun q => absurd rfl q)
  exact hback M2 hM2
set_option maxRecDepth 100000 in
theorem law_28 {X : CX} {g : GX} {fu k ns b L i : Nat} {Q : State → Prop} {xs : Nat → Int32} {R : Mm → Prop} {M : Mm} (hC : Cx X g code 4 RL ret 11) (hr : k ≤ X.2.2.2.1.cells ∧ ns ≤ X.2.2.2.1.slots) (hXs : va_X b L xs X.2.2.2.2.1 X.2.2.2.2.1.heap) (hbl : b < X.2.2.2.2.1.heap.size) (hbA : ¬ Af g b) (hi : i + 2 < L) (hL : L ≤ 1536) (hop : op_28 fu R) (hM : R M) (hback : ∀ M2, R M2 → V X g (156, fun _ => none) 4 k ns Q 862 [some (.ref b), some (ob g 0), some (ob g 145), some (.int (nI i))] [] M2) : V X g (156, fun _ => none) 4 k ns Q 760 [some (.ref b), some (ob g 0), some (ob g 145), some (.int (nI i))] [] M := by
  have ok0 := ok_156_0
  have ok145 := ok_156_145
  have h1 : vp_in (nI i + 1) L := by rw [nI_1]; exact vp_in_nI (by omega) (by omega)
  have h2 : vp_in (nI i + 2) L := by rw [show nI i + 2 = nI (i + 2) from nI_add i 2]; exact vp_in_nI (by omega) (by omega)
  obtain ⟨a1, e1⟩ : ∃ z, xs (nI i + 1).toNatClampNeg = z := ⟨_, rfl⟩
  obtain ⟨a2, e2⟩ : ∃ z, xs (nI i + 2).toNatClampNeg = z := ⟨_, rfl⟩
  have h := hop M hM a1 a2
  refine V_aload_n hC rfl dL_law_760 ?_
  refine V_aload_n hC rfl dL_law_761 ?_
  refine V_iload_n hC rfl dL_law_762 ?_
  refine V_iconst (v := 1) hC (by decide) dL_law_763 ?_
  refine V_iadd hC dL_law_764 ?_
  refine V_scr hC hXs hbl hbA h1 dL_law_765 ?_
  rw [e1]
  refine V_aload_n hC rfl dL_law_766 ?_
  refine V_iload_n hC rfl dL_law_767 ?_
  refine V_iconst (v := 2) hC (by decide) dL_law_768 ?_
  refine V_iadd hC dL_law_769 ?_
  refine V_scr hC hXs hbl hbA h2 dL_law_770 ?_
  rw [e2]
  refine V_calli (As := [.int a1, .int a2]) hC (c_SR_localOperation X.2.1 g (156, fun _ => none) fu _ 0 a1 a2 M ok0 h) mw_X10_localOperation (by decide) tw_792 ok0 (by decide) rfl rfl rfl (Nat.le_of_ble_eq_true rfl) hr dL_law_771 (fun r1 M1 h => ?_)
  refine V_aload_n hC rfl dL_law_774 ?_
  refine V_aload_n hC rfl dL_law_775 ?_
  refine V_iload_n hC rfl dL_law_776 ?_
  refine V_iconst (v := 1) hC (by decide) dL_law_777 ?_
  refine V_iadd hC dL_law_778 ?_
  refine V_scr hC hXs hbl hbA h1 dL_law_779 ?_
  rw [e1]
  refine V_aload_n hC rfl dL_law_780 ?_
  refine V_iload_n hC rfl dL_law_781 ?_
  refine V_iconst (v := 2) hC (by decide) dL_law_782 ?_
  refine V_iadd hC dL_law_783 ?_
  refine V_scr hC hXs hbl hbA h2 dL_law_784 ?_
  rw [e2]
  refine V_calli (As := [.int a1, .int a2]) hC (c_Md_localOperation X.2.1 g (156, fun _ => none) fu _ 145 a1 a2 M1 ok145 h) mw_X11_localOperation (by decide) tw_1180 ok145 (by decide) rfl rfl rfl (Nat.le_of_ble_eq_true rfl) hr dL_law_785 (fun r2 M2 h => ?_)
  obtain ⟨rfl, hM2⟩ := h
  refine V_icmp_eq (tgt := 862) hC dL_law_788 (by decide) (fun _ => ?_) (fun q => absurd rfl q)
  exact hback M2 hM2
set_option maxRecDepth 100000 in
theorem law_29 {X : CX} {g : GX} {fu k ns b L i : Nat} {Q : State → Prop} {xs : Nat → Int32} {R : Mm → Prop} {M : Mm} (hC : Cx X g code 4 RL ret 11) (hr : k ≤ X.2.2.2.1.cells ∧ ns ≤ X.2.2.2.1.slots) (hXs : va_X b L xs X.2.2.2.2.1 X.2.2.2.2.1.heap) (hbl : b < X.2.2.2.2.1.heap.size) (hbA : ¬ Af g b) (hi : i + 2 < L) (hL : L ≤ 1536) (hop : op_29 fu R) (hM : R M) (hback : ∀ M2, R M2 → V X g (156, fun _ => none) 4 k ns Q 862 [some (.ref b), some (ob g 0), some (ob g 145), some (.int (nI i))] [] M2) : V X g (156, fun _ => none) 4 k ns Q 793 [some (.ref b), some (ob g 0), some (ob g 145), some (.int (nI i))] [] M := by
  have ok0 := ok_156_0
  have ok145 := ok_156_145
  have h1 : vp_in (nI i + 1) L := by rw [nI_1]; exact vp_in_nI (by omega) (by omega)
  have h2 : vp_in (nI i + 2) L := by rw [show nI i + 2 = nI (i + 2) from nI_add i 2]; exact vp_in_nI (by omega) (by omega)
  obtain ⟨a1, e1⟩ : ∃ z, xs (nI i + 1).toNatClampNeg = z := ⟨_, rfl⟩
  obtain ⟨a2, e2⟩ : ∃ z, xs (nI i + 2).toNatClampNeg = z := ⟨_, rfl⟩
  have h := hop M hM a1 a2
  refine V_aload_n hC rfl dL_law_793 ?_
  refine V_aload_n hC rfl dL_law_794 ?_
  refine V_iload_n hC rfl dL_law_795 ?_
  refine V_iconst (v := 1) hC (by decide) dL_law_796 ?_
  refine V_iadd hC dL_law_797 ?_
  refine V_scr hC hXs hbl hbA h1 dL_law_798 ?_
  rw [e1]
  refine V_aload_n hC rfl dL_law_799 ?_
  refine V_iload_n hC rfl dL_law_800 ?_
  refine V_iconst (v := 2) hC (by decide) dL_law_801 ?_
  refine V_iadd hC dL_law_802 ?_
  refine V_scr hC hXs hbl hbA h2 dL_law_803 ?_
  rw [e2]
  refine V_calli (As := [.int a1, .int a2]) hC (c_SR_localKind X.2.1 g (156, fun _ => none) fu _ 0 a1 a2 M ok0 h) mw_X10_localKind (by decide) tw_796 ok0 (by decide) rfl rfl rfl (Nat.le_of_ble_eq_true rfl) hr dL_law_804 (fun r1 M1 h => ?_)
  refine V_aload_n hC rfl dL_law_807 ?_
  refine V_aload_n hC rfl dL_law_808 ?_
  refine V_iload_n hC rfl dL_law_809 ?_
  refine V_iconst (v := 1) hC (by decide) dL_law_810 ?_
  refine V_iadd hC dL_law_811 ?_
  refine V_scr hC hXs hbl hbA h1 dL_law_812 ?_
  rw [e1]
  refine V_aload_n hC rfl dL_law_813 ?_
  refine V_iload_n hC rfl dL_law_814 ?_
  refine V_iconst (v := 2) hC (by decide) dL_law_815 ?_
  refine V_iadd hC dL_law_816 ?_
  refine V_scr hC hXs hbl hbA h2 dL_law_817 ?_
  rw [e2]
  refine V_calli (As := [.int a1, .int a2]) hC (c_Md_localKind X.2.1 g (156, fun _ => none) fu _ 145 a1 a2 M1 ok145 h) mw_X11_localKind (by decide) tw_1188 ok145 (by decide) rfl rfl rfl (Nat.le_of_ble_eq_true rfl) hr dL_law_818 (fun r2 M2 h => ?_)
  obtain ⟨rfl, hM2⟩ := h
  refine V_icmp_eq (tgt := 862) hC dL_law_821 (by decide) (fun _ => ?_) (fun q => absurd rfl q)
  exact hback M2 hM2
set_option maxRecDepth 100000 in
theorem law_30 {X : CX} {g : GX} {fu k ns b L i : Nat} {Q : State → Prop} {xs : Nat → Int32} {R : Mm → Prop} {M : Mm} (hC : Cx X g code 4 RL ret 11) (hr : k ≤ X.2.2.2.1.cells ∧ ns ≤ X.2.2.2.1.slots) (hXs : va_X b L xs X.2.2.2.2.1 X.2.2.2.2.1.heap) (hbl : b < X.2.2.2.2.1.heap.size) (hbA : ¬ Af g b) (hi : i + 2 < L) (hL : L ≤ 1536) (hop : op_30 fu R) (hM : R M) (hback : ∀ M2, R M2 → V X g (156, fun _ => none) 4 k ns Q 862 [some (.ref b), some (ob g 0), some (ob g 145), some (.int (nI i))] [] M2) : V X g (156, fun _ => none) 4 k ns Q 826 [some (.ref b), some (ob g 0), some (ob g 145), some (.int (nI i))] [] M := by
  have ok0 := ok_156_0
  have ok145 := ok_156_145
  have h1 : vp_in (nI i + 1) L := by rw [nI_1]; exact vp_in_nI (by omega) (by omega)
  have h2 : vp_in (nI i + 2) L := by rw [show nI i + 2 = nI (i + 2) from nI_add i 2]; exact vp_in_nI (by omega) (by omega)
  obtain ⟨a1, e1⟩ : ∃ z, xs (nI i + 1).toNatClampNeg = z := ⟨_, rfl⟩
  obtain ⟨a2, e2⟩ : ∃ z, xs (nI i + 2).toNatClampNeg = z := ⟨_, rfl⟩
  have h := hop M hM a1
  refine V_aload_n hC rfl dL_law_826 ?_
  refine V_aload_n hC rfl dL_law_827 ?_
  refine V_iload_n hC rfl dL_law_828 ?_
  refine V_iconst (v := 1) hC (by decide) dL_law_829 ?_
  refine V_iadd hC dL_law_830 ?_
  refine V_scr hC hXs hbl hbA h1 dL_law_831 ?_
  rw [e1]
  refine V_calli (As := [.int a1]) hC (c_SR_sweepCost X.2.1 g (156, fun _ => none) fu _ 0 a1 M ok0 h) mw_X10_sweepCost (by decide) tw_800 ok0 (by decide) rfl rfl rfl (Nat.le_of_ble_eq_true rfl) hr dL_law_832 (fun r1 M1 h => ?_)
  refine V_aload_n hC rfl dL_law_835 ?_
  refine V_aload_n hC rfl dL_law_836 ?_
  refine V_iload_n hC rfl dL_law_837 ?_
  refine V_iconst (v := 1) hC (by decide) dL_law_838 ?_
  refine V_iadd hC dL_law_839 ?_
  refine V_scr hC hXs hbl hbA h1 dL_law_840 ?_
  rw [e1]
  refine V_calli (As := [.int a1]) hC (c_Md_sweepCost X.2.1 g (156, fun _ => none) fu _ 145 a1 M1 ok145 h) mw_X11_sweepCost (by decide) tw_1192 ok145 (by decide) rfl rfl rfl (Nat.le_of_ble_eq_true rfl) hr dL_law_841 (fun r2 M2 h => ?_)
  obtain ⟨rfl, hM2⟩ := h
  refine V_icmp_eq (tgt := 862) hC dL_law_844 (by decide) (fun _ => ?_) (fun q => absurd rfl q)
  exact hback M2 hM2
set_option maxRecDepth 100000 in
theorem law_31 {X : CX} {g : GX} {fu k ns b L i : Nat} {Q : State → Prop} {xs : Nat → Int32} {R : Mm → Prop} {M : Mm} (hC : Cx X g code 4 RL ret 11) (hr : k ≤ X.2.2.2.1.cells ∧ ns ≤ X.2.2.2.1.slots) (hXs : va_X b L xs X.2.2.2.2.1 X.2.2.2.2.1.heap) (hbl : b < X.2.2.2.2.1.heap.size) (hbA : ¬ Af g b) (hi : i + 2 < L) (hL : L ≤ 1536) (hop : op_31 fu R) (hM : R M) (hback : ∀ M2, R M2 → V X g (156, fun _ => none) 4 k ns Q 862 [some (.ref b), some (ob g 0), some (ob g 145), some (.int (nI i))] [] M2) : V X g (156, fun _ => none) 4 k ns Q 849 [some (.ref b), some (ob g 0), some (ob g 145), some (.int (nI i))] [] M := by
  have ok0 := ok_156_0
  have ok145 := ok_156_145
  have h1 : vp_in (nI i + 1) L := by rw [nI_1]; exact vp_in_nI (by omega) (by omega)
  have h2 : vp_in (nI i + 2) L := by rw [show nI i + 2 = nI (i + 2) from nI_add i 2]; exact vp_in_nI (by omega) (by omega)
  obtain ⟨a1, e1⟩ : ∃ z, xs (nI i + 1).toNatClampNeg = z := ⟨_, rfl⟩
  obtain ⟨a2, e2⟩ : ∃ z, xs (nI i + 2).toNatClampNeg = z := ⟨_, rfl⟩
  have h := hop M hM ()
  refine V_aload_n hC rfl dL_law_849 ?_
  refine V_calli (As := []) hC (c_SR_undoCount X.2.1 g (156, fun _ => none) fu _ 0 M ok0 h) mw_X10_undoCount (by decide) tw_804 ok0 (by decide) rfl rfl rfl (Nat.le_of_ble_eq_true rfl) hr dL_law_850 (fun r1 M1 h => ?_)
  refine V_aload_n hC rfl dL_law_853 ?_
  refine V_calli (As := []) hC (c_Md_undoCount X.2.1 g (156, fun _ => none) fu _ 145 M1 ok145 h) mw_X11_undoCount (by decide) tw_1196 ok145 (by decide) rfl rfl rfl (Nat.le_of_ble_eq_true rfl) hr dL_law_854 (fun r2 M2 h => ?_)
  obtain ⟨rfl, hM2⟩ := h
  refine V_icmp_eq (tgt := 862) hC dL_law_857 (by decide) (fun _ => ?_) (fun q => absurd rfl q)
  exact hback M2 hM2
set_option maxRecDepth 100000 in
theorem law_loop {X : CX} {g : GX} {fu k ns b L : Nat} {Q : State → Prop} {xs : Nat → Int32} {R : Mm → Prop} (hC : Cx X g code 4 RL ret 11) (hr : k ≤ X.2.2.2.1.cells ∧ ns ≤ X.2.2.2.1.slots) (hXs : va_X b L xs X.2.2.2.2.1 X.2.2.2.2.1.heap) (hbl : b < X.2.2.2.2.1.heap.size) (hbA : ¬ Af g b) (hL : L ≤ 1536) (hop : op_all fu R)
    (hend : ∀ M i, V X g (156, fun _ => none) 4 k ns Q 868 [some (.ref b), some (ob g 0), some (ob g 145), some (.int (nI i))] [] M) : ∀ (n i : Nat) (M : Mm), i ≤ L + 2 → L + 3 ≤ n + i → R M → V X g (156, fun _ => none) 4 k ns Q 18 [some (.ref b), some (ob g 0), some (ob g 145), some (.int (nI i))] [] M := by
  intro n
  induction n with
  | zero => intro i M h1 h2 _; omega
  | succ n ih =>
    intro i M h1 h2 hM
    refine V_iload_n hC rfl dL_law_18 ?_
    refine V_aload_n hC rfl dL_law_19 ?_
    refine V_scrlen hC hXs hbl hbA dL_law_20 ?_
    refine V_iconst (v := 3) hC (by decide) dL_law_21 ?_
    refine V_isub hC dL_law_22 ?_
    refine V_icmp_gt (tgt := 868) hC dL_law_23 (by decide) (fun _ => hend M i) (fun q => ?_)
    have hi : i + 2 < L := by
      have hq : ¬ L < i + 3 := fun z => q ((lw_cond hL (by omega)).mpr z)
      omega
    have h0 : vp_in (nI i) L := vp_in_nI (by omega) (by omega)
    refine V_aload_n hC rfl dL_law_26 ?_
    refine V_iload_n hC rfl dL_law_27 ?_
    refine V_scr hC hXs hbl hbA h0 dL_law_28 ?_
    refine V_bipush (v := 31) hC (by decide) dL_law_29 ?_
    refine V_iand hC dL_law_31 ?_
    have hback : ∀ M2, R M2 → V X g (156, fun _ => none) 4 k ns Q 862 [some (.ref b), some (ob g 0), some (ob g 145), some (.int (nI i))] [] M2 := fun M2 hM2 => by
      refine V_iinc (v := nI (i + 3)) hC rfl (nI_add i 3) (by decide) dL_law_862 ?_
      refine V_goto (tgt := 18) hC (by decide) dL_law_865 ?_
      exact ih (i + 3) M2 (by omega) (by omega) hM2
    obtain ⟨j, hj, ej⟩ := pk_andE (xs (nI i).toNatClampNeg) (m := 31) 5 (by decide)
    have hj : j < 32 := hj
    obtain ⟨o0, o1, o2, o3, o4, o5, o6, o7, o8, o9, o10, o11, o12, o13, o14, o15, o16, o17, o18, o19, o20, o21, o22, o23, o24, o25, o26, o27, o28, o29, o30, o31⟩ := hop
    have hc : j = 0 ∨ j = 1 ∨ j = 2 ∨ j = 3 ∨ j = 4 ∨ j = 5 ∨ j = 6 ∨ j = 7 ∨ j = 8 ∨ j = 9 ∨ j = 10 ∨ j = 11 ∨ j = 12 ∨ j = 13 ∨ j = 14 ∨ j = 15 ∨ j = 16 ∨ j = 17 ∨ j = 18 ∨ j = 19 ∨ j = 20 ∨ j = 21 ∨ j = 22 ∨ j = 23 ∨ j = 24 ∨ j = 25 ∨ j = 26 ∨ j = 27 ∨ j = 28 ∨ j = 29 ∨ j = 30 ∨ j = 31 := by omega
    rcases hc with rfl | rfl | rfl | rfl | rfl | rfl | rfl | rfl | rfl | rfl | rfl | rfl | rfl | rfl | rfl | rfl | rfl | rfl | rfl | rfl | rfl | rfl | rfl | rfl | rfl | rfl | rfl | rfl | rfl | rfl | rfl | rfl
    · refine V_tin (tgt := 176) hC dL_law_32 (by rw [ej]; decide) (by rw [ej]; decide) (by rw [ej]; rfl) (by decide) ?_
      exact law_0 hC hr hXs hbl hbA hi hL o0 hM hback
    · refine V_tin (tgt := 199) hC dL_law_32 (by rw [ej]; decide) (by rw [ej]; decide) (by rw [ej]; rfl) (by decide) ?_
      exact law_1 hC hr hXs hbl hbA hi hL o1 hM hback
    · refine V_tin (tgt := 212) hC dL_law_32 (by rw [ej]; decide) (by rw [ej]; decide) (by rw [ej]; rfl) (by decide) ?_
      exact law_2 hC hr hXs hbl hbA hi hL o2 hM hback
    · refine V_tin (tgt := 225) hC dL_law_32 (by rw [ej]; decide) (by rw [ej]; decide) (by rw [ej]; rfl) (by decide) ?_
      exact law_3 hC hr hXs hbl hbA hi hL o3 hM hback
    · refine V_tin (tgt := 248) hC dL_law_32 (by rw [ej]; decide) (by rw [ej]; decide) (by rw [ej]; rfl) (by decide) ?_
      exact law_4 hC hr hXs hbl hbA hi hL o4 hM hback
    · refine V_tin (tgt := 281) hC dL_law_32 (by rw [ej]; decide) (by rw [ej]; decide) (by rw [ej]; rfl) (by decide) ?_
      exact law_5 hC hr hXs hbl hbA hi hL o5 hM hback
    · refine V_tin (tgt := 304) hC dL_law_32 (by rw [ej]; decide) (by rw [ej]; decide) (by rw [ej]; rfl) (by decide) ?_
      exact law_6 hC hr hXs hbl hbA hi hL o6 hM hback
    · refine V_tin (tgt := 317) hC dL_law_32 (by rw [ej]; decide) (by rw [ej]; decide) (by rw [ej]; rfl) (by decide) ?_
      exact law_7 hC hr hXs hbl hbA hi hL o7 hM hback
    · refine V_tin (tgt := 350) hC dL_law_32 (by rw [ej]; decide) (by rw [ej]; decide) (by rw [ej]; rfl) (by decide) ?_
      exact law_8 hC hr hXs hbl hbA hi hL o8 hM hback
    · refine V_tin (tgt := 383) hC dL_law_32 (by rw [ej]; decide) (by rw [ej]; decide) (by rw [ej]; rfl) (by decide) ?_
      exact law_9 hC hr hXs hbl hbA hi hL o9 hM hback
    · refine V_tin (tgt := 416) hC dL_law_32 (by rw [ej]; decide) (by rw [ej]; decide) (by rw [ej]; rfl) (by decide) ?_
      exact law_10 hC hr hXs hbl hbA hi hL o10 hM hback
    · refine V_tin (tgt := 429) hC dL_law_32 (by rw [ej]; decide) (by rw [ej]; decide) (by rw [ej]; rfl) (by decide) ?_
      exact law_11 hC hr hXs hbl hbA hi hL o11 hM hback
    · refine V_tin (tgt := 442) hC dL_law_32 (by rw [ej]; decide) (by rw [ej]; decide) (by rw [ej]; rfl) (by decide) ?_
      exact law_12 hC hr hXs hbl hbA hi hL o12 hM hback
    · refine V_tin (tgt := 465) hC dL_law_32 (by rw [ej]; decide) (by rw [ej]; decide) (by rw [ej]; rfl) (by decide) ?_
      exact law_13 hC hr hXs hbl hbA hi hL o13 hM hback
    · refine V_tin (tgt := 478) hC dL_law_32 (by rw [ej]; decide) (by rw [ej]; decide) (by rw [ej]; rfl) (by decide) ?_
      exact law_14 hC hr hXs hbl hbA hi hL o14 hM hback
    · refine V_tin (tgt := 491) hC dL_law_32 (by rw [ej]; decide) (by rw [ej]; decide) (by rw [ej]; rfl) (by decide) ?_
      exact law_15 hC hr hXs hbl hbA hi hL o15 hM hback
    · refine V_tin (tgt := 514) hC dL_law_32 (by rw [ej]; decide) (by rw [ej]; decide) (by rw [ej]; rfl) (by decide) ?_
      exact law_16 hC hr hXs hbl hbA hi hL o16 hM hback
    · refine V_tin (tgt := 527) hC dL_law_32 (by rw [ej]; decide) (by rw [ej]; decide) (by rw [ej]; rfl) (by decide) ?_
      exact law_17 hC hr hXs hbl hbA hi hL o17 hM hback
    · refine V_tin (tgt := 550) hC dL_law_32 (by rw [ej]; decide) (by rw [ej]; decide) (by rw [ej]; rfl) (by decide) ?_
      exact law_18 hC hr hXs hbl hbA hi hL o18 hM hback
    · refine V_tin (tgt := 573) hC dL_law_32 (by rw [ej]; decide) (by rw [ej]; decide) (by rw [ej]; rfl) (by decide) ?_
      exact law_19 hC hr hXs hbl hbA hi hL o19 hM hback
    · refine V_tin (tgt := 586) hC dL_law_32 (by rw [ej]; decide) (by rw [ej]; decide) (by rw [ej]; rfl) (by decide) ?_
      exact law_20 hC hr hXs hbl hbA hi hL o20 hM hback
    · refine V_tin (tgt := 599) hC dL_law_32 (by rw [ej]; decide) (by rw [ej]; decide) (by rw [ej]; rfl) (by decide) ?_
      exact law_21 hC hr hXs hbl hbA hi hL o21 hM hback
    · refine V_tin (tgt := 612) hC dL_law_32 (by rw [ej]; decide) (by rw [ej]; decide) (by rw [ej]; rfl) (by decide) ?_
      exact law_22 hC hr hXs hbl hbA hi hL o22 hM hback
    · refine V_tin (tgt := 625) hC dL_law_32 (by rw [ej]; decide) (by rw [ej]; decide) (by rw [ej]; rfl) (by decide) ?_
      exact law_23 hC hr hXs hbl hbA hi hL o23 hM hback
    · refine V_tin (tgt := 648) hC dL_law_32 (by rw [ej]; decide) (by rw [ej]; decide) (by rw [ej]; rfl) (by decide) ?_
      exact law_24 hC hr hXs hbl hbA hi hL o24 hM hback
    · refine V_tin (tgt := 681) hC dL_law_32 (by rw [ej]; decide) (by rw [ej]; decide) (by rw [ej]; rfl) (by decide) ?_
      exact law_25 hC hr hXs hbl hbA hi hL o25 hM hback
    · refine V_tin (tgt := 714) hC dL_law_32 (by rw [ej]; decide) (by rw [ej]; decide) (by rw [ej]; rfl) (by decide) ?_
      exact law_26 hC hr hXs hbl hbA hi hL o26 hM hback
    · refine V_tin (tgt := 737) hC dL_law_32 (by rw [ej]; decide) (by rw [ej]; decide) (by rw [ej]; rfl) (by decide) ?_
      exact law_27 hC hr hXs hbl hbA hi hL o27 hM hback
    · refine V_tin (tgt := 760) hC dL_law_32 (by rw [ej]; decide) (by rw [ej]; decide) (by rw [ej]; rfl) (by decide) ?_
      exact law_28 hC hr hXs hbl hbA hi hL o28 hM hback
    · refine V_tin (tgt := 793) hC dL_law_32 (by rw [ej]; decide) (by rw [ej]; decide) (by rw [ej]; rfl) (by decide) ?_
      exact law_29 hC hr hXs hbl hbA hi hL o29 hM hback
    · refine V_tin (tgt := 826) hC dL_law_32 (by rw [ej]; decide) (by rw [ej]; decide) (by rw [ej]; rfl) (by decide) ?_
      exact law_30 hC hr hXs hbl hbA hi hL o30 hM hback
    · refine V_tin (tgt := 849) hC dL_law_32 (by rw [ej]; decide) (by rw [ej]; decide) (by rw [ej]; rfl) (by decide) ?_
      exact law_31 hC hr hXs hbl hbA hi hL o31 hM hback
