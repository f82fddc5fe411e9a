def f_St_leastFrom (fu : Nat) (post : Int32 → Mm → Prop) (t : Nat) (x1 : Int32) (x2 : Int32) (M : Mm) : Prop :=
  f_SR_at fu (fun r2 M1 => post r2 M1) (t + 15) ((x1 * 96) + x2) M
set_option maxRecDepth 100000 in
theorem c_St_leastFrom (l : Launch) (g : GX) (w : WX) (fu : Nat) (post : Int32 → Mm → Prop) (t : Nat) (x1 : Int32) (x2 : Int32) (M : Mm) (ht : ok w t 7) (h : f_St_leastFrom fu post t x1 x2 M) : Met l yX7_leastFrom [Cond.code yX7_leastFrom cX7_leastFrom 3 (some .int)] (rmC 1 0 0) (va_Pc [ob g t, .int x1, .int x2] (Wb g w M)) (va_Qi post (Wb g w) (Af g)) 0 0 (Af g) := by
  refine Ct_i (by decide) rfl (fun v hv => by simp only [List.mem_cons, List.not_mem_nil, or_false] at hv; rcases hv with rfl | rfl | rfl <;> rfl) (Nat.le_of_ble_eq_true rfl) (Nat.le_refl _) ?_
  intro X hX _ hC
  unfold f_St_leastFrom at h
  refine V_sub (us := [some (ob g t), some (.int x1), some (.int x2)]) ⟨rfl, rfl, rfl, trivial⟩ ?_
  refine V_aload_n hC rfl dX7_leastFrom_0 ?_
  refine gf_7_2 hC ht tw_194 dX7_leastFrom_1 ?_
  refine V_iload_n hC rfl dX7_leastFrom_4 ?_
  refine V_bipush (v := 96) hC (by decide) dX7_leastFrom_5 ?_
  refine V_imul hC dX7_leastFrom_7 ?_
  refine V_iload_n hC rfl dX7_leastFrom_8 ?_
  refine V_iadd hC dX7_leastFrom_9 ?_
  refine V_scalliN (As := [ob g (t + 15), .int ((x1 * 96) + x2)]) hC (c_SR_at X.2.1 g w fu _ (t + 15) ((x1 * 96) + x2) M (ok_7_2 ht) h) mw_X10_at (by decide) tw_682 rfl rfl (Nat.le_of_ble_eq_true rfl) ⟨Nat.zero_le _, Nat.zero_le _⟩ dX7_leastFrom_10 (fun r2 M1 h => ?_)
  exact V_iret hC h dX7_leastFrom_13
def f_SR_costOrNone (fu : Nat) (post : Int32 → Mm → Prop) (x0 : Int32) (M : Mm) : Prop :=
  ((x0 < 1000000) → post x0 M) ∧ (¬ (x0 < 1000000) → post (-9) M)
set_option maxRecDepth 100000 in
theorem c_SR_costOrNone (l : Launch) (g : GX) (w : WX) (fu : Nat) (post : Int32 → Mm → Prop) (x0 : Int32) (M : Mm) (h : f_SR_costOrNone fu post x0 M) : Met l yX10_costOrNone [Cond.code yX10_costOrNone cX10_costOrNone 1 (some .int)] (rmC 0 0 0) (va_Pc [.int x0] (Wb g w M)) (va_Qi post (Wb g w) (Af g)) 0 0 (Af g) := by
  refine Ct_i (by decide) rfl (fun v hv => by simp only [List.mem_cons, List.not_mem_nil, or_false] at hv; rcases hv with rfl <;> rfl) (Nat.le_of_ble_eq_true rfl) (Nat.le_refl _) ?_
  intro X hX _ hC
  unfold f_SR_costOrNone at h
  refine V_sub (us := [some (.int x0)]) ⟨rfl, trivial⟩ ?_
  refine V_iload_n hC rfl dX10_costOrNone_0 ?_
  refine V_ldc hC tw_690 dX10_costOrNone_1 ?_
  refine V_icmp_lt (tgt := 11) hC dX10_costOrNone_3 (by decide) (fun b1 => ?_) (fun b1 => ?_)
  · replace h := h.1 b1
    refine V_iload_n hC rfl dX10_costOrNone_11 ?_
    exact V_iret hC h dX10_costOrNone_12
  · replace h := h.2 b1
    refine V_bipush (v := (-9)) hC (by decide) dX10_costOrNone_6 ?_
    refine V_goto (tgt := 12) hC (by decide) dX10_costOrNone_8 ?_
    exact V_iret hC h dX10_costOrNone_12
def f_SR_repairCost (fu : Nat) (post : Int32 → Mm → Prop) (t : Nat) (M : Mm) : Prop :=
  f_St_solve fu (fun M1 => f_St_leastFrom fu (fun r3 M2 => f_SR_costOrNone fu (fun r5 M4 => post r5 M4) r3 M2) (t + 105) 0 1 M1) (t + 105) (t + 1) 0 M
set_option maxRecDepth 100000 in
theorem c_SR_repairCost (l : Launch) (g : GX) (w : WX) (fu : Nat) (post : Int32 → Mm → Prop) (t : Nat) (M : Mm) (ht : ok w t 10) (h : f_SR_repairCost fu post t M) : Met l yX10_repairCost [Cond.code yX10_repairCost cX10_repairCost 1 (some .int)] (rmC 6 0 0) (va_Pc [ob g t] (Wb g w M)) (va_Qi post (Wb g w) (Af g)) 0 0 (Af g) := by
  refine Ct_i (by decide) rfl (fun v hv => by simp only [List.mem_cons, List.not_mem_nil, or_false] at hv; rcases hv with rfl <;> rfl) (Nat.le_of_ble_eq_true rfl) (Nat.le_refl _) ?_
  intro X hX _ hC
  unfold f_SR_repairCost at h
  refine V_sub (us := [some (ob g t)]) ⟨rfl, trivial⟩ ?_
  refine V_aload_n hC rfl dX10_repairCost_0 ?_
  refine gf_10_3 hC ht tw_271 dX10_repairCost_1 ?_
  refine V_aload_n hC rfl dX10_repairCost_4 ?_
  refine gf_10_0 hC ht tw_268 dX10_repairCost_5 ?_
  refine V_iconst (v := 0) hC (by decide) dX10_repairCost_8 ?_
  refine V_callv (As := [ob g (t + 1), .int 0]) hC (c_St_solve X.2.1 g w fu _ (t + 105) (t + 1) 0 M (ok_10_3 ht) (ok_10_0 ht) h) mw_X7_solve (by decide) tw_627 (ok_10_3 ht) (by decide) rfl rfl rfl (Nat.le_of_ble_eq_true rfl) ⟨Nat.zero_le _, Nat.zero_le _⟩ dX10_repairCost_9 (fun M1 h => ?_)
  refine V_aload_n hC rfl dX10_repairCost_12 ?_
  refine gf_10_3 hC ht tw_271 dX10_repairCost_13 ?_
  refine V_iconst (v := 0) hC (by decide) dX10_repairCost_16 ?_
  refine V_iconst (v := 1) hC (by decide) dX10_repairCost_17 ?_
  refine V_calli (As := [.int 0, .int 1]) hC (c_St_leastFrom X.2.1 g w fu _ (t + 105) 0 1 M1 (ok_10_3 ht) h) mw_X7_leastFrom (by decide) tw_683 (ok_10_3 ht) (by decide) rfl rfl rfl (Nat.le_of_ble_eq_true rfl) ⟨Nat.zero_le _, Nat.zero_le _⟩ dX10_repairCost_18 (fun r3 M2 h => ?_)
  refine V_scalli (As := [.int r3]) hC (c_SR_costOrNone X.2.1 g w fu _ r3 M2 h) mw_X10_costOrNone (by decide) tw_687 rfl rfl (Nat.le_of_ble_eq_true rfl) ⟨Nat.zero_le _, Nat.zero_le _⟩ dX10_repairCost_21 (fun r5 M4 h => ?_)
  exact V_iret hC h dX10_repairCost_24
def f_St_waysFrom (fu : Nat) (post : Int32 → Mm → Prop) (t : Nat) (x1 : Int32) (x2 : Int32) (M : Mm) : Prop :=
  f_SR_at fu (fun r2 M1 => post r2 M1) (t + 17) ((x1 * 96) + x2) M
set_option maxRecDepth 100000 in
theorem c_St_waysFrom (l : Launch) (g : GX) (w : WX) (fu : Nat) (post : Int32 → Mm → Prop) (t : Nat) (x1 : Int32) (x2 : Int32) (M : Mm) (ht : ok w t 7) (h : f_St_waysFrom fu post t x1 x2 M) : Met l yX7_waysFrom [Cond.code yX7_waysFrom cX7_waysFrom 3 (some .int)] (rmC 1 0 0) (va_Pc [ob g t, .int x1, .int x2] (Wb g w M)) (va_Qi post (Wb g w) (Af g)) 0 0 (Af g) := by
  refine Ct_i (by decide) rfl (fun v hv => by simp only [List.mem_cons, List.not_mem_nil, or_false] at hv; rcases hv with rfl | rfl | rfl <;> rfl) (Nat.le_of_ble_eq_true rfl) (Nat.le_refl _) ?_
  intro X hX _ hC
  unfold f_St_waysFrom at h
  refine V_sub (us := [some (ob g t), some (.int x1), some (.int x2)]) ⟨rfl, rfl, rfl, trivial⟩ ?_
  refine V_aload_n hC rfl dX7_waysFrom_0 ?_
  refine gf_7_4 hC ht tw_196 dX7_waysFrom_1 ?_
  refine V_iload_n hC rfl dX7_waysFrom_4 ?_
  refine V_bipush (v := 96) hC (by decide) dX7_waysFrom_5 ?_
  refine V_imul hC dX7_waysFrom_7 ?_
  refine V_iload_n hC rfl dX7_waysFrom_8 ?_
  refine V_iadd hC dX7_waysFrom_9 ?_
  refine V_scalliN (As := [ob g (t + 17), .int ((x1 * 96) + x2)]) hC (c_SR_at X.2.1 g w fu _ (t + 17) ((x1 * 96) + x2) M (ok_7_4 ht) h) mw_X10_at (by decide) tw_682 rfl rfl (Nat.le_of_ble_eq_true rfl) ⟨Nat.zero_le _, Nat.zero_le _⟩ dX7_waysFrom_10 (fun r2 M1 h => ?_)
  exact V_iret hC h dX7_waysFrom_13
def f_SR_repairCount (fu : Nat) (post : Int32 → Mm → Prop) (t : Nat) (M : Mm) : Prop :=
  f_St_solve fu (fun M1 => f_St_waysFrom fu (fun r3 M2 => post r3 M2) (t + 105) 0 1 M1) (t + 105) (t + 1) 0 M
set_option maxRecDepth 100000 in
theorem c_SR_repairCount (l : Launch) (g : GX) (w : WX) (fu : Nat) (post : Int32 → Mm → Prop) (t : Nat) (M : Mm) (ht : ok w t 10) (h : f_SR_repairCount fu post t M) : Met l yX10_repairCount [Cond.code yX10_repairCount cX10_repairCount 1 (some .int)] (rmC 6 0 0) (va_Pc [ob g t] (Wb g w M)) (va_Qi post (Wb g w) (Af g)) 0 0 (Af g) := by
  refine Ct_i (by decide) rfl (fun v hv => by simp only [List.mem_cons, List.not_mem_nil, or_false] at hv; rcases hv with rfl <;> rfl) (Nat.le_of_ble_eq_true rfl) (Nat.le_refl _) ?_
  intro X hX _ hC
  unfold f_SR_repairCount at h
  refine V_sub (us := [some (ob g t)]) ⟨rfl, trivial⟩ ?_
  refine V_aload_n hC rfl dX10_repairCount_0 ?_
  refine gf_10_3 hC ht tw_271 dX10_repairCount_1 ?_
  refine V_aload_n hC rfl dX10_repairCount_4 ?_
  refine gf_10_0 hC ht tw_268 dX10_repairCount_5 ?_
  refine V_iconst (v := 0) hC (by decide) dX10_repairCount_8 ?_
  refine V_callv (As := [ob g (t + 1), .int 0]) hC (c_St_solve X.2.1 g w fu _ (t + 105) (t + 1) 0 M (ok_10_3 ht) (ok_10_0 ht) h) mw_X7_solve (by decide) tw_627 (ok_10_3 ht) (by decide) rfl rfl rfl (Nat.le_of_ble_eq_true rfl) ⟨Nat.zero_le _, Nat.zero_le _⟩ dX10_repairCount_9 (fun M1 h => ?_)
  refine V_aload_n hC rfl dX10_repairCount_12 ?_
  refine gf_10_3 hC ht tw_271 dX10_repairCount_13 ?_
  refine V_iconst (v := 0) hC (by decide) dX10_repairCount_16 ?_
  refine V_iconst (v := 1) hC (by decide) dX10_repairCount_17 ?_
  refine V_calli (As := [.int 0, .int 1]) hC (c_St_waysFrom X.2.1 g w fu _ (t + 105) 0 1 M1 (ok_10_3 ht) h) mw_X7_waysFrom (by decide) tw_695 (ok_10_3 ht) (by decide) rfl rfl rfl (Nat.le_of_ble_eq_true rfl) ⟨Nat.zero_le _, Nat.zero_le _⟩ dX10_repairCount_18 (fun r3 M2 h => ?_)
  exact V_iret hC h dX10_repairCount_21
def f_St_secondFrom (fu : Nat) (post : Int32 → Mm → Prop) (t : Nat) (x1 : Int32) (x2 : Int32) (M : Mm) : Prop :=
  f_SR_at fu (fun r2 M1 => post r2 M1) (t + 16) ((x1 * 96) + x2) M
set_option maxRecDepth 100000 in
theorem c_St_secondFrom (l : Launch) (g : GX) (w : WX) (fu : Nat) (post : Int32 → Mm → Prop) (t : Nat) (x1 : Int32) (x2 : Int32) (M : Mm) (ht : ok w t 7) (h : f_St_secondFrom fu post t x1 x2 M) : Met l yX7_secondFrom [Cond.code yX7_secondFrom cX7_secondFrom 3 (some .int)] (rmC 1 0 0) (va_Pc [ob g t, .int x1, .int x2] (Wb g w M)) (va_Qi post (Wb g w) (Af g)) 0 0 (Af g) := by
  refine Ct_i (by decide) rfl (fun v hv => by simp only [List.mem_cons, List.not_mem_nil, or_false] at hv; rcases hv with rfl | rfl | rfl <;> rfl) (Nat.le_of_ble_eq_true rfl) (Nat.le_refl _) ?_
  intro X hX _ hC
  unfold f_St_secondFrom at h
  refine V_sub (us := [some (ob g t), some (.int x1), some (.int x2)]) ⟨rfl, rfl, rfl, trivial⟩ ?_
  refine V_aload_n hC rfl dX7_secondFrom_0 ?_
  refine gf_7_3 hC ht tw_195 dX7_secondFrom_1 ?_
  refine V_iload_n hC rfl dX7_secondFrom_4 ?_
  refine V_bipush (v := 96) hC (by decide) dX7_secondFrom_5 ?_
  refine V_imul hC dX7_secondFrom_7 ?_
  refine V_iload_n hC rfl dX7_secondFrom_8 ?_
  refine V_iadd hC dX7_secondFrom_9 ?_
  refine V_scalliN (As := [ob g (t + 16), .int ((x1 * 96) + x2)]) hC (c_SR_at X.2.1 g w fu _ (t + 16) ((x1 * 96) + x2) M (ok_7_3 ht) h) mw_X10_at (by decide) tw_682 rfl rfl (Nat.le_of_ble_eq_true rfl) ⟨Nat.zero_le _, Nat.zero_le _⟩ dX7_secondFrom_10 (fun r2 M1 h => ?_)
  exact V_iret hC h dX7_secondFrom_13
def f_SR_secondCost (fu : Nat) (post : Int32 → Mm → Prop) (t : Nat) (M : Mm) : Prop :=
  f_St_solve fu (fun M1 => f_St_secondFrom fu (fun r3 M2 => f_SR_costOrNone fu (fun r5 M4 => post r5 M4) r3 M2) (t + 105) 0 1 M1) (t + 105) (t + 1) 0 M
set_option maxRecDepth 100000 in
theorem c_SR_secondCost (l : Launch) (g : GX) (w : WX) (fu : Nat) (post : Int32 → Mm → Prop) (t : Nat) (M : Mm) (ht : ok w t 10) (h : f_SR_secondCost fu post t M) : Met l yX10_secondCost [Cond.code yX10_secondCost cX10_secondCost 1 (some .int)] (rmC 6 0 0) (va_Pc [ob g t] (Wb g w M)) (va_Qi post (Wb g w) (Af g)) 0 0 (Af g) := by
  refine Ct_i (by decide) rfl (fun v hv => by simp only [List.mem_cons, List.not_mem_nil, or_false] at hv; rcases hv with rfl <;> rfl) (Nat.le_of_ble_eq_true rfl) (Nat.le_refl _) ?_
  intro X hX _ hC
  unfold f_SR_secondCost at h
  refine V_sub (us := [some (ob g t)]) ⟨rfl, trivial⟩ ?_
  refine V_aload_n hC rfl dX10_secondCost_0 ?_
  refine gf_10_3 hC ht tw_271 dX10_secondCost_1 ?_
  refine V_aload_n hC rfl dX10_secondCost_4 ?_
  refine gf_10_0 hC ht tw_268 dX10_secondCost_5 ?_
  refine V_iconst (v := 0) hC (by decide) dX10_secondCost_8 ?_
  refine V_callv (As := [ob g (t + 1), .int 0]) hC (c_St_solve X.2.1 g w fu _ (t + 105) (t + 1) 0 M (ok_10_3 ht) (ok_10_0 ht) h) mw_X7_solve (by decide) tw_627 (ok_10_3 ht) (by decide) rfl rfl rfl (Nat.le_of_ble_eq_true rfl) ⟨Nat.zero_le _, Nat.zero_le _⟩ dX10_secondCost_9 (fun M1 h => ?_)
  refine V_aload_n hC rfl dX10_secondCost_12 ?_
  refine gf_10_3 hC ht tw_271 dX10_secondCost_13 ?_
  refine V_iconst (v := 0) hC (by decide) dX10_secondCost_16 ?_
  refine V_iconst (v := 1) hC (by decide) dX10_secondCost_17 ?_
  refine V_calli (As := [.int 0, .int 1]) hC (c_St_secondFrom X.2.1 g w fu _ (t + 105) 0 1 M1 (ok_10_3 ht) h) mw_X7_secondFrom (by decide) tw_703 (ok_10_3 ht) (by decide) rfl rfl rfl (Nat.le_of_ble_eq_true rfl) ⟨Nat.zero_le _, Nat.zero_le _⟩ dX10_secondCost_18 (fun r3 M2 h => ?_)
  refine V_scalli (As := [.int r3]) hC (c_SR_costOrNone X.2.1 g w fu _ r3 M2 h) mw_X10_costOrNone (by decide) tw_687 rfl rfl (Nat.le_of_ble_eq_true rfl) ⟨Nat.zero_le _, Nat.zero_le _⟩ dX10_secondCost_21 (fun r5 M4 h => ?_)
  exact V_iret hC h dX10_secondCost_24
def f_SR_at_s (fu : Nat) (post : Int32 → Mm → Prop) (a0 : Nat) (x1 : Int32) (M : Mm) : Prop :=
  ((x1 < 0) → post (-1) M) ∧ (¬ (x1 < 0) → ((14 ≤ x1) → post (-1) M) ∧ (¬ (14 ≤ x1) → vp_in x1 14 ∧ post (mv a0 x1.toNatClampNeg) M))
set_option maxRecDepth 100000 in
theorem c_SR_at_s (l : Launch) (g : GX) (w : WX) (fu : Nat) (post : Int32 → Mm → Prop) (a0 : Nat) (x1 : Int32) (M : Mm) (ha0 : a0 < 2) (h : f_SR_at_s fu post a0 x1 M) : Met l yX10_at [Cond.code yX10_at cX10_at 2 (some .int)] (rmC 0 0 0) (va_Pc [.ref (g.2.2.2.2.2.2 a0), .int x1] (Wb g w M)) (va_Qi post (Wb g w) (Af g)) 0 0 (Af g) := by
  refine Ct_i (by decide) rfl (fun v hv => by simp only [List.mem_cons, List.not_mem_nil, or_false] at hv; rcases hv with rfl | rfl <;> rfl) (Nat.le_of_ble_eq_true rfl) (Nat.le_refl _) ?_
  intro X hX _ hC
  unfold f_SR_at_s at h
  refine V_sub (us := [some (.ref (g.2.2.2.2.2.2 a0)), some (.int x1)]) ⟨rfl, rfl, trivial⟩ ?_
  refine V_iload_n hC rfl dX10_at_0 ?_
  refine V_if_lt (tgt := 16) hC dX10_at_1 (by decide) (fun b3 => ?_) (fun b3 => ?_)
  · replace h := h.1 b3
    refine V_iconst (v := (-1)) hC (by decide) dX10_at_16 ?_
    exact V_iret hC h dX10_at_17
  · replace h := h.2 b3
    refine V_iload_n hC rfl dX10_at_4 ?_
    refine V_aload_n hC rfl dX10_at_5 ?_
    refine V_salen hC ha0 dX10_at_6 ?_
    refine V_icmp_ge (tgt := 16) hC dX10_at_7 (by decide) (fun b2 => ?_) (fun b2 => ?_)
    · replace h := h.1 b2
      refine V_iconst (v := (-1)) hC (by decide) dX10_at_16 ?_
      exact V_iret hC h dX10_at_17
    · replace h := h.2 b2
      refine V_aload_n hC rfl dX10_at_10 ?_
      refine V_iload_n hC rfl dX10_at_11 ?_
      obtain ⟨q1, h⟩ := h
      refine V_sald hC ha0 q1 dX10_at_12 ?_
      refine V_goto (tgt := 17) hC (by decide) dX10_at_13 ?_
      exact V_iret hC h dX10_at_17
def f_St_kindOf (fu : Nat) (post : Int32 → Mm → Prop) (x0 : Int32) (x1 : Int32) (M : Mm) : Prop :=
  f_SR_at_s fu (fun r2 M1 => ((0 ≤ r2) → post r2 M1) ∧ (¬ (0 ≤ r2) → post x1 M1)) 1 x0 M
set_option maxRecDepth 100000 in
theorem c_St_kindOf (l : Launch) (g : GX) (w : WX) (fu : Nat) (post : Int32 → Mm → Prop) (x0 : Int32) (x1 : Int32) (M : Mm) (h : f_St_kindOf fu post x0 x1 M) : Met l yX7_kindOf [Cond.code yX7_kindOf cX7_kindOf 3 (some .int)] (rmC 1 0 0) (va_Pc [.int x0, .int x1] (Wb g w M)) (va_Qi post (Wb g w) (Af g)) 0 0 (Af g) := by
  refine Ct_i (by decide) rfl (fun v hv => by simp only [List.mem_cons, List.not_mem_nil, or_false] at hv; rcases hv with rfl | rfl <;> rfl) (Nat.le_of_ble_eq_true rfl) (Nat.le_refl _) ?_
  intro X hX _ hC
  unfold f_St_kindOf at h
  refine V_sub (us := [some (.int x0), some (.int x1), none]) ⟨rfl, rfl, trivial⟩ ?_
  refine V_gstN (i := 1) hC (by decide) tw_737 dX7_kindOf_0 ?_
  refine V_iload_n hC rfl dX7_kindOf_3 ?_
  refine V_scalliN (As := [.ref (g.2.2.2.2.2.2 1), .int x0]) hC (c_SR_at_s X.2.1 g w fu _ 1 x0 M (by decide) h) mw_X10_at (by decide) tw_682 rfl rfl (Nat.le_of_ble_eq_true rfl) ⟨Nat.zero_le _, Nat.zero_le _⟩ dX7_kindOf_4 (fun r2 M1 h => ?_)
  refine V_istore_n hC (by decide) dX7_kindOf_7 ?_
  refine V_iload_n hC rfl dX7_kindOf_8 ?_
  refine V_if_ge (tgt := 16) hC dX7_kindOf_9 (by decide) (fun b3 => ?_) (fun b3 => ?_)
  · replace h := h.1 b3
    refine V_iload_n hC rfl dX7_kindOf_16 ?_
    exact V_iret hC h dX7_kindOf_17
  · replace h := h.2 b3
    refine V_iload_n hC rfl dX7_kindOf_12 ?_
    refine V_goto (tgt := 17) hC (by decide) dX7_kindOf_13 ?_
    exact V_iret hC h dX7_kindOf_17
def f_St_targetOf_93 (fu : Nat) (post : Int32 → Mm → Prop) (x7 : Int32) (kx0 : Int32) (M : Mm) : Prop :=
  ((0 ≤ kx0) → post ((x7 * 96) + kx0) M) ∧ (¬ (0 ≤ kx0) → post (-1) M)
def f_St_targetOf_71 (fu : Nat) (post : Int32 → Mm → Prop) (t : Nat) (x2 : Int32) (x4 : Int32) (x6 : Int32) (kx0 : Int32) (M : Mm) : Prop :=
  ((x4 = 2) → f_St_targetOf_93 fu post kx0 x2 M) ∧ (¬ (x4 = 2) → f_Re_after fu (fun r2 M1 => f_St_targetOf_93 fu post kx0 r2 M1) (t + 11) x2 x6 M)
def f_St_targetOf_58 (fu : Nat) (post : Int32 → Mm → Prop) (t : Nat) (x1 : Int32) (x2 : Int32) (x4 : Int32) (x6 : Int32) (M : Mm) : Prop :=
  ((x4 = 3) → f_St_targetOf_71 fu post t x2 x4 x6 x1 M) ∧ (¬ (x4 = 3) → f_St_targetOf_71 fu post t x2 x4 x6 (x1 + 1) M)
def f_St_targetOf_35 (fu : Nat) (post : Int32 → Mm → Prop) (t : Nat) (x1 : Int32) (x2 : Int32) (x3 : Int32) (x4 : Int32) (x5 : Int32) (M : Mm) : Prop :=
  f_St_kindOf fu (fun r2 M1 => ((x4 = 1) → ((r2 = x5) → post (-1) M1) ∧ (¬ (r2 = x5) → f_St_targetOf_58 fu post t x1 x2 x4 r2 M1)) ∧ (¬ (x4 = 1) → f_St_targetOf_58 fu post t x1 x2 x4 r2 M1)) x3 x5 M
def f_St_targetOf (fu : Nat) (post : Int32 → Mm → Prop) (t : Nat) (x1 : Int32) (x2 : Int32) (x3 : Int32) (M : Mm) : Prop :=
  f_SR_at_s fu (fun r2 M1 => f_To_kindAt fu (fun r4 M3 => ((r2 = 3) → f_St_targetOf_35 fu post t x1 x2 x3 r2 r4 M3) ∧ (¬ (r2 = 3) → ((0 ≤ r4) → f_St_targetOf_35 fu post t x1 x2 x3 r2 r4 M3) ∧ (¬ (0 ≤ r4) → post (-1) M3))) (t + 9) x1 M1) 0 x3 M
set_option maxRecDepth 100000 in
theorem j_St_targetOf_93 {l : Launch} {X : CX} {g : GX} {w : WX} {fu : Nat} {post : Int32 → Mm → Prop} (hX : X.2.1 = l) (hC : Cx X g cX7_targetOf 9 RX7 (some .int) 2) (x7 : Int32) (kx0 : Int32) {M : Mm} (h : f_St_targetOf_93 fu post x7 kx0 M) : V X g w 9 0 0 (QI X g w post 0 0) 93 [none, none, none, none, none, none, none, some (.int x7), none] [.int kx0] M := by
  unfold f_St_targetOf_93 at h
  refine V_istore hC (by decide) dX7_targetOf_93 ?_
  refine V_iload hC rfl dX7_targetOf_95 ?_
  refine V_if_ge (tgt := 104) hC dX7_targetOf_97 (by decide) (fun b1 => ?_) (fun b1 => ?_)
  · replace h := h.1 b1
    refine V_iload hC rfl dX7_targetOf_104 ?_
    refine V_bipush (v := 96) hC (by decide) dX7_targetOf_106 ?_
    refine V_imul hC dX7_targetOf_108 ?_
    refine V_iload hC rfl dX7_targetOf_109 ?_
    refine V_iadd hC dX7_targetOf_111 ?_
    exact V_iret hC h dX7_targetOf_112
  · replace h := h.2 b1
    refine V_iconst (v := (-1)) hC (by decide) dX7_targetOf_100 ?_
    refine V_goto (tgt := 112) hC (by decide) dX7_targetOf_101 ?_
    exact V_iret hC h dX7_targetOf_112
set_option maxRecDepth 100000 in
theorem j_St_targetOf_71 {l : Launch} {X : CX} {g : GX} {w : WX} {fu : Nat} {post : Int32 → Mm → Prop} (hX : X.2.1 = l) (hC : Cx X g cX7_targetOf 9 RX7 (some .int) 2) (t : Nat) (x2 : Int32) (x4 : Int32) (x6 : Int32) (kx0 : Int32) {M : Mm} (ht : ok w t 7) (h : f_St_targetOf_71 fu post t x2 x4 x6 kx0 M) : V X g w 9 0 0 (QI X g w post 0 0) 71 [some (ob g t), none, some (.int x2), none, some (.int x4), none, some (.int x6), none, none] [.int kx0] M := by
  unfold f_St_targetOf_71 at h
  refine V_istore hC (by decide) dX7_targetOf_71 ?_
  refine V_iload hC rfl dX7_targetOf_73 ?_
  refine V_iconst (v := 2) hC (by decide) dX7_targetOf_75 ?_
  refine V_icmp_ne (tgt := 83) hC dX7_targetOf_76 (by decide) (fun b3 => ?_) (fun b3 => ?_)
  · replace h := h.2 b3
    refine V_aload_n hC rfl dX7_targetOf_83 ?_
    refine gf_7_1 hC ht tw_193 dX7_targetOf_84 ?_
    refine V_iload_n hC rfl dX7_targetOf_87 ?_
    refine V_iload hC rfl dX7_targetOf_88 ?_
    refine V_calli (As := [.int x2, .int x6]) hC (c_Re_after X.2.1 g w fu _ (t + 11) x2 x6 M (ok_7_1 ht) h) mw_X5_after (by decide) tw_669 (ok_7_1 ht) (by decide) rfl rfl rfl (Nat.le_of_ble_eq_true rfl) ⟨Nat.zero_le _, Nat.zero_le _⟩ dX7_targetOf_90 (fun r2 M1 h => ?_)
    refine V_sub (us := [none, none, none, none, none, none, none, some (.int kx0), none]) ⟨rfl, trivial⟩ ?_
    exact j_St_targetOf_93 hX hC kx0 r2 h
  · replace h := h.1 b3
    refine V_iload_n hC rfl dX7_targetOf_79 ?_
    refine V_goto (tgt := 93) hC (by decide) dX7_targetOf_80 ?_
    refine V_sub (us := [none, none, none, none, none, none, none, some (.int kx0), none]) ⟨rfl, trivial⟩ ?_
    exact j_St_targetOf_93 hX hC kx0 x2 h
set_option maxRecDepth 100000 in
theorem j_St_targetOf_58 {l : Launch} {X : CX} {g : GX} {w : WX} {fu : Nat} {post : Int32 → Mm → Prop} (hX : X.2.1 = l) (hC : Cx X g cX7_targetOf 9 RX7 (some .int) 2) (t : Nat) (x1 : Int32) (x2 : Int32) (x4 : Int32) (x6 : Int32) {M : Mm} (ht : ok w t 7) (h : f_St_targetOf_58 fu post t x1 x2 x4 x6 M) : V X g w 9 0 0 (QI X g w post 0 0) 58 [some (ob g t), some (.int x1), some (.int x2), none, some (.int x4), none, some (.int x6), none, none] [] M := by
  unfold f_St_targetOf_58 at h
  refine V_iload hC rfl dX7_targetOf_58 ?_
  refine V_iconst (v := 3) hC (by decide) dX7_targetOf_60 ?_
  refine V_icmp_ne (tgt := 68) hC dX7_targetOf_61 (by decide) (fun b1 => ?_) (fun b1 => ?_)
  · replace h := h.2 b1
    refine V_iload_n hC rfl dX7_targetOf_68 ?_
    refine V_iconst (v := 1) hC (by decide) dX7_targetOf_69 ?_
    refine V_iadd hC dX7_targetOf_70 ?_
    refine V_sub (us := [some (ob g t), none, some (.int x2), none, some (.int x4), none, some (.int x6), none, none]) ⟨rfl, rfl, rfl, rfl, trivial⟩ ?_
    exact j_St_targetOf_71 hX hC t x2 x4 x6 (x1 + 1) ht h
  · replace h := h.1 b1
    refine V_iload_n hC rfl dX7_targetOf_64 ?_
    refine V_goto (tgt := 71) hC (by decide) dX7_targetOf_65 ?_
    refine V_sub (us := [some (ob g t), none, some (.int x2), none, some (.int x4), none, some (.int x6), none, none]) ⟨rfl, rfl, rfl, rfl, trivial⟩ ?_
    exact j_St_targetOf_71 hX hC t x2 x4 x6 x1 ht h
set_option maxRecDepth 100000 in
theorem j_St_targetOf_35 {l : Launch} {X : CX} {g : GX} {w : WX} {fu : Nat} {post : Int32 → Mm → Prop} (hX : X.2.1 = l) (hC : Cx X g cX7_targetOf 9 RX7 (some .int) 2) (t : Nat) (x1 : Int32) (x2 : Int32) (x3 : Int32) (x4 : Int32) (x5 : Int32) {M : Mm} (ht : ok w t 7) (h : f_St_targetOf_35 fu post t x1 x2 x3 x4 x5 M) : V X g w 9 0 0 (QI X g w post 0 0) 35 [some (ob g t), some (.int x1), some (.int x2), some (.int x3), some (.int x4), some (.int x5), none, none, none] [] M := by
  unfold f_St_targetOf_35 at h
  refine V_iload_n hC rfl dX7_targetOf_35 ?_
  refine V_iload hC rfl dX7_targetOf_36 ?_
  refine V_scalli (As := [.int x3, .int x5]) hC (c_St_kindOf X.2.1 g w fu _ x3 x5 M h) mw_X7_kindOf (by decide) tw_734 rfl rfl (Nat.le_of_ble_eq_true rfl) ⟨Nat.zero_le _, Nat.zero_le _⟩ dX7_targetOf_38 (fun r2 M1 h => ?_)
  refine V_istore hC (by decide) dX7_targetOf_41 ?_
  refine V_iload hC rfl dX7_targetOf_43 ?_
  refine V_iconst (v := 1) hC (by decide) dX7_targetOf_45 ?_
  refine V_icmp_ne (tgt := 58) hC dX7_targetOf_46 (by decide) (fun b4 => ?_) (fun b4 => ?_)
  · replace h := h.2 b4
    refine V_sub (us := [some (ob g t), some (.int x1), some (.int x2), none, some (.int x4), none, some (.int r2), none, none]) ⟨rfl, rfl, rfl, rfl, rfl, trivial⟩ ?_
    exact j_St_targetOf_58 hX hC t x1 x2 x4 r2 ht h
  · replace h := h.1 b4
    refine V_iload hC rfl dX7_targetOf_49 ?_
    refine V_iload hC rfl dX7_targetOf_51 ?_
    refine V_icmp_ne (tgt := 58) hC dX7_targetOf_53 (by decide) (fun b3 => ?_) (fun b3 => ?_)
    · replace h := h.2 b3
      refine V_sub (us := [some (ob g t), some (.int x1), some (.int x2), none, some (.int x4), none, some (.int r2), none, none]) ⟨rfl, rfl, rfl, rfl, rfl, trivial⟩ ?_
      exact j_St_targetOf_58 hX hC t x1 x2 x4 r2 ht h
    · replace h := h.1 b3
      refine V_iconst (v := (-1)) hC (by decide) dX7_targetOf_56 ?_
      exact V_iret hC h dX7_targetOf_57
set_option maxRecDepth 100000 in
theorem c_St_targetOf (l : Launch) (g : GX) (w : WX) (fu : Nat) (post : Int32 → Mm → Prop) (t : Nat) (x1 : Int32) (x2 : Int32) (x3 : Int32) (M : Mm) (ht : ok w t 7) (h : f_St_targetOf fu post t x1 x2 x3 M) : Met l yX7_targetOf [Cond.code yX7_targetOf cX7_targetOf 9 (some .int)] (rmC 2 0 0) (va_Pc [ob g t, .int x1, .int x2, .int x3] (Wb g w M)) (va_Qi post (Wb g w) (Af g)) 0 0 (Af g) := by
  refine Ct_i (by decide) rfl (fun v hv => by simp only [List.mem_cons, List.not_mem_nil, or_false] at hv; rcases hv with rfl | rfl | rfl | rfl <;> rfl) (Nat.le_of_ble_eq_true rfl) (Nat.le_refl _) ?_
  intro X hX _ hC
  unfold f_St_targetOf at h
  refine V_sub (us := [some (ob g t), some (.int x1), some (.int x2), some (.int x3), none, none, none, none, none]) ⟨rfl, rfl, rfl, rfl, trivial⟩ ?_
  refine V_gstN (i := 0) hC (by decide) tw_732 dX7_targetOf_0 ?_
  refine V_iload_n hC rfl dX7_targetOf_3 ?_
  refine V_scalliN (As := [.ref (g.2.2.2.2.2.2 0), .int x3]) hC (c_SR_at_s X.2.1 g w fu _ 0 x3 M (by decide) h) mw_X10_at (by decide) tw_682 rfl rfl (Nat.le_of_ble_eq_true rfl) ⟨Nat.zero_le _, Nat.zero_le _⟩ dX7_targetOf_4 (fun r2 M1 h => ?_)
  refine V_istore hC (by decide) dX7_targetOf_7 ?_
  refine V_aload_n hC rfl dX7_targetOf_9 ?_
  refine gf_7_0 hC ht tw_192 dX7_targetOf_10 ?_
  refine gfN_8_2 hC (ok_7_0 ht) tw_110 dX7_targetOf_13 ?_
  refine V_iload_n hC rfl dX7_targetOf_16 ?_
  refine V_calli (As := [.int x1]) hC (c_To_kindAt X.2.1 g w fu _ (t + 9) x1 M1 (ok_8_2 (ok_7_0 ht)) h) mw_X9_kindAt (by decide) tw_668 (ok_8_2 (ok_7_0 ht)) (by decide) rfl rfl rfl (Nat.le_of_ble_eq_true rfl) ⟨Nat.zero_le _, Nat.zero_le _⟩ dX7_targetOf_17 (fun r4 M3 h => ?_)
  refine V_istore hC (by decide) dX7_targetOf_20 ?_
  refine V_iload hC rfl dX7_targetOf_22 ?_
  refine V_iconst (v := 3) hC (by decide) dX7_targetOf_24 ?_
  refine V_icmp_eq (tgt := 35) hC dX7_targetOf_25 (by decide) (fun b6 => ?_) (fun b6 => ?_)
  · replace h := h.1 b6
    refine V_sub (us := [some (ob g t), some (.int x1), some (.int x2), some (.int x3), some (.int r2), some (.int r4), none, none, none]) ⟨rfl, rfl, rfl, rfl, rfl, rfl, trivial⟩ ?_
    exact j_St_targetOf_35 hX hC t x1 x2 x3 r2 r4 ht h
  · replace h := h.2 b6
    refine V_iload hC rfl dX7_targetOf_28 ?_
    refine V_if_ge (tgt := 35) hC dX7_targetOf_30 (by decide) (fun b5 => ?_) (fun b5 => ?_)
    · replace h := h.1 b5
      refine V_sub (us := [some (ob g t), some (.int x1), some (.int x2), some (.int x3), some (.int r2), some (.int r4), none, none, none]) ⟨rfl, rfl, rfl, rfl, rfl, rfl, trivial⟩ ?_
      exact j_St_targetOf_35 hX hC t x1 x2 x3 r2 r4 ht h
    · replace h := h.2 b5
      refine V_iconst (v := (-1)) hC (by decide) dX7_targetOf_33 ?_
      exact V_iret hC h dX7_targetOf_34
def f_St_priceOf (fu : Nat) (post : Int32 → Mm → Prop) (t : Nat) (x1 : Int32) (x2 : Int32) (M : Mm) : Prop :=
  f_SR_at_s fu (fun r2 M1 => f_St_kindOf fu (fun r4 M3 => f_Co_of fu (fun r6 M5 => post r6 M5) (t + 7) r2 r4 M3) x1 x2 M1) 0 x1 M
set_option maxRecDepth 100000 in
theorem c_St_priceOf (l : Launch) (g : GX) (w : WX) (fu : Nat) (post : Int32 → Mm → Prop) (t : Nat) (x1 : Int32) (x2 : Int32) (M : Mm) (ht : ok w t 7) (h : f_St_priceOf fu post t x1 x2 M) : Met l yX7_priceOf [Cond.code yX7_priceOf cX7_priceOf 3 (some .int)] (rmC 2 0 0) (va_Pc [ob g t, .int x1, .int x2] (Wb g w M)) (va_Qi post (Wb g w) (Af g)) 0 0 (Af g) := by
  refine Ct_i (by decide) rfl (fun v hv => by simp only [List.mem_cons, List.not_mem_nil, or_false] at hv; rcases hv with rfl | rfl | rfl <;> rfl) (Nat.le_of_ble_eq_true rfl) (Nat.le_refl _) ?_
  intro X hX _ hC
  unfold f_St_priceOf at h
  refine V_sub (us := [some (ob g t), some (.int x1), some (.int x2)]) ⟨rfl, rfl, rfl, trivial⟩ ?_
  refine V_aload_n hC rfl dX7_priceOf_0 ?_
  refine gf_7_0 hC ht tw_192 dX7_priceOf_1 ?_
  refine gfN_8_1 hC (ok_7_0 ht) tw_105 dX7_priceOf_4 ?_
  refine V_gstN (i := 0) hC (by decide) tw_732 dX7_priceOf_7 ?_
  refine V_iload_n hC rfl dX7_priceOf_10 ?_
  refine V_scalliN (As := [.ref (g.2.2.2.2.2.2 0), .int x1]) hC (c_SR_at_s X.2.1 g w fu _ 0 x1 M (by decide) h) mw_X10_at (by decide) tw_682 rfl rfl (Nat.le_of_ble_eq_true rfl) ⟨Nat.zero_le _, Nat.zero_le _⟩ dX7_priceOf_11 (fun r2 M1 h => ?_)
  refine V_iload_n hC rfl dX7_priceOf_14 ?_
  refine V_iload_n hC rfl dX7_priceOf_15 ?_
  refine V_scalli (As := [.int x1, .int x2]) hC (c_St_kindOf X.2.1 g w fu _ x1 x2 M1 h) mw_X7_kindOf (by decide) tw_734 rfl rfl (Nat.le_of_ble_eq_true rfl) ⟨Nat.zero_le _, Nat.zero_le _⟩ dX7_priceOf_16 (fun r4 M3 h => ?_)
  refine V_calli (As := [.int r2, .int r4]) hC (c_Co_of X.2.1 g w fu _ (t + 7) r2 r4 M3 (ok_8_1 (ok_7_0 ht)) h) mw_X1_of (by decide) tw_677 (ok_8_1 (ok_7_0 ht)) (by decide) rfl rfl rfl (Nat.le_of_ble_eq_true rfl) ⟨Nat.zero_le _, Nat.zero_le _⟩ dX7_priceOf_19 (fun r6 M5 h => ?_)
  exact V_iret hC h dX7_priceOf_22
def f_St_firstMove (fu : Nat) (post : Int32 → Mm → Prop) (t : Nat) (M : Mm) : Prop :=
  (((M t 6) = 0) → post 0 M) ∧ (¬ ((M t 6) = 0) → post 1 M)
set_option maxRecDepth 100000 in
theorem c_St_firstMove (l : Launch) (g : GX) (w : WX) (fu : Nat) (post : Int32 → Mm → Prop) (t : Nat) (M : Mm) (ht : ok w t 7) (h : f_St_firstMove fu post t M) : Met l yX7_firstMove [Cond.code yX7_firstMove cX7_firstMove 1 (some .int)] (rmC 0 0 0) (va_Pc [ob g t] (Wb g w M)) (va_Qi post (Wb g w) (Af g)) 0 0 (Af g) := by
  refine Ct_i (by decide) rfl (fun v hv => by simp only [List.mem_cons, List.not_mem_nil, or_false] at hv; rcases hv with rfl <;> rfl) (Nat.le_of_ble_eq_true rfl) (Nat.le_refl _) ?_
  intro X hX _ hC
  unfold f_St_firstMove at h
  refine V_sub (us := [some (ob g t)]) ⟨rfl, trivial⟩ ?_
  refine V_aload_n hC rfl dX7_firstMove_0 ?_
  refine gf_7_6 hC ht tw_199 dX7_firstMove_1 ?_
  refine V_if_ne (tgt := 11) hC dX7_firstMove_4 (by decide) (fun b1 => ?_) (fun b1 => ?_)
  · replace h := h.2 b1
    refine V_iconst (v := 1) hC (by decide) dX7_firstMove_11 ?_
    exact V_iret hC h dX7_firstMove_12
  · replace h := h.1 b1
    refine V_iconst (v := 0) hC (by decide) dX7_firstMove_7 ?_
    refine V_goto (tgt := 12) hC (by decide) dX7_firstMove_8 ?_
    exact V_iret hC h dX7_firstMove_12
def f_St_pickMove_26 (fu : Nat) (post : Int32 → Mm → Prop) : Nat → Nat → Int32 → Int32 → Int32 → Int32 → Int32 → Mm → Prop
  | 0, _, _, _, _, _, _, _ => False
  | kf + 1, t, x1, x2, x3, x4, x5, M =>
    ((14 ≤ x5) → post (-1) M) ∧ (¬ (14 ≤ x5) → f_St_targetOf fu (fun r2 M1 => ((r2 < 0) → ∀ y3, y3 = x5 + 1 → f_St_pickMove_26 fu post kf t x1 x2 x3 x4 y3 M1) ∧ (¬ (r2 < 0) → f_St_priceOf fu (fun r5 M4 => f_SR_at fu (fun r7 M6 => (((r5 + r7) = x3) → f_SR_at fu (fun r10 M9 => ((r10 ≤ (M9 t 10)) → ∀ M11, M11 = up M9 t 10 ((M9 t 10) - r10) → ∀ y12, y12 = x5 + 1 → f_St_pickMove_26 fu post kf t x1 x2 x3 x4 y12 M11) ∧ (¬ (r10 ≤ (M9 t 10)) → post x5 M9)) (t + 17) r2 M6) ∧ (¬ ((r5 + r7) = x3) → ∀ y8, y8 = x5 + 1 → f_St_pickMove_26 fu post kf t x1 x2 x3 x4 y8 M6)) (t + 15) r2 M4) t x5 x4 M1)) t x1 x2 x5 M)
def f_St_pickMove (fu : Nat) (post : Int32 → Mm → Prop) (t : Nat) (x1 : Int32) (x2 : Int32) (M : Mm) : Prop :=
  f_St_leastFrom fu (fun r2 M1 => f_To_kindAt fu (fun r4 M3 => f_St_firstMove fu (fun r6 M5 => f_St_pickMove_26 fu post fu t x1 x2 r2 r4 r6 M5) t M3) (t + 9) x1 M1) t x1 x2 M
set_option maxRecDepth 100000 in
theorem l_St_pickMove_26 {l : Launch} {X : CX} {g : GX} {w : WX} {fu : Nat} {post : Int32 → Mm → Prop} (hX : X.2.1 = l) (hC : Cx X g cX7_pickMove 8 RX7 (some .int) 3) : ∀ (kf : Nat) (t : Nat) (x1 : Int32) (x2 : Int32) (x3 : Int32) (x4 : Int32) (x5 : Int32) (M : Mm) (ht : ok w t 7) (h : f_St_pickMove_26 fu post kf t x1 x2 x3 x4 x5 M), V X g w 8 0 0 (QI X g w post 0 0) 26 [some (ob g t), some (.int x1), some (.int x2), some (.int x3), some (.int x4), some (.int x5), none, none] [] M := by
  intro kf
  induction kf with
  | zero => intro t x1 x2 x3 x4 x5 M ht h; exact absurd h id
  | succ kf ih =>
    intro t x1 x2 x3 x4 x5 M ht h
    rw [f_St_pickMove_26] at h
    refine V_iload hC rfl dX7_pickMove_26 ?_
    refine V_bipush (v := 14) hC (by decide) dX7_pickMove_28 ?_
    refine V_icmp_ge (tgt := 110) hC dX7_pickMove_30 (by decide) (fun b16 => ?_) (fun b16 => ?_)
    · replace h := h.1 b16
      refine V_iconst (v := (-1)) hC (by decide) dX7_pickMove_110 ?_
      exact V_iret hC h dX7_pickMove_111
    · replace h := h.2 b16
      refine V_aload_n hC rfl dX7_pickMove_33 ?_
      refine V_iload_n hC rfl dX7_pickMove_34 ?_
      refine V_iload_n hC rfl dX7_pickMove_35 ?_
      refine V_iload hC rfl dX7_pickMove_36 ?_
      refine V_calli (As := [.int x1, .int x2, .int x5]) hC (c_St_targetOf X.2.1 g w fu _ t x1 x2 x5 M ht h) mw_X7_targetOf (by decide) tw_728 ht (by decide) rfl rfl rfl (Nat.le_of_ble_eq_true rfl) ⟨Nat.zero_le _, Nat.zero_le _⟩ dX7_pickMove_38 (fun r2 M1 h => ?_)
      refine V_istore hC (by decide) dX7_pickMove_41 ?_
      refine V_iload hC rfl dX7_pickMove_43 ?_
      refine V_if_lt (tgt := 104) hC dX7_pickMove_45 (by decide) (fun b15 => ?_) (fun b15 => ?_)
      · replace h := h.1 b15
        obtain ⟨y3, ey3⟩ : ∃ z, z = x5 + 1 := ⟨_, rfl⟩
        replace h := h y3 ey3
        refine V_iinc (v := y3) hC rfl (by rw [ey3]; rfl) (by decide) dX7_pickMove_104 ?_
        refine V_goto (tgt := 26) hC (by decide) dX7_pickMove_107 ?_
        refine V_sub (us := [some (ob g t), some (.int x1), some (.int x2), some (.int x3), some (.int x4), some (.int y3), none, none]) ⟨rfl, rfl, rfl, rfl, rfl, rfl, trivial⟩ ?_
        exact ih t x1 x2 x3 x4 y3 M1 ht h
      · replace h := h.2 b15
        refine V_aload_n hC rfl dX7_pickMove_48 ?_
        refine V_iload hC rfl dX7_pickMove_49 ?_
        refine V_iload hC rfl dX7_pickMove_51 ?_
        refine V_calli (As := [.int x5, .int x4]) hC (c_St_priceOf X.2.1 g w fu _ t x5 x4 M1 ht h) mw_X7_priceOf (by decide) tw_739 ht (by decide) rfl rfl rfl (Nat.le_of_ble_eq_true rfl) ⟨Nat.zero_le _, Nat.zero_le _⟩ dX7_pickMove_53 (fun r5 M4 h => ?_)
        refine V_aload_n hC rfl dX7_pickMove_56 ?_
        refine gf_7_2 hC ht tw_194 dX7_pickMove_57 ?_
        refine V_iload hC rfl dX7_pickMove_60 ?_
        refine V_scalliN (As := [ob g (t + 15), .int r2]) hC (c_SR_at X.2.1 g w fu _ (t + 15) r2 M4 (ok_7_2 ht) h) mw_X10_at (by decide) tw_682 rfl rfl (Nat.le_of_ble_eq_true rfl) ⟨Nat.zero_le _, Nat.zero_le _⟩ dX7_pickMove_62 (fun r7 M6 h => ?_)
        refine V_iadd hC dX7_pickMove_65 ?_
        refine V_iload_n hC rfl dX7_pickMove_66 ?_
        refine V_icmp_ne (tgt := 104) hC dX7_pickMove_67 (by decide) (fun b14 => ?_) (fun b14 => ?_)
        · replace h := h.2 b14
          obtain ⟨y8, ey8⟩ : ∃ z, z = x5 + 1 := ⟨_, rfl⟩
          replace h := h y8 ey8
          refine V_iinc (v := y8) hC rfl (by rw [ey8]; rfl) (by decide) dX7_pickMove_104 ?_
          refine V_goto (tgt := 26) hC (by decide) dX7_pickMove_107 ?_
          refine V_sub (us := [some (ob g t), some (.int x1), some (.int x2), some (.int x3), some (.int x4), some (.int y8), none, none]) ⟨rfl, rfl, rfl, rfl, rfl, rfl, trivial⟩ ?_
          exact ih t x1 x2 x3 x4 y8 M6 ht h
        · replace h := h.1 b14
          refine V_aload_n hC rfl dX7_pickMove_70 ?_
          refine gf_7_4 hC ht tw_196 dX7_pickMove_71 ?_
          refine V_iload hC rfl dX7_pickMove_74 ?_
          refine V_scalliN (As := [ob g (t + 17), .int r2]) hC (c_SR_at X.2.1 g w fu _ (t + 17) r2 M6 (ok_7_4 ht) h) mw_X10_at (by decide) tw_682 rfl rfl (Nat.le_of_ble_eq_true rfl) ⟨Nat.zero_le _, Nat.zero_le _⟩ dX7_pickMove_76 (fun r10 M9 h => ?_)
          refine V_istore hC (by decide) dX7_pickMove_79 ?_
          refine V_aload_n hC rfl dX7_pickMove_81 ?_
          refine gf_7_10 hC ht tw_203 dX7_pickMove_82 ?_
          refine V_iload hC rfl dX7_pickMove_85 ?_
          refine V_icmp_ge (tgt := 93) hC dX7_pickMove_87 (by decide) (fun b13 => ?_) (fun b13 => ?_)
          · replace h := h.1 b13
            refine V_aload_n hC rfl dX7_pickMove_93 ?_
            refine V_dup hC rfl dX7_pickMove_94 ?_
            refine gf_7_10 hC ht tw_203 dX7_pickMove_95 ?_
            refine V_iload hC rfl dX7_pickMove_98 ?_
            refine V_isub hC dX7_pickMove_100 ?_
            refine pf_7_10 hC ht tw_203 dX7_pickMove_101 ?_
            obtain ⟨M11, eM11⟩ : ∃ z, z = up M9 t 10 ((M9 t 10) - r10) := ⟨_, rfl⟩
            replace h := h M11 eM11
            refine V_mem eM11 ?_
            obtain ⟨y12, ey12⟩ : ∃ z, z = x5 + 1 := ⟨_, rfl⟩
            replace h := h y12 ey12
            refine V_iinc (v := y12) hC rfl (by rw [ey12]; rfl) (by decide) dX7_pickMove_104 ?_
            refine V_goto (tgt := 26) hC (by decide) dX7_pickMove_107 ?_
            refine V_sub (us := [some (ob g t), some (.int x1), some (.int x2), some (.int x3), some (.int x4), some (.int y12), none, none]) ⟨rfl, rfl, rfl, rfl, rfl, rfl, trivial⟩ ?_
            exact ih t x1 x2 x3 x4 y12 M11 ht h
          · replace h := h.2 b13
            refine V_iload hC rfl dX7_pickMove_90 ?_
            exact V_iret hC h dX7_pickMove_92
set_option maxRecDepth 100000 in
theorem c_St_pickMove (l : Launch) (g : GX) (w : WX) (fu : Nat) (post : Int32 → Mm → Prop) (t : Nat) (x1 : Int32) (x2 : Int32) (M : Mm) (ht : ok w t 7) (h : f_St_pickMove fu post t x1 x2 M) : Met l yX7_pickMove [Cond.code yX7_pickMove cX7_pickMove 8 (some .int)] (rmC 3 0 0) (va_Pc [ob g t, .int x1, .int x2] (Wb g w M)) (va_Qi post (Wb g w) (Af g)) 0 0 (Af g) := by
  refine Ct_i (by decide) rfl (fun v hv => by simp only [List.mem_cons, List.not_mem_nil, or_false] at hv; rcases hv with rfl | rfl | rfl <;> rfl) (Nat.le_of_ble_eq_true rfl) (Nat.le_refl _) ?_
  intro X hX _ hC
  unfold f_St_pickMove at h
  refine V_sub (us := [some (ob g t), some (.int x1), some (.int x2), none, none, none, none, none]) ⟨rfl, rfl, rfl, trivial⟩ ?_
  refine V_aload_n hC rfl dX7_pickMove_0 ?_
  refine V_iload_n hC rfl dX7_pickMove_1 ?_
  refine V_iload_n hC rfl dX7_pickMove_2 ?_
  refine V_calli (As := [.int x1, .int x2]) hC (c_St_leastFrom X.2.1 g w fu _ t x1 x2 M ht h) mw_X7_leastFrom (by decide) tw_723 ht (by decide) rfl rfl rfl (Nat.le_of_ble_eq_true rfl) ⟨Nat.zero_le _, Nat.zero_le _⟩ dX7_pickMove_3 (fun r2 M1 h => ?_)
  refine V_istore_n hC (by decide) dX7_pickMove_6 ?_
  refine V_aload_n hC rfl dX7_pickMove_7 ?_
  refine gf_7_0 hC ht tw_192 dX7_pickMove_8 ?_
  refine gfN_8_2 hC (ok_7_0 ht) tw_110 dX7_pickMove_11 ?_
  refine V_iload_n hC rfl dX7_pickMove_14 ?_
  refine V_calli (As := [.int x1]) hC (c_To_kindAt X.2.1 g w fu _ (t + 9) x1 M1 (ok_8_2 (ok_7_0 ht)) h) mw_X9_kindAt (by decide) tw_668 (ok_8_2 (ok_7_0 ht)) (by decide) rfl rfl rfl (Nat.le_of_ble_eq_true rfl) ⟨Nat.zero_le _, Nat.zero_le _⟩ dX7_pickMove_15 (fun r4 M3 h => ?_)
  refine V_istore hC (by decide) dX7_pickMove_18 ?_
  refine V_aload_n hC rfl dX7_pickMove_20 ?_
  refine V_calli (As := []) hC (c_St_firstMove X.2.1 g w fu _ t M3 ht h) mw_X7_firstMove (by decide) tw_724 ht (by decide) rfl rfl rfl (Nat.le_of_ble_eq_true rfl) ⟨Nat.zero_le _, Nat.zero_le _⟩ dX7_pickMove_21 (fun r6 M5 h => ?_)
  refine V_istore hC (by decide) dX7_pickMove_24 ?_
  refine V_sub (us := [some (ob g t), some (.int x1), some (.int x2), some (.int r2), some (.int r4), some (.int r6), none, none]) ⟨rfl, rfl, rfl, rfl, rfl, rfl, trivial⟩ ?_
  exact l_St_pickMove_26 hX hC fu t x1 x2 r2 r4 r6 M5 ht h
def f_Sc_add (fu : Nat) (post : Mm → Prop) (t : Nat) (x1 : Int32) (x2 : Int32) (M : Mm) : Prop :=
  ((1248 ≤ (M t 2)) → post M) ∧ (¬ (1248 ≤ (M t 2)) → f_SR_put fu (fun M1 => f_SR_put fu (fun M2 => ∀ M3, M3 = up M2 t 2 ((M2 t 2) + 1) → post M3) (t + 2) (M1 t 2) x2 M1) (t + 1) (M t 2) x1 M)
set_option maxRecDepth 100000 in
theorem c_Sc_add (l : Launch) (g : GX) (w : WX) (fu : Nat) (post : Mm → Prop) (t : Nat) (x1 : Int32) (x2 : Int32) (M : Mm) (ht : ok w t 6) (h : f_Sc_add fu post t x1 x2 M) : Met l yX6_add [Cond.code yX6_add cX6_add 3 (none)] (rmC 1 0 0) (va_Pc [ob g t, .int x1, .int x2] (Wb g w M)) (va_Qv post (Wb g w) (Af g)) 0 0 (Af g) := by
  refine Ct_v (by decide) rfl (fun v hv => by simp only [List.mem_cons, List.not_mem_nil, or_false] at hv; rcases hv with rfl | rfl | rfl <;> rfl) (Nat.le_of_ble_eq_true rfl) (Nat.le_refl _) ?_
  intro X hX _ hC
  unfold f_Sc_add at h
  refine V_sub (us := [some (ob g t), some (.int x1), some (.int x2)]) ⟨rfl, rfl, rfl, trivial⟩ ?_
  refine V_aload_n hC rfl dX6_add_0 ?_
  refine gf_6_2 hC ht tw_235 dX6_add_1 ?_
  refine V_sipush (v := 1248) hC (by decide) dX6_add_4 ?_
  refine V_icmp_ge (tgt := 44) hC dX6_add_7 (by decide) (fun b4 => ?_) (fun b4 => ?_)
  · replace h := h.1 b4
    exact V_vret hC h dX6_add_44
  · replace h := h.2 b4
    refine V_aload_n hC rfl dX6_add_10 ?_
    refine gf_6_0 hC ht tw_233 dX6_add_11 ?_
    refine V_aload_n hC rfl dX6_add_14 ?_
    refine gf_6_2 hC ht tw_235 dX6_add_15 ?_
    refine V_iload_n hC rfl dX6_add_18 ?_
    refine V_scallvN (As := [ob g (t + 1), .int (M t 2), .int x1]) hC (c_SR_put X.2.1 g w fu _ (t + 1) (M t 2) x1 M (ok_6_0 ht) h) mw_X10_put (by decide) tw_747 rfl rfl (Nat.le_of_ble_eq_true rfl) ⟨Nat.zero_le _, Nat.zero_le _⟩ dX6_add_19 (fun M1 h => ?_)
    refine V_aload_n hC rfl dX6_add_22 ?_
    refine gf_6_1 hC ht tw_234 dX6_add_23 ?_
    refine V_aload_n hC rfl dX6_add_26 ?_
    refine gf_6_2 hC ht tw_235 dX6_add_27 ?_
    refine V_iload_n hC rfl dX6_add_30 ?_
    refine V_scallvN (As := [ob g (t + 2), .int (M1 t 2), .int x2]) hC (c_SR_put X.2.1 g w fu _ (t + 2) (M1 t 2) x2 M1 (ok_6_1 ht) h) mw_X10_put (by decide) tw_747 rfl rfl (Nat.le_of_ble_eq_true rfl) ⟨Nat.zero_le _, Nat.zero_le _⟩ dX6_add_31 (fun M2 h => ?_)
    refine V_aload_n hC rfl dX6_add_34 ?_
    refine V_dup hC rfl dX6_add_35 ?_
    refine gf_6_2 hC ht tw_235 dX6_add_36 ?_
    refine V_iconst (v := 1) hC (by decide) dX6_add_39 ?_
    refine V_iadd hC dX6_add_40 ?_
    refine pf_6_2 hC ht tw_235 dX6_add_41 ?_
    obtain ⟨M3, eM3⟩ : ∃ z, z = up M2 t 2 ((M2 t 2) + 1) := ⟨_, rfl⟩
    replace h := h M3 eM3
    refine V_mem eM3 ?_
    exact V_vret hC h dX6_add_44
def f_St_trace_13 (fu : Nat) (post : Mm → Prop) : Nat → Nat → Nat → Nat → Int32 → Mm → Prop
  | 0, _, _, _, _, _ => False
  | kf + 1, t, a1, a3, x4, M =>
    ((1248 ≤ x4) → post M) ∧ (¬ (1248 ≤ x4) → f_St_isEnd fu (fun r2 M1 => ((r2 = 0) → f_St_pickMove fu (fun r4 M3 => ((0 ≤ r4) → f_To_kindAt fu (fun r6 M5 => f_SR_at_s fu (fun r8 M7 => f_St_kindOf fu (fun r10 M9 => f_Sc_add fu (fun M11 => f_St_targetOf fu (fun r13 M12 => ∀ M14, M14 = up M12 a1 0 (r13 / 96) → ∀ M15, M15 = up M14 a1 1 (r13 - r13 / 96 * 96) → ∀ y16, y16 = x4 + 1 → f_St_trace_13 fu post kf t a1 a3 y16 M15) t (M11 a1 0) (M11 a1 1) r4 M11) a3 r8 r10 M9) r4 r6 M7) 0 r4 M5) (t + 9) (M3 a1 0) M3) ∧ (¬ (0 ≤ r4) → post M3)) t (M1 a1 0) (M1 a1 1) M1) ∧ (¬ (r2 = 0) → post M1)) t (M a1 0) (M a1 1) M)
def f_St_trace (fu : Nat) (post : Mm → Prop) (t : Nat) (a1 : Nat) (x2 : Int32) (a3 : Nat) (M : Mm) : Prop :=
  ∀ M1, M1 = up M a3 2 0 → ∀ M2, M2 = up M1 t 10 x2 → f_St_trace_13 fu post fu t a1 a3 0 M2
set_option maxRecDepth 100000 in
theorem l_St_trace_13 {l : Launch} {X : CX} {g : GX} {w : WX} {fu : Nat} {post : Mm → Prop} (hX : X.2.1 = l) (hC : Cx X g cX7_trace 8 RX7 (none) 4) : ∀ (kf : Nat) (t : Nat) (a1 : Nat) (a3 : Nat) (x4 : Int32) (M : Mm) (ht : ok w t 7) (ha1 : ok w a1 2) (ha3 : ok w a3 6) (h : f_St_trace_13 fu post kf t a1 a3 x4 M), V X g w 8 0 0 (QV X g w post 0 0) 13 [some (ob g t), some (ob g a1), none, some (ob g a3), some (.int x4), none, none, none] [] M := by
  intro kf
  induction kf with
  | zero => intro t a1 a3 x4 M ht ha1 ha3 h; exact absurd h id
  | succ kf ih =>
    intro t a1 a3 x4 M ht ha1 ha3 h
    rw [f_St_trace_13] at h
    refine V_iload hC rfl dX7_trace_13 ?_
    refine V_sipush (v := 1248) hC (by decide) dX7_trace_15 ?_
    refine V_icmp_ge (tgt := 131) hC dX7_trace_18 (by decide) (fun b19 => ?_) (fun b19 => ?_)
    · replace h := h.1 b19
      exact V_vret hC h dX7_trace_131
    · replace h := h.2 b19
      refine V_aload_n hC rfl dX7_trace_21 ?_
      refine V_aload_n hC rfl dX7_trace_22 ?_
      refine gfN_2_0 hC ha1 tw_253 dX7_trace_23 ?_
      refine V_aload_n hC rfl dX7_trace_26 ?_
      refine gfN_2_1 hC ha1 tw_256 dX7_trace_27 ?_
      refine V_calli (As := [.int (M a1 0), .int (M a1 1)]) hC (c_St_isEnd X.2.1 g w fu _ t (M a1 0) (M a1 1) M ht h) mw_X7_isEnd (by decide) tw_662 ht (by decide) rfl rfl rfl (Nat.le_of_ble_eq_true rfl) ⟨Nat.zero_le _, Nat.zero_le _⟩ dX7_trace_30 (fun r2 M1 h => ?_)
      obtain ⟨hzr2, h⟩ := h
      refine V_if_ne (tgt := 131) hC dX7_trace_33 (by decide) (fun b18 => ?_) (fun b18 => ?_)
      · replace h := h.2 b18
        exact V_vret hC h dX7_trace_131
      · replace h := h.1 b18
        refine V_aload_n hC rfl dX7_trace_36 ?_
        refine V_aload_n hC rfl dX7_trace_37 ?_
        refine gfN_2_0 hC ha1 tw_253 dX7_trace_38 ?_
        refine V_aload_n hC rfl dX7_trace_41 ?_
        refine gfN_2_1 hC ha1 tw_256 dX7_trace_42 ?_
        refine V_calli (As := [.int (M1 a1 0), .int (M1 a1 1)]) hC (c_St_pickMove X.2.1 g w fu _ t (M1 a1 0) (M1 a1 1) M1 ht h) mw_X7_pickMove (by decide) tw_719 ht (by decide) rfl rfl rfl (Nat.le_of_ble_eq_true rfl) ⟨Nat.zero_le _, Nat.zero_le _⟩ dX7_trace_45 (fun r4 M3 h => ?_)
        refine V_istore hC (by decide) dX7_trace_48 ?_
        refine V_iload hC rfl dX7_trace_50 ?_
        refine V_if_ge (tgt := 56) hC dX7_trace_52 (by decide) (fun b17 => ?_) (fun b17 => ?_)
        · replace h := h.1 b17
          refine V_aload_n hC rfl dX7_trace_56 ?_
          refine gf_7_0 hC ht tw_192 dX7_trace_57 ?_
          refine gfN_8_2 hC (ok_7_0 ht) tw_110 dX7_trace_60 ?_
          refine V_aload_n hC rfl dX7_trace_63 ?_
          refine gfN_2_0 hC ha1 tw_253 dX7_trace_64 ?_
          refine V_calli (As := [.int (M3 a1 0)]) hC (c_To_kindAt X.2.1 g w fu _ (t + 9) (M3 a1 0) M3 (ok_8_2 (ok_7_0 ht)) h) mw_X9_kindAt (by decide) tw_668 (ok_8_2 (ok_7_0 ht)) (by decide) rfl rfl rfl (Nat.le_of_ble_eq_true rfl) ⟨Nat.zero_le _, Nat.zero_le _⟩ dX7_trace_67 (fun r6 M5 h => ?_)
          refine V_istore hC (by decide) dX7_trace_70 ?_
          refine V_aload_n hC rfl dX7_trace_72 ?_
          refine V_gstN (i := 0) hC (by decide) tw_732 dX7_trace_73 ?_
          refine V_iload hC rfl dX7_trace_76 ?_
          refine V_scalliN (As := [.ref (g.2.2.2.2.2.2 0), .int r4]) hC (c_SR_at_s X.2.1 g w fu _ 0 r4 M5 (by decide) h) mw_X10_at (by decide) tw_682 rfl rfl (Nat.le_of_ble_eq_true rfl) ⟨Nat.zero_le _, Nat.zero_le _⟩ dX7_trace_78 (fun r8 M7 h => ?_)
          refine V_iload hC rfl dX7_trace_81 ?_
          refine V_iload hC rfl dX7_trace_83 ?_
          refine V_scalli (As := [.int r4, .int r6]) hC (c_St_kindOf X.2.1 g w fu _ r4 r6 M7 h) mw_X7_kindOf (by decide) tw_734 rfl rfl (Nat.le_of_ble_eq_true rfl) ⟨Nat.zero_le _, Nat.zero_le _⟩ dX7_trace_85 (fun r10 M9 h => ?_)
          refine V_callv (As := [.int r8, .int r10]) hC (c_Sc_add X.2.1 g w fu _ a3 r8 r10 M9 ha3 h) mw_X6_add (by decide) tw_743 ha3 (by decide) rfl rfl rfl (Nat.le_of_ble_eq_true rfl) ⟨Nat.zero_le _, Nat.zero_le _⟩ dX7_trace_88 (fun M11 h => ?_)
          refine V_aload_n hC rfl dX7_trace_91 ?_
          refine V_aload_n hC rfl dX7_trace_92 ?_
          refine gfN_2_0 hC ha1 tw_253 dX7_trace_93 ?_
          refine V_aload_n hC rfl dX7_trace_96 ?_
          refine gfN_2_1 hC ha1 tw_256 dX7_trace_97 ?_
          refine V_iload hC rfl dX7_trace_100 ?_
          refine V_calli (As := [.int (M11 a1 0), .int (M11 a1 1), .int r4]) hC (c_St_targetOf X.2.1 g w fu _ t (M11 a1 0) (M11 a1 1) r4 M11 ht h) mw_X7_targetOf (by decide) tw_728 ht (by decide) rfl rfl rfl (Nat.le_of_ble_eq_true rfl) ⟨Nat.zero_le _, Nat.zero_le _⟩ dX7_trace_102 (fun r13 M12 h => ?_)
          refine V_istore hC (by decide) dX7_trace_105 ?_
          refine V_aload_n hC rfl dX7_trace_107 ?_
          refine V_iload hC rfl dX7_trace_108 ?_
          refine V_bipush (v := 96) hC (by decide) dX7_trace_110 ?_
          refine V_idiv hC (by decide) dX7_trace_112 ?_
          refine pfN_2_0 hC ha1 tw_253 dX7_trace_113 ?_
          obtain ⟨M14, eM14⟩ : ∃ z, z = up M12 a1 0 (r13 / 96) := ⟨_, rfl⟩
          replace h := h M14 eM14
          refine V_mem eM14 ?_
          refine V_aload_n hC rfl dX7_trace_116 ?_
          refine V_iload hC rfl dX7_trace_117 ?_
          refine V_bipush (v := 96) hC (by decide) dX7_trace_119 ?_
          refine V_irem hC (by decide) dX7_trace_121 ?_
          refine pfN_2_1 hC ha1 tw_256 dX7_trace_122 ?_
          obtain ⟨M15, eM15⟩ : ∃ z, z = up M14 a1 1 (r13 - r13 / 96 * 96) := ⟨_, rfl⟩
          replace h := h M15 eM15
          refine V_mem eM15 ?_
          obtain ⟨y16, ey16⟩ : ∃ z, z = x4 + 1 := ⟨_, rfl⟩
          replace h := h y16 ey16
          refine V_iinc (v := y16) hC rfl (by rw [ey16]; rfl) (by decide) dX7_trace_125 ?_
          refine V_goto (tgt := 13) hC (by decide) dX7_trace_128 ?_
          refine V_sub (us := [some (ob g t), some (ob g a1), none, some (ob g a3), some (.int y16), none, none, none]) ⟨rfl, rfl, rfl, rfl, trivial⟩ ?_
          exact ih t a1 a3 y16 M15 ht ha1 ha3 h
        · replace h := h.2 b17
          exact V_vret hC h dX7_trace_55
set_option maxRecDepth 100000 in
theorem c_St_trace (l : Launch) (g : GX) (w : WX) (fu : Nat) (post : Mm → Prop) (t : Nat) (a1 : Nat) (x2 : Int32) (a3 : Nat) (M : Mm) (ht : ok w t 7) (ha1 : ok w a1 2) (ha3 : ok w a3 6) (h : f_St_trace fu post t a1 x2 a3 M) : Met l yX7_trace [Cond.code yX7_trace cX7_trace 8 (none)] (rmC 4 0 0) (va_Pc [ob g t, ob g a1, .int x2, ob g a3] (Wb g w M)) (va_Qv post (Wb g w) (Af g)) 0 0 (Af g) := by
  refine Ct_v (by decide) rfl (fun v hv => by simp only [List.mem_cons, List.not_mem_nil, or_false] at hv; rcases hv with rfl | rfl | rfl | rfl <;> rfl) (Nat.le_of_ble_eq_true rfl) (Nat.le_refl _) ?_
  intro X hX _ hC
  unfold f_St_trace at h
  refine V_sub (us := [some (ob g t), some (ob g a1), some (.int x2), some (ob g a3), none, none, none, none]) ⟨rfl, rfl, rfl, rfl, trivial⟩ ?_
  refine V_aload_n hC rfl dX7_trace_0 ?_
  refine V_iconst (v := 0) hC (by decide) dX7_trace_1 ?_
  refine pfN_6_2 hC ha3 tw_237 dX7_trace_2 ?_
  obtain ⟨M1, eM1⟩ : ∃ z, z = up M a3 2 0 := ⟨_, rfl⟩
  replace h := h M1 eM1
  refine V_mem eM1 ?_
  refine V_aload_n hC rfl dX7_trace_5 ?_
  refine V_iload_n hC rfl dX7_trace_6 ?_
  refine pf_7_10 hC ht tw_203 dX7_trace_7 ?_
  obtain ⟨M2, eM2⟩ : ∃ z, z = up M1 t 10 x2 := ⟨_, rfl⟩
  replace h := h M2 eM2
  refine V_mem eM2 ?_
  refine V_iconst (v := 0) hC (by decide) dX7_trace_10 ?_
  refine V_istore hC (by decide) dX7_trace_11 ?_
  refine V_sub (us := [some (ob g t), some (ob g a1), none, some (ob g a3), some (.int 0), none, none, none]) ⟨rfl, rfl, rfl, rfl, trivial⟩ ?_
  exact l_St_trace_13 hX hC fu t a1 a3 0 M2 ht ha1 ha3 h
def f_SR_traceBest (fu : Nat) (post : Int32 → Mm → Prop) (t : Nat) (x1 : Int32) (M : Mm) : Prop :=
  ((x1 < 0) → post (-1) M) ∧ (¬ (x1 < 0) → ((x1 ≤ 7) → f_St_solve fu (fun M1 => f_St_waysFrom fu (fun r3 M2 => ((x1 < r3) → f_Cu_toStart fu (fun M4 => f_St_trace fu (fun M5 => post 0 M5) (t + 105) (t + 144) x1 (t + 141) M4) (t + 144) M2) ∧ (¬ (x1 < r3) → post (-2) M2)) (t + 105) 0 1 M1) (t + 105) (t + 1) 0 M) ∧ (¬ (x1 ≤ 7) → post (-1) M))
set_option maxRecDepth 100000 in
theorem c_SR_traceBest (l : Launch) (g : GX) (w : WX) (fu : Nat) (post : Int32 → Mm → Prop) (t : Nat) (x1 : Int32) (M : Mm) (ht : ok w t 10) (h : f_SR_traceBest fu post t x1 M) : Met l yX10_traceBest [Cond.code yX10_traceBest cX10_traceBest 2 (some .int)] (rmC 6 0 0) (va_Pc [ob g t, .int x1] (Wb g w M)) (va_Qi post (Wb g w) (Af g)) 0 0 (Af g) := by
  refine Ct_i (by decide) rfl (fun v hv => by simp only [List.mem_cons, List.not_mem_nil, or_false] at hv; rcases hv with rfl | rfl <;> rfl) (Nat.le_of_ble_eq_true rfl) (Nat.le_refl _) ?_
  intro X hX _ hC
  unfold f_SR_traceBest at h
  refine V_sub (us := [some (ob g t), some (.int x1)]) ⟨rfl, rfl, trivial⟩ ?_
  refine V_iload_n hC rfl dX10_traceBest_0 ?_
  refine V_if_lt (tgt := 10) hC dX10_traceBest_1 (by decide) (fun b8 => ?_) (fun b8 => ?_)
  · replace h := h.1 b8
    refine V_iconst (v := (-1)) hC (by decide) dX10_traceBest_10 ?_
    exact V_iret hC h dX10_traceBest_11
  · replace h := h.2 b8
    refine V_iload_n hC rfl dX10_traceBest_4 ?_
    refine V_bipush (v := 7) hC (by decide) dX10_traceBest_5 ?_
    refine V_icmp_le (tgt := 12) hC dX10_traceBest_7 (by decide) (fun b7 => ?_) (fun b7 => ?_)
    · replace h := h.1 b7
      refine V_aload_n hC rfl dX10_traceBest_12 ?_
      refine gf_10_3 hC ht tw_271 dX10_traceBest_13 ?_
      refine V_aload_n hC rfl dX10_traceBest_16 ?_
      refine gf_10_0 hC ht tw_268 dX10_traceBest_17 ?_
      refine V_iconst (v := 0) hC (by decide) dX10_traceBest_20 ?_
      refine V_callv (As := [ob g (t + 1), .int 0]) hC (c_St_solve X.2.1 g w fu _ (t + 105) (t + 1) 0 M (ok_10_3 ht) (ok_10_0 ht) h) mw_X7_solve (by decide) tw_627 (ok_10_3 ht) (by decide) rfl rfl rfl (Nat.le_of_ble_eq_true rfl) ⟨Nat.zero_le _, Nat.zero_le _⟩ dX10_traceBest_21 (fun M1 h => ?_)
      refine V_iload_n hC rfl dX10_traceBest_24 ?_
      refine V_aload_n hC rfl dX10_traceBest_25 ?_
      refine gf_10_3 hC ht tw_271 dX10_traceBest_26 ?_
      refine V_iconst (v := 0) hC (by decide) dX10_traceBest_29 ?_
      refine V_iconst (v := 1) hC (by decide) dX10_traceBest_30 ?_
      refine V_calli (As := [.int 0, .int 1]) hC (c_St_waysFrom X.2.1 g w fu _ (t + 105) 0 1 M1 (ok_10_3 ht) h) mw_X7_waysFrom (by decide) tw_695 (ok_10_3 ht) (by decide) rfl rfl rfl (Nat.le_of_ble_eq_true rfl) ⟨Nat.zero_le _, Nat.zero_le _⟩ dX10_traceBest_31 (fun r3 M2 h => ?_)
      refine V_icmp_lt (tgt := 40) hC dX10_traceBest_34 (by decide) (fun b6 => ?_) (fun b6 => ?_)
      · replace h := h.1 b6
        refine V_aload_n hC rfl dX10_traceBest_40 ?_
        refine gf_10_6 hC ht tw_274 dX10_traceBest_41 ?_
        refine V_callv (As := []) hC (c_Cu_toStart X.2.1 g w fu _ (t + 144) M2 (ok_10_6 ht) h) mw_X2_toStart (by decide) tw_580 (ok_10_6 ht) (by decide) rfl rfl rfl (Nat.le_of_ble_eq_true rfl) ⟨Nat.zero_le _, Nat.zero_le _⟩ dX10_traceBest_44 (fun M4 h => ?_)
        refine V_aload_n hC rfl dX10_traceBest_47 ?_
        refine gf_10_3 hC ht tw_271 dX10_traceBest_48 ?_
        refine V_aload_n hC rfl dX10_traceBest_51 ?_
        refine gf_10_6 hC ht tw_274 dX10_traceBest_52 ?_
        refine V_iload_n hC rfl dX10_traceBest_55 ?_
        refine V_aload_n hC rfl dX10_traceBest_56 ?_
        refine gf_10_5 hC ht tw_273 dX10_traceBest_57 ?_
        refine V_callv (As := [ob g (t + 144), .int x1, ob g (t + 141)]) hC (c_St_trace X.2.1 g w fu _ (t + 105) (t + 144) x1 (t + 141) M4 (ok_10_3 ht) (ok_10_6 ht) (ok_10_5 ht) h) mw_X7_trace (by decide) tw_715 (ok_10_3 ht) (by decide) rfl rfl rfl (Nat.le_of_ble_eq_true rfl) ⟨Nat.zero_le _, Nat.zero_le _⟩ dX10_traceBest_60 (fun M5 h => ?_)
        refine V_iconst (v := 0) hC (by decide) dX10_traceBest_63 ?_
        exact V_iret hC h dX10_traceBest_64
      · replace h := h.2 b6
        refine V_bipush (v := (-2)) hC (by decide) dX10_traceBest_37 ?_
        exact V_iret hC h dX10_traceBest_39
    · replace h := h.2 b7
      refine V_iconst (v := (-1)) hC (by decide) dX10_traceBest_10 ?_
      exact V_iret hC h dX10_traceBest_11
def f_SR_repairLength (fu : Nat) (post : Int32 → Mm → Prop) (t : Nat) (x1 : Int32) (M : Mm) : Prop :=
  f_SR_traceBest fu (fun r2 M1 => ((0 ≤ r2) → post (M1 (t + 141) 2) M1) ∧ (¬ (0 ≤ r2) → post r2 M1)) t x1 M
set_option maxRecDepth 100000 in
theorem c_SR_repairLength (l : Launch) (g : GX) (w : WX) (fu : Nat) (post : Int32 → Mm → Prop) (t : Nat) (x1 : Int32) (M : Mm) (ht : ok w t 10) (h : f_SR_repairLength fu post t x1 M) : Met l yX10_repairLength [Cond.code yX10_repairLength cX10_repairLength 3 (some .int)] (rmC 7 0 0) (va_Pc [ob g t, .int x1] (Wb g w M)) (va_Qi post (Wb g w) (Af g)) 0 0 (Af g) := by
  refine Ct_i (by decide) rfl (fun v hv => by simp only [List.mem_cons, List.not_mem_nil, or_false] at hv; rcases hv with rfl | rfl <;> rfl) (Nat.le_of_ble_eq_true rfl) (Nat.le_refl _) ?_
  intro X hX _ hC
  unfold f_SR_repairLength at h
  refine V_sub (us := [some (ob g t), some (.int x1), none]) ⟨rfl, rfl, trivial⟩ ?_
  refine V_aload_n hC rfl dX10_repairLength_0 ?_
  refine V_iload_n hC rfl dX10_repairLength_1 ?_
  refine V_calli (As := [.int x1]) hC (c_SR_traceBest X.2.1 g w fu _ t x1 M ht h) mw_X10_traceBest (by decide) tw_711 ht (by decide) rfl rfl rfl (Nat.le_of_ble_eq_true rfl) ⟨Nat.zero_le _, Nat.zero_le _⟩ dX10_repairLength_2 (fun r2 M1 h => ?_)
  refine V_istore_n hC (by decide) dX10_repairLength_5 ?_
  refine V_iload_n hC rfl dX10_repairLength_6 ?_
  refine V_if_ge (tgt := 14) hC dX10_repairLength_7 (by decide) (fun b3 => ?_) (fun b3 => ?_)
  · replace h := h.1 b3
    refine V_aload_n hC rfl dX10_repairLength_14 ?_
    refine gf_10_5 hC ht tw_273 dX10_repairLength_15 ?_
    refine gfN_6_2 hC (ok_10_5 ht) tw_238 dX10_repairLength_18 ?_
    exact V_iret hC h dX10_repairLength_21
  · replace h := h.2 b3
    refine V_iload_n hC rfl dX10_repairLength_10 ?_
    refine V_goto (tgt := 21) hC (by decide) dX10_repairLength_11 ?_
    exact V_iret hC h dX10_repairLength_21
def f_Sc_operationAt (fu : Nat) (post : Int32 → Mm → Prop) (t : Nat) (x1 : Int32) (M : Mm) : Prop :=
  (((M t 2) ≤ x1) → post (-9) M) ∧ (¬ ((M t 2) ≤ x1) → f_SR_at fu (fun r2 M1 => post r2 M1) (t + 1) x1 M)
set_option maxRecDepth 100000 in
theorem c_Sc_operationAt (l : Launch) (g : GX) (w : WX) (fu : Nat) (post : Int32 → Mm → Prop) (t : Nat) (x1 : Int32) (M : Mm) (ht : ok w t 6) (h : f_Sc_operationAt fu post t x1 M) : Met l yX6_operationAt [Cond.code yX6_operationAt cX6_operationAt 2 (some .int)] (rmC 1 0 0) (va_Pc [ob g t, .int x1] (Wb g w M)) (va_Qi post (Wb g w) (Af g)) 0 0 (Af g) := by
  refine Ct_i (by decide) rfl (fun v hv => by simp only [List.mem_cons, List.not_mem_nil, or_false] at hv; rcases hv with rfl | rfl <;> rfl) (Nat.le_of_ble_eq_true rfl) (Nat.le_refl _) ?_
  intro X hX _ hC
  unfold f_Sc_operationAt at h
  refine V_sub (us := [some (ob g t), some (.int x1)]) ⟨rfl, rfl, trivial⟩ ?_
  refine V_iload_n hC rfl dX6_operationAt_0 ?_
  refine V_aload_n hC rfl dX6_operationAt_1 ?_
  refine gf_6_2 hC ht tw_235 dX6_operationAt_2 ?_
  refine V_icmp_ge (tgt := 19) hC dX6_operationAt_5 (by decide) (fun b3 => ?_) (fun b3 => ?_)
  · replace h := h.1 b3
    refine V_bipush (v := (-9)) hC (by decide) dX6_operationAt_19 ?_
    exact V_iret hC h dX6_operationAt_21
  · replace h := h.2 b3
    refine V_aload_n hC rfl dX6_operationAt_8 ?_
    refine gf_6_0 hC ht tw_233 dX6_operationAt_9 ?_
    refine V_iload_n hC rfl dX6_operationAt_12 ?_
    refine V_scalliN (As := [ob g (t + 1), .int x1]) hC (c_SR_at X.2.1 g w fu _ (t + 1) x1 M (ok_6_0 ht) h) mw_X10_at (by decide) tw_756 rfl rfl (Nat.le_of_ble_eq_true rfl) ⟨Nat.zero_le _, Nat.zero_le _⟩ dX6_operationAt_13 (fun r2 M1 h => ?_)
    refine V_goto (tgt := 21) hC (by decide) dX6_operationAt_16 ?_
    exact V_iret hC h dX6_operationAt_21
def f_SR_repairOperation_13 (fu : Nat) (post : Int32 → Mm → Prop) (t : Nat) (x2 : Int32) (kx0 : Int32) (M : Mm) : Prop :=
  ((0 ≤ kx0) → f_Sc_operationAt fu (fun r2 M1 => post r2 M1) (t + 141) x2 M) ∧ (¬ (0 ≤ kx0) → post kx0 M)
def f_SR_repairOperation (fu : Nat) (post : Int32 → Mm → Prop) (t : Nat) (x1 : Int32) (x2 : Int32) (M : Mm) : Prop :=
  ((0 ≤ x2) → f_SR_traceBest fu (fun r2 M1 => f_SR_repairOperation_13 fu post t x2 r2 M1) t x1 M) ∧ (¬ (0 ≤ x2) → f_SR_repairOperation_13 fu post t x2 (-1) M)
set_option maxRecDepth 100000 in
theorem j_SR_repairOperation_13 {l : Launch} {X : CX} {g : GX} {w : WX} {fu : Nat} {post : Int32 → Mm → Prop} (hX : X.2.1 = l) (hC : Cx X g cX10_repairOperation 4 RX10 (some .int) 7) (t : Nat) (x2 : Int32) (kx0 : Int32) {M : Mm} (ht : ok w t 10) (h : f_SR_repairOperation_13 fu post t x2 kx0 M) : V X g w 4 0 0 (QI X g w post 0 0) 13 [some (ob g t), none, some (.int x2), none] [.int kx0] M := by
  unfold f_SR_repairOperation_13 at h
  refine V_istore_n hC (by decide) dX10_repairOperation_13 ?_
  refine V_iload_n hC rfl dX10_repairOperation_14 ?_
  refine V_if_ge (tgt := 22) hC dX10_repairOperation_15 (by decide) (fun b3 => ?_) (fun b3 => ?_)
  · replace h := h.1 b3
    refine V_aload_n hC rfl dX10_repairOperation_22 ?_
    refine gf_10_5 hC ht tw_273 dX10_repairOperation_23 ?_
    refine V_iload_n hC rfl dX10_repairOperation_26 ?_
    refine V_calli (As := [.int x2]) hC (c_Sc_operationAt X.2.1 g w fu _ (t + 141) x2 M (ok_10_5 ht) h) mw_X6_operationAt (by decide) tw_752 (ok_10_5 ht) (by decide) rfl rfl rfl (Nat.le_of_ble_eq_true rfl) ⟨Nat.zero_le _, Nat.zero_le _⟩ dX10_repairOperation_27 (fun r2 M1 h => ?_)
    exact V_iret hC h dX10_repairOperation_30
  · replace h := h.2 b3
    refine V_iload_n hC rfl dX10_repairOperation_18 ?_
    refine V_goto (tgt := 30) hC (by decide) dX10_repairOperation_19 ?_
    exact V_iret hC h dX10_repairOperation_30
set_option maxRecDepth 100000 in
theorem c_SR_repairOperation (l : Launch) (g : GX) (w : WX) (fu : Nat) (post : Int32 → Mm → Prop) (t : Nat) (x1 : Int32) (x2 : Int32) (M : Mm) (ht : ok w t 10) (h : f_SR_repairOperation fu post t x1 x2 M) : Met l yX10_repairOperation [Cond.code yX10_repairOperation cX10_repairOperation 4 (some .int)] (rmC 7 0 0) (va_Pc [ob g t, .int x1, .int x2] (Wb g w M)) (va_Qi post (Wb g w) (Af g)) 0 0 (Af g) := by
  refine Ct_i (by decide) rfl (fun v hv => by simp only [List.mem_cons, List.not_mem_nil, or_false] at hv; rcases hv with rfl | rfl | rfl <;> rfl) (Nat.le_of_ble_eq_true rfl) (Nat.le_refl _) ?_
  intro X hX _ hC
  unfold f_SR_repairOperation at h
  refine V_sub (us := [some (ob g t), some (.int x1), some (.int x2), none]) ⟨rfl, rfl, rfl, trivial⟩ ?_
  refine V_iload_n hC rfl dX10_repairOperation_0 ?_
  refine V_if_ge (tgt := 8) hC dX10_repairOperation_1 (by decide) (fun b3 => ?_) (fun b3 => ?_)
  · replace h := h.1 b3
    refine V_aload_n hC rfl dX10_repairOperation_8 ?_
    refine V_iload_n hC rfl dX10_repairOperation_9 ?_
    refine V_calli (As := [.int x1]) hC (c_SR_traceBest X.2.1 g w fu _ t x1 M ht h) mw_X10_traceBest (by decide) tw_711 ht (by decide) rfl rfl rfl (Nat.le_of_ble_eq_true rfl) ⟨Nat.zero_le _, Nat.zero_le _⟩ dX10_repairOperation_10 (fun r2 M1 h => ?_)
    refine V_sub (us := [some (ob g t), none, some (.int x2), none]) ⟨rfl, rfl, trivial⟩ ?_
    exact j_SR_repairOperation_13 hX hC t x2 r2 ht h
  · replace h := h.2 b3
    refine V_iconst (v := (-1)) hC (by decide) dX10_repairOperation_4 ?_
    refine V_goto (tgt := 13) hC (by decide) dX10_repairOperation_5 ?_
    refine V_sub (us := [some (ob g t), none, some (.int x2), none]) ⟨rfl, rfl, trivial⟩ ?_
    exact j_SR_repairOperation_13 hX hC t x2 (-1) ht h
def f_Sc_kindAt (fu : Nat) (post : Int32 → Mm → Prop) (t : Nat) (x1 : Int32) (M : Mm) : Prop :=
  (((M t 2) ≤ x1) → post (-9) M) ∧ (¬ ((M t 2) ≤ x1) → f_SR_at fu (fun r2 M1 => post r2 M1) (t + 2) x1 M)
set_option maxRecDepth 100000 in
theorem c_Sc_kindAt (l : Launch) (g : GX) (w : WX) (fu : Nat) (post : Int32 → Mm → Prop) (t : Nat) (x1 : Int32) (M : Mm) (ht : ok w t 6) (h : f_Sc_kindAt fu post t x1 M) : Met l yX6_kindAt [Cond.code yX6_kindAt cX6_kindAt 2 (some .int)] (rmC 1 0 0) (va_Pc [ob g t, .int x1] (Wb g w M)) (va_Qi post (Wb g w) (Af g)) 0 0 (Af g) := by
  refine Ct_i (by decide) rfl (fun v hv => by simp only [List.mem_cons, List.not_mem_nil, or_false] at hv; rcases hv with rfl | rfl <;> rfl) (Nat.le_of_ble_eq_true rfl) (Nat.le_refl _) ?_
  intro X hX _ hC
  unfold f_Sc_kindAt at h
  refine V_sub (us := [some (ob g t), some (.int x1)]) ⟨rfl, rfl, trivial⟩ ?_
  refine V_iload_n hC rfl dX6_kindAt_0 ?_
  refine V_aload_n hC rfl dX6_kindAt_1 ?_
  refine gf_6_2 hC ht tw_235 dX6_kindAt_2 ?_
  refine V_icmp_ge (tgt := 19) hC dX6_kindAt_5 (by decide) (fun b3 => ?_) (fun b3 => ?_)
  · replace h := h.1 b3
    refine V_bipush (v := (-9)) hC (by decide) dX6_kindAt_19 ?_
    exact V_iret hC h dX6_kindAt_21
  · replace h := h.2 b3
    refine V_aload_n hC rfl dX6_kindAt_8 ?_
    refine gf_6_1 hC ht tw_234 dX6_kindAt_9 ?_
    refine V_iload_n hC rfl dX6_kindAt_12 ?_
    refine V_scalliN (As := [ob g (t + 2), .int x1]) hC (c_SR_at X.2.1 g w fu _ (t + 2) x1 M (ok_6_1 ht) h) mw_X10_at (by decide) tw_756 rfl rfl (Nat.le_of_ble_eq_true rfl) ⟨Nat.zero_le _, Nat.zero_le _⟩ dX6_kindAt_13 (fun r2 M1 h => ?_)
    refine V_goto (tgt := 21) hC (by decide) dX6_kindAt_16 ?_
    exact V_iret hC h dX6_kindAt_21
def f_SR_repairKind_13 (fu : Nat) (post : Int32 → Mm → Prop) (t : Nat) (x2 : Int32) (kx0 : Int32) (M : Mm) : Prop :=
  ((0 ≤ kx0) → f_Sc_kindAt fu (fun r2 M1 => post r2 M1) (t + 141) x2 M) ∧ (¬ (0 ≤ kx0) → post kx0 M)
def f_SR_repairKind (fu : Nat) (post : Int32 → Mm → Prop) (t : Nat) (x1 : Int32) (x2 : Int32) (M : Mm) : Prop :=
  ((0 ≤ x2) → f_SR_traceBest fu (fun r2 M1 => f_SR_repairKind_13 fu post t x2 r2 M1) t x1 M) ∧ (¬ (0 ≤ x2) → f_SR_repairKind_13 fu post t x2 (-1) M)
set_option maxRecDepth 100000 in
theorem j_SR_repairKind_13 {l : Launch} {X : CX} {g : GX} {w : WX} {fu : Nat} {post : Int32 → Mm → Prop} (hX : X.2.1 = l) (hC : Cx X g cX10_repairKind 4 RX10 (some .int) 7) (t : Nat) (x2 : Int32) (kx0 : Int32) {M : Mm} (ht : ok w t 10) (h : f_SR_repairKind_13 fu post t x2 kx0 M) : V X g w 4 0 0 (QI X g w post 0 0) 13 [some (ob g t), none, some (.int x2), none] [.int kx0] M := by
  unfold f_SR_repairKind_13 at h
  refine V_istore_n hC (by decide) dX10_repairKind_13 ?_
  refine V_iload_n hC rfl dX10_repairKind_14 ?_
  refine V_if_ge (tgt := 22) hC dX10_repairKind_15 (by decide) (fun b3 => ?_) (fun b3 => ?_)
  · replace h := h.1 b3
    refine V_aload_n hC rfl dX10_repairKind_22 ?_
    refine gf_10_5 hC ht tw_273 dX10_repairKind_23 ?_
    refine V_iload_n hC rfl dX10_repairKind_26 ?_
    refine V_calli (As := [.int x2]) hC (c_Sc_kindAt X.2.1 g w fu _ (t + 141) x2 M (ok_10_5 ht) h) mw_X6_kindAt (by decide) tw_761 (ok_10_5 ht) (by decide) rfl rfl rfl (Nat.le_of_ble_eq_true rfl) ⟨Nat.zero_le _, Nat.zero_le _⟩ dX10_repairKind_27 (fun r2 M1 h => ?_)
    exact V_iret hC h dX10_repairKind_30
  · replace h := h.2 b3
    refine V_iload_n hC rfl dX10_repairKind_18 ?_
    refine V_goto (tgt := 30) hC (by decide) dX10_repairKind_19 ?_
    exact V_iret hC h dX10_repairKind_30
set_option maxRecDepth 100000 in
theorem c_SR_repairKind (l : Launch) (g : GX) (w : WX) (fu : Nat) (post : Int32 → Mm → Prop) (t : Nat) (x1 : Int32) (x2 : Int32) (M : Mm) (ht : ok w t 10) (h : f_SR_repairKind fu post t x1 x2 M) : Met l yX10_repairKind [Cond.code yX10_repairKind cX10_repairKind 4 (some .int)] (rmC 7 0 0) (va_Pc [ob g t, .int x1, .int x2] (Wb g w M)) (va_Qi post (Wb g w) (Af g)) 0 0 (Af g) := by
  refine Ct_i (by decide) rfl (fun v hv => by simp only [List.mem_cons, List.not_mem_nil, or_false] at hv; rcases hv with rfl | rfl | rfl <;> rfl) (Nat.le_of_ble_eq_true rfl) (Nat.le_refl _) ?_
  intro X hX _ hC
  unfold f_SR_repairKind at h
  refine V_sub (us := [some (ob g t), some (.int x1), some (.int x2), none]) ⟨rfl, rfl, rfl, trivial⟩ ?_
  refine V_iload_n hC rfl dX10_repairKind_0 ?_
  refine V_if_ge (tgt := 8) hC dX10_repairKind_1 (by decide) (fun b3 => ?_) (fun b3 => ?_)
  · replace h := h.1 b3
    refine V_aload_n hC rfl dX10_repairKind_8 ?_
    refine V_iload_n hC rfl dX10_repairKind_9 ?_
    refine V_calli (As := [.int x1]) hC (c_SR_traceBest X.2.1 g w fu _ t x1 M ht h) mw_X10_traceBest (by decide) tw_711 ht (by decide) rfl rfl rfl (Nat.le_of_ble_eq_true rfl) ⟨Nat.zero_le _, Nat.zero_le _⟩ dX10_repairKind_10 (fun r2 M1 h => ?_)
    refine V_sub (us := [some (ob g t), none, some (.int x2), none]) ⟨rfl, rfl, trivial⟩ ?_
    exact j_SR_repairKind_13 hX hC t x2 r2 ht h
  · replace h := h.2 b3
    refine V_iconst (v := (-1)) hC (by decide) dX10_repairKind_4 ?_
    refine V_goto (tgt := 13) hC (by decide) dX10_repairKind_5 ?_
    refine V_sub (us := [some (ob g t), none, some (.int x2), none]) ⟨rfl, rfl, trivial⟩ ?_
    exact j_SR_repairKind_13 hX hC t x2 (-1) ht h
def f_Sc_countConsumed_4 (fu : Nat) (post : Int32 → Mm → Prop) : Nat → Nat → Int32 → Int32 → Mm → Prop
  | 0, _, _, _, _ => False
  | kf + 1, t, x1, x2, M =>
    (((M t 2) ≤ x2) → post x1 M) ∧ (¬ ((M t 2) ≤ x2) → f_Sc_operationAt fu (fun r2 M1 => ((r2 = 2) → ∀ y3, y3 = x2 + 1 → f_Sc_countConsumed_4 fu post kf t x1 y3 M1) ∧ (¬ (r2 = 2) → ∀ y4, y4 = x1 + 1 → ∀ y5, y5 = x2 + 1 → f_Sc_countConsumed_4 fu post kf t y4 y5 M1)) t x2 M)
def f_Sc_countConsumed (fu : Nat) (post : Int32 → Mm → Prop) (t : Nat) (M : Mm) : Prop :=
  f_Sc_countConsumed_4 fu post fu t 0 0 M
set_option maxRecDepth 100000 in
theorem l_Sc_countConsumed_4 {l : Launch} {X : CX} {g : GX} {w : WX} {fu : Nat} {post : Int32 → Mm → Prop} (hX : X.2.1 = l) (hC : Cx X g cX6_countConsumed 3 RX6 (some .int) 2) : ∀ (kf : Nat) (t : Nat) (x1 : Int32) (x2 : Int32) (M : Mm) (ht : ok w t 6) (h : f_Sc_countConsumed_4 fu post kf t x1 x2 M), V X g w 3 0 0 (QI X g w post 0 0) 4 [some (ob g t), some (.int x1), some (.int x2)] [] M := by
  intro kf
  induction kf with
  | zero => intro t x1 x2 M ht h; exact absurd h id
  | succ kf ih =>
    intro t x1 x2 M ht h
    rw [f_Sc_countConsumed_4] at h
    refine V_iload_n hC rfl dX6_countConsumed_4 ?_
    refine V_aload_n hC rfl dX6_countConsumed_5 ?_
    refine gf_6_2 hC ht tw_235 dX6_countConsumed_6 ?_
    refine V_icmp_ge (tgt := 30) hC dX6_countConsumed_9 (by decide) (fun b7 => ?_) (fun b7 => ?_)
    · replace h := h.1 b7
      refine V_iload_n hC rfl dX6_countConsumed_30 ?_
      exact V_iret hC h dX6_countConsumed_31
    · replace h := h.2 b7
      refine V_aload_n hC rfl dX6_countConsumed_12 ?_
      refine V_iload_n hC rfl dX6_countConsumed_13 ?_
      refine V_calli (As := [.int x2]) hC (c_Sc_operationAt X.2.1 g w fu _ t x2 M ht h) mw_X6_operationAt (by decide) tw_773 ht (by decide) rfl rfl rfl (Nat.le_of_ble_eq_true rfl) ⟨Nat.zero_le _, Nat.zero_le _⟩ dX6_countConsumed_14 (fun r2 M1 h => ?_)
      refine V_iconst (v := 2) hC (by decide) dX6_countConsumed_17 ?_
      refine V_icmp_eq (tgt := 24) hC dX6_countConsumed_18 (by decide) (fun b6 => ?_) (fun b6 => ?_)
      · replace h := h.1 b6
        obtain ⟨y3, ey3⟩ : ∃ z, z = x2 + 1 := ⟨_, rfl⟩
        replace h := h y3 ey3
        refine V_iinc (v := y3) hC rfl (by rw [ey3]; rfl) (by decide) dX6_countConsumed_24 ?_
        refine V_goto (tgt := 4) hC (by decide) dX6_countConsumed_27 ?_
        refine V_sub (us := [some (ob g t), some (.int x1), some (.int y3)]) ⟨rfl, rfl, rfl, trivial⟩ ?_
        exact ih t x1 y3 M1 ht h
      · replace h := h.2 b6
        obtain ⟨y4, ey4⟩ : ∃ z, z = x1 + 1 := ⟨_, rfl⟩
        replace h := h y4 ey4
        refine V_iinc (v := y4) hC rfl (by rw [ey4]; rfl) (by decide) dX6_countConsumed_21 ?_
        obtain ⟨y5, ey5⟩ : ∃ z, z = x2 + 1 := ⟨_, rfl⟩
        replace h := h y5 ey5
        refine V_iinc (v := y5) hC rfl (by rw [ey5]; rfl) (by decide) dX6_countConsumed_24 ?_
        refine V_goto (tgt := 4) hC (by decide) dX6_countConsumed_27 ?_
        refine V_sub (us := [some (ob g t), some (.int y4), some (.int y5)]) ⟨rfl, rfl, rfl, trivial⟩ ?_
        exact ih t y4 y5 M1 ht h
set_option maxRecDepth 100000 in
theorem c_Sc_countConsumed (l : Launch) (g : GX) (w : WX) (fu : Nat) (post : Int32 → Mm → Prop) (t : Nat) (M : Mm) (ht : ok w t 6) (h : f_Sc_countConsumed fu post t M) : Met l yX6_countConsumed [Cond.code yX6_countConsumed cX6_countConsumed 3 (some .int)] (rmC 2 0 0) (va_Pc [ob g t] (Wb g w M)) (va_Qi post (Wb g w) (Af g)) 0 0 (Af g) := by
  refine Ct_i (by decide) rfl (fun v hv => by simp only [List.mem_cons, List.not_mem_nil, or_false] at hv; rcases hv with rfl <;> rfl) (Nat.le_of_ble_eq_true rfl) (Nat.le_refl _) ?_
  intro X hX _ hC
  unfold f_Sc_countConsumed at h
  refine V_sub (us := [some (ob g t), none, none]) ⟨rfl, trivial⟩ ?_
  refine V_iconst (v := 0) hC (by decide) dX6_countConsumed_0 ?_
  refine V_istore_n hC (by decide) dX6_countConsumed_1 ?_
  refine V_iconst (v := 0) hC (by decide) dX6_countConsumed_2 ?_
  refine V_istore_n hC (by decide) dX6_countConsumed_3 ?_
  refine V_sub (us := [some (ob g t), some (.int 0), some (.int 0)]) ⟨rfl, rfl, rfl, trivial⟩ ?_
  exact l_Sc_countConsumed_4 hX hC fu t 0 0 M ht h
def f_To_takeConsumed_7 (fu : Nat) (post : Mm → Prop) : Nat → Nat → Nat → Int32 → Mm → Prop
  | 0, _, _, _, _ => False
  | kf + 1, t, a1, x2, M =>
    (((M a1 2) ≤ x2) → post M) ∧ (¬ ((M a1 2) ≤ x2) → f_Sc_operationAt fu (fun r2 M1 => ((r2 = 2) → ∀ y3, y3 = x2 + 1 → f_To_takeConsumed_7 fu post kf t a1 y3 M1) ∧ (¬ (r2 = 2) → f_Sc_kindAt fu (fun r5 M4 => f_To_add fu (fun M6 => ∀ y7, y7 = x2 + 1 → f_To_takeConsumed_7 fu post kf t a1 y7 M6) t (M1 t 1) r5 M4) a1 x2 M1)) a1 x2 M)
def f_To_takeConsumed (fu : Nat) (post : Mm → Prop) (t : Nat) (a1 : Nat) (M : Mm) : Prop :=
  ∀ M1, M1 = up M t 1 0 → f_To_takeConsumed_7 fu post fu t a1 0 M1
set_option maxRecDepth 100000 in
theorem l_To_takeConsumed_7 {l : Launch} {X : CX} {g : GX} {w : WX} {fu : Nat} {post : Mm → Prop} (hX : X.2.1 = l) (hC : Cx X g cX9_takeConsumed 3 RX9 (none) 2) : ∀ (kf : Nat) (t : Nat) (a1 : Nat) (x2 : Int32) (M : Mm) (ht : ok w t 9) (ha1 : ok w a1 6) (h : f_To_takeConsumed_7 fu post kf t a1 x2 M), V X g w 3 0 0 (QV X g w post 0 0) 7 [some (ob g t), some (ob g a1), some (.int x2)] [] M := by
  intro kf
  induction kf with
  | zero => intro t a1 x2 M ht ha1 h; exact absurd h id
  | succ kf ih =>
    intro t a1 x2 M ht ha1 h
    rw [f_To_takeConsumed_7] at h
    refine V_iload_n hC rfl dX9_takeConsumed_7 ?_
    refine V_aload_n hC rfl dX9_takeConsumed_8 ?_
    refine gfN_6_2 hC ha1 tw_236 dX9_takeConsumed_9 ?_
    refine V_icmp_ge (tgt := 43) hC dX9_takeConsumed_12 (by decide) (fun b9 => ?_) (fun b9 => ?_)
    · replace h := h.1 b9
      exact V_vret hC h dX9_takeConsumed_43
    · replace h := h.2 b9
      refine V_aload_n hC rfl dX9_takeConsumed_15 ?_
      refine V_iload_n hC rfl dX9_takeConsumed_16 ?_
      refine V_calli (As := [.int x2]) hC (c_Sc_operationAt X.2.1 g w fu _ a1 x2 M ha1 h) mw_X6_operationAt (by decide) tw_778 ha1 (by decide) rfl rfl rfl (Nat.le_of_ble_eq_true rfl) ⟨Nat.zero_le _, Nat.zero_le _⟩ dX9_takeConsumed_17 (fun r2 M1 h => ?_)
      refine V_iconst (v := 2) hC (by decide) dX9_takeConsumed_20 ?_
      refine V_icmp_eq (tgt := 37) hC dX9_takeConsumed_21 (by decide) (fun b8 => ?_) (fun b8 => ?_)
      · replace h := h.1 b8
        obtain ⟨y3, ey3⟩ : ∃ z, z = x2 + 1 := ⟨_, rfl⟩
        replace h := h y3 ey3
        refine V_iinc (v := y3) hC rfl (by rw [ey3]; rfl) (by decide) dX9_takeConsumed_37 ?_
        refine V_goto (tgt := 7) hC (by decide) dX9_takeConsumed_40 ?_
        refine V_sub (us := [some (ob g t), some (ob g a1), some (.int y3)]) ⟨rfl, rfl, rfl, trivial⟩ ?_
        exact ih t a1 y3 M1 ht ha1 h
      · replace h := h.2 b8
        refine V_aload_n hC rfl dX9_takeConsumed_24 ?_
        refine V_aload_n hC rfl dX9_takeConsumed_25 ?_
        refine gf_9_1 hC ht tw_88 dX9_takeConsumed_26 ?_
        refine V_aload_n hC rfl dX9_takeConsumed_29 ?_
        refine V_iload_n hC rfl dX9_takeConsumed_30 ?_
        refine V_calli (As := [.int x2]) hC (c_Sc_kindAt X.2.1 g w fu _ a1 x2 M1 ha1 h) mw_X6_kindAt (by decide) tw_779 ha1 (by decide) rfl rfl rfl (Nat.le_of_ble_eq_true rfl) ⟨Nat.zero_le _, Nat.zero_le _⟩ dX9_takeConsumed_31 (fun r5 M4 h => ?_)
        refine V_callv (As := [.int (M1 t 1), .int r5]) hC (c_To_add X.2.1 g w fu _ t (M1 t 1) r5 M4 ht h) mw_X9_add (by decide) tw_780 ht (by decide) rfl rfl rfl (Nat.le_of_ble_eq_true rfl) ⟨Nat.zero_le _, Nat.zero_le _⟩ dX9_takeConsumed_34 (fun M6 h => ?_)
        obtain ⟨y7, ey7⟩ : ∃ z, z = x2 + 1 := ⟨_, rfl⟩
        replace h := h y7 ey7
        refine V_iinc (v := y7) hC rfl (by rw [ey7]; rfl) (by decide) dX9_takeConsumed_37 ?_
        refine V_goto (tgt := 7) hC (by decide) dX9_takeConsumed_40 ?_
        refine V_sub (us := [some (ob g t), some (ob g a1), some (.int y7)]) ⟨rfl, rfl, rfl, trivial⟩ ?_
        exact ih t a1 y7 M6 ht ha1 h
set_option maxRecDepth 100000 in
theorem c_To_takeConsumed (l : Launch) (g : GX) (w : WX) (fu : Nat) (post : Mm → Prop) (t : Nat) (a1 : Nat) (M : Mm) (ht : ok w t 9) (ha1 : ok w a1 6) (h : f_To_takeConsumed fu post t a1 M) : Met l yX9_takeConsumed [Cond.code yX9_takeConsumed cX9_takeConsumed 3 (none)] (rmC 2 0 0) (va_Pc [ob g t, ob g a1] (Wb g w M)) (va_Qv post (Wb g w) (Af g)) 0 0 (Af g) := by
  refine Ct_v (by decide) rfl (fun v hv => by simp only [List.mem_cons, List.not_mem_nil, or_false] at hv; rcases hv with rfl | rfl <;> rfl) (Nat.le_of_ble_eq_true rfl) (Nat.le_refl _) ?_
  intro X hX _ hC
  unfold f_To_takeConsumed at h
  refine V_sub (us := [some (ob g t), some (ob g a1), none]) ⟨rfl, rfl, trivial⟩ ?_
  refine V_aload_n hC rfl dX9_takeConsumed_0 ?_
  refine V_iconst (v := 0) hC (by decide) dX9_takeConsumed_1 ?_
  refine pf_9_1 hC ht tw_88 dX9_takeConsumed_2 ?_
  obtain ⟨M1, eM1⟩ : ∃ z, z = up M t 1 0 := ⟨_, rfl⟩
  replace h := h M1 eM1
  refine V_mem eM1 ?_
  refine V_iconst (v := 0) hC (by decide) dX9_takeConsumed_5 ?_
  refine V_istore_n hC (by decide) dX9_takeConsumed_6 ?_
  refine V_sub (us := [some (ob g t), some (ob g a1), some (.int 0)]) ⟨rfl, rfl, rfl, trivial⟩ ?_
  exact l_To_takeConsumed_7 hX hC fu t a1 0 M1 ht ha1 h
def f_SR_applyRepair (fu : Nat) (post : Int32 → Mm → Prop) (t : Nat) (x1 : Int32) (M : Mm) : Prop :=
  f_SR_traceBest fu (fun r2 M1 => ((0 ≤ r2) → f_Sc_countConsumed fu (fun r4 M3 => ((r4 ≤ 12) → f_SR_beginEdit fu (fun M5 => f_To_takeConsumed fu (fun M6 => post (M6 (t + 9) 1) M6) (t + 9) (t + 141) M5) t M3) ∧ (¬ (r4 ≤ 12) → post (-3) M3)) (t + 141) M1) ∧ (¬ (0 ≤ r2) → post r2 M1)) t x1 M
set_option maxRecDepth 100000 in
theorem c_SR_applyRepair (l : Launch) (g : GX) (w : WX) (fu : Nat) (post : Int32 → Mm → Prop) (t : Nat) (x1 : Int32) (M : Mm) (ht : ok w t 10) (h : f_SR_applyRepair fu post t x1 M) : Met l yX10_applyRepair [Cond.code yX10_applyRepair cX10_applyRepair 3 (some .int)] (rmC 7 0 0) (va_Pc [ob g t, .int x1] (Wb g w M)) (va_Qi post (Wb g w) (Af g)) 0 0 (Af g) := by
  refine Ct_i (by decide) rfl (fun v hv => by simp only [List.mem_cons, List.not_mem_nil, or_false] at hv; rcases hv with rfl | rfl <;> rfl) (Nat.le_of_ble_eq_true rfl) (Nat.le_refl _) ?_
  intro X hX _ hC
  unfold f_SR_applyRepair at h
  refine V_sub (us := [some (ob g t), some (.int x1), none]) ⟨rfl, rfl, trivial⟩ ?_
  refine V_aload_n hC rfl dX10_applyRepair_0 ?_
  refine V_iload_n hC rfl dX10_applyRepair_1 ?_
  refine V_calli (As := [.int x1]) hC (c_SR_traceBest X.2.1 g w fu _ t x1 M ht h) mw_X10_traceBest (by decide) tw_711 ht (by decide) rfl rfl rfl (Nat.le_of_ble_eq_true rfl) ⟨Nat.zero_le _, Nat.zero_le _⟩ dX10_applyRepair_2 (fun r2 M1 h => ?_)
  refine V_istore_n hC (by decide) dX10_applyRepair_5 ?_
  refine V_iload_n hC rfl dX10_applyRepair_6 ?_
  refine V_if_ge (tgt := 12) hC dX10_applyRepair_7 (by decide) (fun b8 => ?_) (fun b8 => ?_)
  · replace h := h.1 b8
    refine V_aload_n hC rfl dX10_applyRepair_12 ?_
    refine gf_10_5 hC ht tw_273 dX10_applyRepair_13 ?_
    refine V_calli (As := []) hC (c_Sc_countConsumed X.2.1 g w fu _ (t + 141) M1 (ok_10_5 ht) h) mw_X6_countConsumed (by decide) tw_769 (ok_10_5 ht) (by decide) rfl rfl rfl (Nat.le_of_ble_eq_true rfl) ⟨Nat.zero_le _, Nat.zero_le _⟩ dX10_applyRepair_16 (fun r4 M3 h => ?_)
    refine V_bipush (v := 12) hC (by decide) dX10_applyRepair_19 ?_
    refine V_icmp_le (tgt := 27) hC dX10_applyRepair_21 (by decide) (fun b7 => ?_) (fun b7 => ?_)
    · replace h := h.1 b7
      refine V_aload_n hC rfl dX10_applyRepair_27 ?_
      refine V_callv (As := []) hC (c_SR_beginEdit X.2.1 g w fu _ t M3 ht h) mw_X10_beginEdit (by decide) tw_432 ht (by decide) rfl rfl rfl (Nat.le_of_ble_eq_true rfl) ⟨Nat.zero_le _, Nat.zero_le _⟩ dX10_applyRepair_28 (fun M5 h => ?_)
      refine V_aload_n hC rfl dX10_applyRepair_31 ?_
      refine gf_10_0 hC ht tw_268 dX10_applyRepair_32 ?_
      refine gfN_8_2 hC (ok_10_0 ht) tw_109 dX10_applyRepair_35 ?_
      refine V_aload_n hC rfl dX10_applyRepair_38 ?_
      refine gf_10_5 hC ht tw_273 dX10_applyRepair_39 ?_
      refine V_callv (As := [ob g (t + 141)]) hC (c_To_takeConsumed X.2.1 g w fu _ (t + 9) (t + 141) M5 (ok_8_2 (ok_10_0 ht)) (ok_10_5 ht) h) mw_X9_takeConsumed (by decide) tw_774 (ok_8_2 (ok_10_0 ht)) (by decide) rfl rfl rfl (Nat.le_of_ble_eq_true rfl) ⟨Nat.zero_le _, Nat.zero_le _⟩ dX10_applyRepair_42 (fun M6 h => ?_)
      refine V_aload_n hC rfl dX10_applyRepair_45 ?_
      refine gf_10_0 hC ht tw_268 dX10_applyRepair_46 ?_
      refine gfN_8_2 hC (ok_10_0 ht) tw_109 dX10_applyRepair_49 ?_
      refine gfN_9_1 hC (ok_8_2 (ok_10_0 ht)) tw_91 dX10_applyRepair_52 ?_
      exact V_iret hC h dX10_applyRepair_55
    · replace h := h.2 b7
      refine V_bipush (v := (-3)) hC (by decide) dX10_applyRepair_24 ?_
      exact V_iret hC h dX10_applyRepair_26
  · replace h := h.2 b8
    refine V_iload_n hC rfl dX10_applyRepair_10 ?_
    exact V_iret hC h dX10_applyRepair_11
def f_SR_isLookAhead (fu : Nat) (post : Int32 → Mm → Prop) (x0 : Int32) (M : Mm) : Prop :=
  ((x0 < 1) → post 0 M) ∧ (¬ (x0 < 1) → ((5 < x0) → post 0 M) ∧ (¬ (5 < x0) → post 1 M))
set_option maxRecDepth 100000 in
theorem c_SR_isLookAhead (l : Launch) (g : GX) (w : WX) (fu : Nat) (post : Int32 → Mm → Prop) (x0 : Int32) (M : Mm) (h : f_SR_isLookAhead fu post x0 M) : Met l yX10_isLookAhead [Cond.code yX10_isLookAhead cX10_isLookAhead 1 (some .boolean)] (rmC 0 0 0) (va_Pc [.int x0] (Wb g w M)) (va_Qi (fun r M => zb r ∧ post r M) (Wb g w) (Af g)) 0 0 (Af g) := by
  refine Ct_i (by decide) rfl (fun v hv => by simp only [List.mem_cons, List.not_mem_nil, or_false] at hv; rcases hv with rfl <;> rfl) (Nat.le_of_ble_eq_true rfl) (Nat.le_refl _) ?_
  intro X hX _ hC
  unfold f_SR_isLookAhead at h
  refine V_sub (us := [some (.int x0)]) ⟨rfl, trivial⟩ ?_
  refine V_iload_n hC rfl dX10_isLookAhead_0 ?_
  refine V_iconst (v := 1) hC (by decide) dX10_isLookAhead_1 ?_
  refine V_icmp_lt (tgt := 14) hC dX10_isLookAhead_2 (by decide) (fun b2 => ?_) (fun b2 => ?_)
  · replace h := h.1 b2
    refine V_iconst (v := 0) hC (by decide) dX10_isLookAhead_14 ?_
    exact V_zret hC (Or.inl rfl) h dX10_isLookAhead_15
  · replace h := h.2 b2
    refine V_iload_n hC rfl dX10_isLookAhead_5 ?_
    refine V_iconst (v := 5) hC (by decide) dX10_isLookAhead_6 ?_
    refine V_icmp_gt (tgt := 14) hC dX10_isLookAhead_7 (by decide) (fun b1 => ?_) (fun b1 => ?_)
    · replace h := h.1 b1
      refine V_iconst (v := 0) hC (by decide) dX10_isLookAhead_14 ?_
      exact V_zret hC (Or.inl rfl) h dX10_isLookAhead_15
    · replace h := h.2 b1
      refine V_iconst (v := 1) hC (by decide) dX10_isLookAhead_10 ?_
      refine V_goto (tgt := 15) hC (by decide) dX10_isLookAhead_11 ?_
      exact V_zret hC (Or.inr rfl) h dX10_isLookAhead_15
def f_SR_solveLocal (fu : Nat) (post : Int32 → Mm → Prop) (t : Nat) (x1 : Int32) (M : Mm) : Prop :=
  f_SR_isLookAhead fu (fun r2 M1 => ((r2 = 0) → post (-1) M1) ∧ (¬ (r2 = 0) → f_SR_findError fu (fun r4 M3 => ((r4 = 0) → post (-2) M3) ∧ (¬ (r4 = 0) → f_St_solve fu (fun M5 => f_St_leastFrom fu (fun r7 M6 => ((r7 < 1000000) → post 0 M6) ∧ (¬ (r7 < 1000000) → post (-9) M6)) (t + 123) (M5 (t + 144) 0) (M5 (t + 144) 1) M5) (t + 123) (t + 1) x1 M3)) t M1)) x1 M
set_option maxRecDepth 100000 in
theorem c_SR_solveLocal (l : Launch) (g : GX) (w : WX) (fu : Nat) (post : Int32 → Mm → Prop) (t : Nat) (x1 : Int32) (M : Mm) (ht : ok w t 10) (h : f_SR_solveLocal fu post t x1 M) : Met l yX10_solveLocal [Cond.code yX10_solveLocal cX10_solveLocal 2 (some .int)] (rmC 6 0 0) (va_Pc [ob g t, .int x1] (Wb g w M)) (va_Qi post (Wb g w) (Af g)) 0 0 (Af g) := by
  refine Ct_i (by decide) rfl (fun v hv => by simp only [List.mem_cons, List.not_mem_nil, or_false] at hv; rcases hv with rfl | rfl <;> rfl) (Nat.le_of_ble_eq_true rfl) (Nat.le_refl _) ?_
  intro X hX _ hC
  unfold f_SR_solveLocal at h
  refine V_sub (us := [some (ob g t), some (.int x1)]) ⟨rfl, rfl, trivial⟩ ?_
  refine V_iload_n hC rfl dX10_solveLocal_0 ?_
  refine V_scalli (As := [.int x1]) hC (c_SR_isLookAhead X.2.1 g w fu _ x1 M h) mw_X10_isLookAhead (by decide) tw_789 rfl rfl (Nat.le_of_ble_eq_true rfl) ⟨Nat.zero_le _, Nat.zero_le _⟩ dX10_solveLocal_1 (fun r2 M1 h => ?_)
  obtain ⟨hzr2, h⟩ := h
  refine V_if_ne (tgt := 9) hC dX10_solveLocal_4 (by decide) (fun b10 => ?_) (fun b10 => ?_)
  · replace h := h.2 b10
    refine V_aload_n hC rfl dX10_solveLocal_9 ?_
    refine V_calli (As := []) hC (c_SR_findError X.2.1 g w fu _ t M1 ht h) mw_X10_findError (by decide) tw_576 ht (by decide) rfl rfl rfl (Nat.le_of_ble_eq_true rfl) ⟨Nat.zero_le _, Nat.zero_le _⟩ dX10_solveLocal_10 (fun r4 M3 h => ?_)
    obtain ⟨hzr4, h⟩ := h
    refine V_if_ne (tgt := 19) hC dX10_solveLocal_13 (by decide) (fun b9 => ?_) (fun b9 => ?_)
    · replace h := h.2 b9
      refine V_aload_n hC rfl dX10_solveLocal_19 ?_
      refine gf_10_4 hC ht tw_272 dX10_solveLocal_20 ?_
      refine V_aload_n hC rfl dX10_solveLocal_23 ?_
      refine gf_10_0 hC ht tw_268 dX10_solveLocal_24 ?_
      refine V_iload_n hC rfl dX10_solveLocal_27 ?_
      refine V_callv (As := [ob g (t + 1), .int x1]) hC (c_St_solve X.2.1 g w fu _ (t + 123) (t + 1) x1 M3 (ok_10_4 ht) (ok_10_0 ht) h) mw_X7_solve (by decide) tw_627 (ok_10_4 ht) (by decide) rfl rfl rfl (Nat.le_of_ble_eq_true rfl) ⟨Nat.zero_le _, Nat.zero_le _⟩ dX10_solveLocal_28 (fun M5 h => ?_)
      refine V_aload_n hC rfl dX10_solveLocal_31 ?_
      refine gf_10_4 hC ht tw_272 dX10_solveLocal_32 ?_
      refine V_aload_n hC rfl dX10_solveLocal_35 ?_
      refine gf_10_6 hC ht tw_274 dX10_solveLocal_36 ?_
      refine gfN_2_0 hC (ok_10_6 ht) tw_254 dX10_solveLocal_39 ?_
      refine V_aload_n hC rfl dX10_solveLocal_42 ?_
      refine gf_10_6 hC ht tw_274 dX10_solveLocal_43 ?_
      refine gfN_2_1 hC (ok_10_6 ht) tw_257 dX10_solveLocal_46 ?_
      refine V_calli (As := [.int (M5 (t + 144) 0), .int (M5 (t + 144) 1)]) hC (c_St_leastFrom X.2.1 g w fu _ (t + 123) (M5 (t + 144) 0) (M5 (t + 144) 1) M5 (ok_10_4 ht) h) mw_X7_leastFrom (by decide) tw_683 (ok_10_4 ht) (by decide) rfl rfl rfl (Nat.le_of_ble_eq_true rfl) ⟨Nat.zero_le _, Nat.zero_le _⟩ dX10_solveLocal_49 (fun r7 M6 h => ?_)
      refine V_ldc hC tw_690 dX10_solveLocal_52 ?_
      refine V_icmp_lt (tgt := 62) hC dX10_solveLocal_54 (by decide) (fun b8 => ?_) (fun b8 => ?_)
      · replace h := h.1 b8
        refine V_iconst (v := 0) hC (by decide) dX10_solveLocal_62 ?_
        exact V_iret hC h dX10_solveLocal_63
      · replace h := h.2 b8
        refine V_bipush (v := (-9)) hC (by decide) dX10_solveLocal_57 ?_
        refine V_goto (tgt := 63) hC (by decide) dX10_solveLocal_59 ?_
        exact V_iret hC h dX10_solveLocal_63
    · replace h := h.1 b9
      refine V_bipush (v := (-2)) hC (by decide) dX10_solveLocal_16 ?_
      exact V_iret hC h dX10_solveLocal_18
  · replace h := h.1 b10
    refine V_iconst (v := (-1)) hC (by decide) dX10_solveLocal_7 ?_
    exact V_iret hC h dX10_solveLocal_8
def f_SR_localCost (fu : Nat) (post : Int32 → Mm → Prop) (t : Nat) (x1 : Int32) (M : Mm) : Prop :=
  f_SR_solveLocal fu (fun r2 M1 => ((0 ≤ r2) → f_St_leastFrom fu (fun r4 M3 => post r4 M3) (t + 123) (M1 (t + 144) 0) (M1 (t + 144) 1) M1) ∧ (¬ (0 ≤ r2) → post r2 M1)) t x1 M
set_option maxRecDepth 100000 in
theorem c_SR_localCost (l : Launch) (g : GX) (w : WX) (fu : Nat) (post : Int32 → Mm → Prop) (t : Nat) (x1 : Int32) (M : Mm) (ht : ok w t 10) (h : f_SR_localCost fu post t x1 M) : Met l yX10_localCost [Cond.code yX10_localCost cX10_localCost 3 (some .int)] (rmC 7 0 0) (va_Pc [ob g t, .int x1] (Wb g w M)) (va_Qi post (Wb g w) (Af g)) 0 0 (Af g) := by
  refine Ct_i (by decide) rfl (fun v hv => by simp only [List.mem_cons, List.not_mem_nil, or_false] at hv; rcases hv with rfl | rfl <;> rfl) (Nat.le_of_ble_eq_true rfl) (Nat.le_refl _) ?_
  intro X hX _ hC
  unfold f_SR_localCost at h
  refine V_sub (us := [some (ob g t), some (.int x1), none]) ⟨rfl, rfl, trivial⟩ ?_
  refine V_aload_n hC rfl dX10_localCost_0 ?_
  refine V_iload_n hC rfl dX10_localCost_1 ?_
  refine V_calli (As := [.int x1]) hC (c_SR_solveLocal X.2.1 g w fu _ t x1 M ht h) mw_X10_solveLocal (by decide) tw_785 ht (by decide) rfl rfl rfl (Nat.le_of_ble_eq_true rfl) ⟨Nat.zero_le _, Nat.zero_le _⟩ dX10_localCost_2 (fun r2 M1 h => ?_)
  refine V_istore_n hC (by decide) dX10_localCost_5 ?_
  refine V_iload_n hC rfl dX10_localCost_6 ?_
  refine V_if_ge (tgt := 14) hC dX10_localCost_7 (by decide) (fun b5 => ?_) (fun b5 => ?_)
  · replace h := h.1 b5
    refine V_aload_n hC rfl dX10_localCost_14 ?_
    refine gf_10_4 hC ht tw_272 dX10_localCost_15 ?_
    refine V_aload_n hC rfl dX10_localCost_18 ?_
    refine gf_10_6 hC ht tw_274 dX10_localCost_19 ?_
    refine gfN_2_0 hC (ok_10_6 ht) tw_254 dX10_localCost_22 ?_
    refine V_aload_n hC rfl dX10_localCost_25 ?_
    refine gf_10_6 hC ht tw_274 dX10_localCost_26 ?_
    refine gfN_2_1 hC (ok_10_6 ht) tw_257 dX10_localCost_29 ?_
    refine V_calli (As := [.int (M1 (t + 144) 0), .int (M1 (t + 144) 1)]) hC (c_St_leastFrom X.2.1 g w fu _ (t + 123) (M1 (t + 144) 0) (M1 (t + 144) 1) M1 (ok_10_4 ht) h) mw_X7_leastFrom (by decide) tw_683 (ok_10_4 ht) (by decide) rfl rfl rfl (Nat.le_of_ble_eq_true rfl) ⟨Nat.zero_le _, Nat.zero_le _⟩ dX10_localCost_32 (fun r4 M3 h => ?_)
    exact V_iret hC h dX10_localCost_35
  · replace h := h.2 b5
    refine V_iload_n hC rfl dX10_localCost_10 ?_
    refine V_goto (tgt := 35) hC (by decide) dX10_localCost_11 ?_
    exact V_iret hC h dX10_localCost_35
def f_SR_localOperation_13 (fu : Nat) (post : Int32 → Mm → Prop) (t : Nat) (x2 : Int32) (kx0 : Int32) (M : Mm) : Prop :=
  ((0 ≤ kx0) → f_St_trace fu (fun M1 => f_Sc_operationAt fu (fun r3 M2 => post r3 M2) (t + 141) x2 M1) (t + 123) (t + 144) 0 (t + 141) M) ∧ (¬ (0 ≤ kx0) → post kx0 M)
def f_SR_localOperation (fu : Nat) (post : Int32 → Mm → Prop) (t : Nat) (x1 : Int32) (x2 : Int32) (M : Mm) : Prop :=
  ((0 ≤ x2) → f_SR_solveLocal fu (fun r2 M1 => f_SR_localOperation_13 fu post t x2 r2 M1) t x1 M) ∧ (¬ (0 ≤ x2) → f_SR_localOperation_13 fu post t x2 (-1) M)
set_option maxRecDepth 100000 in
theorem j_SR_localOperation_13 {l : Launch} {X : CX} {g : GX} {w : WX} {fu : Nat} {post : Int32 → Mm → Prop} (hX : X.2.1 = l) (hC : Cx X g cX10_localOperation 4 RX10 (some .int) 7) (t : Nat) (x2 : Int32) (kx0 : Int32) {M : Mm} (ht : ok w t 10) (h : f_SR_localOperation_13 fu post t x2 kx0 M) : V X g w 4 0 0 (QI X g w post 0 0) 13 [some (ob g t), none, some (.int x2), none] [.int kx0] M := by
  unfold f_SR_localOperation_13 at h
  refine V_istore_n hC (by decide) dX10_localOperation_13 ?_
  refine V_iload_n hC rfl dX10_localOperation_14 ?_
  refine V_if_ge (tgt := 20) hC dX10_localOperation_15 (by decide) (fun b4 => ?_) (fun b4 => ?_)
  · replace h := h.1 b4
    refine V_aload_n hC rfl dX10_localOperation_20 ?_
    refine gf_10_4 hC ht tw_272 dX10_localOperation_21 ?_
    refine V_aload_n hC rfl dX10_localOperation_24 ?_
    refine gf_10_6 hC ht tw_274 dX10_localOperation_25 ?_
    refine V_iconst (v := 0) hC (by decide) dX10_localOperation_28 ?_
    refine V_aload_n hC rfl dX10_localOperation_29 ?_
    refine gf_10_5 hC ht tw_273 dX10_localOperation_30 ?_
    refine V_callv (As := [ob g (t + 144), .int 0, ob g (t + 141)]) hC (c_St_trace X.2.1 g w fu _ (t + 123) (t + 144) 0 (t + 141) M (ok_10_4 ht) (ok_10_6 ht) (ok_10_5 ht) h) mw_X7_trace (by decide) tw_715 (ok_10_4 ht) (by decide) rfl rfl rfl (Nat.le_of_ble_eq_true rfl) ⟨Nat.zero_le _, Nat.zero_le _⟩ dX10_localOperation_33 (fun M1 h => ?_)
    refine V_aload_n hC rfl dX10_localOperation_36 ?_
    refine gf_10_5 hC ht tw_273 dX10_localOperation_37 ?_
    refine V_iload_n hC rfl dX10_localOperation_40 ?_
    refine V_calli (As := [.int x2]) hC (c_Sc_operationAt X.2.1 g w fu _ (t + 141) x2 M1 (ok_10_5 ht) h) mw_X6_operationAt (by decide) tw_752 (ok_10_5 ht) (by decide) rfl rfl rfl (Nat.le_of_ble_eq_true rfl) ⟨Nat.zero_le _, Nat.zero_le _⟩ dX10_localOperation_41 (fun r3 M2 h => ?_)
    exact V_iret hC h dX10_localOperation_44
  · replace h := h.2 b4
    refine V_iload_n hC rfl dX10_localOperation_18 ?_
    exact V_iret hC h dX10_localOperation_19
set_option maxRecDepth 100000 in
theorem c_SR_localOperation (l : Launch) (g : GX) (w : WX) (fu : Nat) (post : Int32 → Mm → Prop) (t : Nat) (x1 : Int32) (x2 : Int32) (M : Mm) (ht : ok w t 10) (h : f_SR_localOperation fu post t x1 x2 M) : Met l yX10_localOperation [Cond.code yX10_localOperation cX10_localOperation 4 (some .int)] (rmC 7 0 0) (va_Pc [ob g t, .int x1, .int x2] (Wb g w M)) (va_Qi post (Wb g w) (Af g)) 0 0 (Af g) := by
  refine Ct_i (by decide) rfl (fun v hv => by simp only [List.mem_cons, List.not_mem_nil, or_false] at hv; rcases hv with rfl | rfl | rfl <;> rfl) (Nat.le_of_ble_eq_true rfl) (Nat.le_refl _) ?_
  intro X hX _ hC
  unfold f_SR_localOperation at h
  refine V_sub (us := [some (ob g t), some (.int x1), some (.int x2), none]) ⟨rfl, rfl, rfl, trivial⟩ ?_
  refine V_iload_n hC rfl dX10_localOperation_0 ?_
  refine V_if_ge (tgt := 8) hC dX10_localOperation_1 (by decide) (fun b3 => ?_) (fun b3 => ?_)
  · replace h := h.1 b3
    refine V_aload_n hC rfl dX10_localOperation_8 ?_
    refine V_iload_n hC rfl dX10_localOperation_9 ?_
    refine V_calli (As := [.int x1]) hC (c_SR_solveLocal X.2.1 g w fu _ t x1 M ht h) mw_X10_solveLocal (by decide) tw_785 ht (by decide) rfl rfl rfl (Nat.le_of_ble_eq_true rfl) ⟨Nat.zero_le _, Nat.zero_le _⟩ dX10_localOperation_10 (fun r2 M1 h => ?_)
    refine V_sub (us := [some (ob g t), none, some (.int x2), none]) ⟨rfl, rfl, trivial⟩ ?_
    exact j_SR_localOperation_13 hX hC t x2 r2 ht h
  · replace h := h.2 b3
    refine V_iconst (v := (-1)) hC (by decide) dX10_localOperation_4 ?_
    refine V_goto (tgt := 13) hC (by decide) dX10_localOperation_5 ?_
    refine V_sub (us := [some (ob g t), none, some (.int x2), none]) ⟨rfl, rfl, trivial⟩ ?_
    exact j_SR_localOperation_13 hX hC t x2 (-1) ht h
def f_SR_localKind_13 (fu : Nat) (post : Int32 → Mm → Prop) (t : Nat) (x2 : Int32) (kx0 : Int32) (M : Mm) : Prop :=
  ((0 ≤ kx0) → f_St_trace fu (fun M1 => f_Sc_kindAt fu (fun r3 M2 => post r3 M2) (t + 141) x2 M1) (t + 123) (t + 144) 0 (t + 141) M) ∧ (¬ (0 ≤ kx0) → post kx0 M)
def f_SR_localKind (fu : Nat) (post : Int32 → Mm → Prop) (t : Nat) (x1 : Int32) (x2 : Int32) (M : Mm) : Prop :=
  ((0 ≤ x2) → f_SR_solveLocal fu (fun r2 M1 => f_SR_localKind_13 fu post t x2 r2 M1) t x1 M) ∧ (¬ (0 ≤ x2) → f_SR_localKind_13 fu post t x2 (-1) M)
set_option maxRecDepth 100000 in
theorem j_SR_localKind_13 {l : Launch} {X : CX} {g : GX} {w : WX} {fu : Nat} {post : Int32 → Mm → Prop} (hX : X.2.1 = l) (hC : Cx X g cX10_localKind 4 RX10 (some .int) 7) (t : Nat) (x2 : Int32) (kx0 : Int32) {M : Mm} (ht : ok w t 10) (h : f_SR_localKind_13 fu post t x2 kx0 M) : V X g w 4 0 0 (QI X g w post 0 0) 13 [some (ob g t), none, some (.int x2), none] [.int kx0] M := by
  unfold f_SR_localKind_13 at h
  refine V_istore_n hC (by decide) dX10_localKind_13 ?_
  refine V_iload_n hC rfl dX10_localKind_14 ?_
  refine V_if_ge (tgt := 20) hC dX10_localKind_15 (by decide) (fun b4 => ?_) (fun b4 => ?_)
  · replace h := h.1 b4
    refine V_aload_n hC rfl dX10_localKind_20 ?_
    refine gf_10_4 hC ht tw_272 dX10_localKind_21 ?_
    refine V_aload_n hC rfl dX10_localKind_24 ?_
    refine gf_10_6 hC ht tw_274 dX10_localKind_25 ?_
    refine V_iconst (v := 0) hC (by decide) dX10_localKind_28 ?_
    refine V_aload_n hC rfl dX10_localKind_29 ?_
    refine gf_10_5 hC ht tw_273 dX10_localKind_30 ?_
    refine V_callv (As := [ob g (t + 144), .int 0, ob g (t + 141)]) hC (c_St_trace X.2.1 g w fu _ (t + 123) (t + 144) 0 (t + 141) M (ok_10_4 ht) (ok_10_6 ht) (ok_10_5 ht) h) mw_X7_trace (by decide) tw_715 (ok_10_4 ht) (by decide) rfl rfl rfl (Nat.le_of_ble_eq_true rfl) ⟨Nat.zero_le _, Nat.zero_le _⟩ dX10_localKind_33 (fun M1 h => ?_)
    refine V_aload_n hC rfl dX10_localKind_36 ?_
    refine gf_10_5 hC ht tw_273 dX10_localKind_37 ?_
    refine V_iload_n hC rfl dX10_localKind_40 ?_
    refine V_calli (As := [.int x2]) hC (c_Sc_kindAt X.2.1 g w fu _ (t + 141) x2 M1 (ok_10_5 ht) h) mw_X6_kindAt (by decide) tw_761 (ok_10_5 ht) (by decide) rfl rfl rfl (Nat.le_of_ble_eq_true rfl) ⟨Nat.zero_le _, Nat.zero_le _⟩ dX10_localKind_41 (fun r3 M2 h => ?_)
    exact V_iret hC h dX10_localKind_44
  · replace h := h.2 b4
    refine V_iload_n hC rfl dX10_localKind_18 ?_
    exact V_iret hC h dX10_localKind_19
set_option maxRecDepth 100000 in
theorem c_SR_localKind (l : Launch) (g : GX) (w : WX) (fu : Nat) (post : Int32 → Mm → Prop) (t : Nat) (x1 : Int32) (x2 : Int32) (M : Mm) (ht : ok w t 10) (h : f_SR_localKind fu post t x1 x2 M) : Met l yX10_localKind [Cond.code yX10_localKind cX10_localKind 4 (some .int)] (rmC 7 0 0) (va_Pc [ob g t, .int x1, .int x2] (Wb g w M)) (va_Qi post (Wb g w) (Af g)) 0 0 (Af g) := by
  refine Ct_i (by decide) rfl (fun v hv => by simp only [List.mem_cons, List.not_mem_nil, or_false] at hv; rcases hv with rfl | rfl | rfl <;> rfl) (Nat.le_of_ble_eq_true rfl) (Nat.le_refl _) ?_
  intro X hX _ hC
  unfold f_SR_localKind at h
  refine V_sub (us := [some (ob g t), some (.int x1), some (.int x2), none]) ⟨rfl, rfl, rfl, trivial⟩ ?_
  refine V_iload_n hC rfl dX10_localKind_0 ?_
  refine V_if_ge (tgt := 8) hC dX10_localKind_1 (by decide) (fun b3 => ?_) (fun b3 => ?_)
  · replace h := h.1 b3
    refine V_aload_n hC rfl dX10_localKind_8 ?_
    refine V_iload_n hC rfl dX10_localKind_9 ?_
    refine V_calli (As := [.int x1]) hC (c_SR_solveLocal X.2.1 g w fu _ t x1 M ht h) mw_X10_solveLocal (by decide) tw_785 ht (by decide) rfl rfl rfl (Nat.le_of_ble_eq_true rfl) ⟨Nat.zero_le _, Nat.zero_le _⟩ dX10_localKind_10 (fun r2 M1 h => ?_)
    refine V_sub (us := [some (ob g t), none, some (.int x2), none]) ⟨rfl, rfl, trivial⟩ ?_
    exact j_SR_localKind_13 hX hC t x2 r2 ht h
  · replace h := h.2 b3
    refine V_iconst (v := (-1)) hC (by decide) dX10_localKind_4 ?_
    refine V_goto (tgt := 13) hC (by decide) dX10_localKind_5 ?_
    refine V_sub (us := [some (ob g t), none, some (.int x2), none]) ⟨rfl, rfl, trivial⟩ ?_
    exact j_SR_localKind_13 hX hC t x2 (-1) ht h
def f_SR_sweepCost_32 (fu : Nat) (post : Int32 → Mm → Prop) : Nat → Nat → Int32 → Int32 → Mm → Prop
  | 0, _, _, _, _ => False
  | kf + 1, t, x2, x3, M =>
    ((13 < x3) → post (-9) M) ∧ (¬ (13 < x3) → f_Cu_run fu (fun M1 => f_Cu_isDone fu (fun r3 M2 => ((r3 = 0) → f_St_leastFrom fu (fun r5 M4 => ((r5 < 1000000) → ∀ y6, y6 = (x2 + r5) → f_St_trace fu (fun M7 => ∀ y8, y8 = x3 + 1 → f_SR_sweepCost_32 fu post kf t y6 y8 M7) (t + 123) (t + 144) 0 (t + 141) M4) ∧ (¬ (r5 < 1000000) → post (-9) M4)) (t + 123) (M2 (t + 144) 0) (M2 (t + 144) 1) M2) ∧ (¬ (r3 = 0) → post x2 M2)) (t + 144) (t + 1) M1) (t + 144) (t + 1) 12 M)
def f_SR_sweepCost (fu : Nat) (post : Int32 → Mm → Prop) (t : Nat) (x1 : Int32) (M : Mm) : Prop :=
  f_SR_isLookAhead fu (fun r2 M1 => ((r2 = 0) → post (-1) M1) ∧ (¬ (r2 = 0) → f_St_solve fu (fun M3 => f_Cu_toStart fu (fun M4 => f_SR_sweepCost_32 fu post fu t 0 0 M4) (t + 144) M3) (t + 123) (t + 1) x1 M1)) x1 M
set_option maxRecDepth 100000 in
theorem l_SR_sweepCost_32 {l : Launch} {X : CX} {g : GX} {w : WX} {fu : Nat} {post : Int32 → Mm → Prop} (hX : X.2.1 = l) (hC : Cx X g cX10_sweepCost 5 RX10 (some .int) 6) : ∀ (kf : Nat) (t : Nat) (x2 : Int32) (x3 : Int32) (M : Mm) (ht : ok w t 10) (h : f_SR_sweepCost_32 fu post kf t x2 x3 M), V X g w 5 0 0 (QI X g w post 0 0) 32 [some (ob g t), none, some (.int x2), some (.int x3), none] [] M := by
  intro kf
  induction kf with
  | zero => intro t x2 x3 M ht h; exact absurd h id
  | succ kf ih =>
    intro t x2 x3 M ht h
    rw [f_SR_sweepCost_32] at h
    refine V_iload_n hC rfl dX10_sweepCost_32 ?_
    refine V_bipush (v := 13) hC (by decide) dX10_sweepCost_33 ?_
    refine V_icmp_gt (tgt := 127) hC dX10_sweepCost_35 (by decide) (fun b11 => ?_) (fun b11 => ?_)
    · replace h := h.1 b11
      refine V_bipush (v := (-9)) hC (by decide) dX10_sweepCost_127 ?_
      exact V_iret hC h dX10_sweepCost_129
    · replace h := h.2 b11
      refine V_aload_n hC rfl dX10_sweepCost_38 ?_
      refine gf_10_6 hC ht tw_274 dX10_sweepCost_39 ?_
      refine V_aload_n hC rfl dX10_sweepCost_42 ?_
      refine gf_10_0 hC ht tw_268 dX10_sweepCost_43 ?_
      refine V_bipush (v := 12) hC (by decide) dX10_sweepCost_46 ?_
      refine V_callv (As := [ob g (t + 1), .int 12]) hC (c_Cu_run X.2.1 g w fu _ (t + 144) (t + 1) 12 M (ok_10_6 ht) (ok_10_0 ht) h) mw_X2_run (by decide) tw_584 (ok_10_6 ht) (by decide) rfl rfl rfl (Nat.le_of_ble_eq_true rfl) ⟨Nat.zero_le _, Nat.zero_le _⟩ dX10_sweepCost_48 (fun M1 h => ?_)
      refine V_aload_n hC rfl dX10_sweepCost_51 ?_
      refine gf_10_6 hC ht tw_274 dX10_sweepCost_52 ?_
      refine V_aload_n hC rfl dX10_sweepCost_55 ?_
      refine gf_10_0 hC ht tw_268 dX10_sweepCost_56 ?_
      refine V_calli (As := [ob g (t + 1)]) hC (c_Cu_isDone X.2.1 g w fu _ (t + 144) (t + 1) M1 (ok_10_6 ht) (ok_10_0 ht) h) mw_X2_isDone (by decide) tw_595 (ok_10_6 ht) (by decide) rfl rfl rfl (Nat.le_of_ble_eq_true rfl) ⟨Nat.zero_le _, Nat.zero_le _⟩ dX10_sweepCost_59 (fun r3 M2 h => ?_)
      obtain ⟨hzr3, h⟩ := h
      refine V_if_eq (tgt := 67) hC dX10_sweepCost_62 (by decide) (fun b10 => ?_) (fun b10 => ?_)
      · replace h := h.1 b10
        refine V_aload_n hC rfl dX10_sweepCost_67 ?_
        refine gf_10_4 hC ht tw_272 dX10_sweepCost_68 ?_
        refine V_aload_n hC rfl dX10_sweepCost_71 ?_
        refine gf_10_6 hC ht tw_274 dX10_sweepCost_72 ?_
        refine gfN_2_0 hC (ok_10_6 ht) tw_254 dX10_sweepCost_75 ?_
        refine V_aload_n hC rfl dX10_sweepCost_78 ?_
        refine gf_10_6 hC ht tw_274 dX10_sweepCost_79 ?_
        refine gfN_2_1 hC (ok_10_6 ht) tw_257 dX10_sweepCost_82 ?_
        refine V_calli (As := [.int (M2 (t + 144) 0), .int (M2 (t + 144) 1)]) hC (c_St_leastFrom X.2.1 g w fu _ (t + 123) (M2 (t + 144) 0) (M2 (t + 144) 1) M2 (ok_10_4 ht) h) mw_X7_leastFrom (by decide) tw_683 (ok_10_4 ht) (by decide) rfl rfl rfl (Nat.le_of_ble_eq_true rfl) ⟨Nat.zero_le _, Nat.zero_le _⟩ dX10_sweepCost_85 (fun r5 M4 h => ?_)
        refine V_istore hC (by decide) dX10_sweepCost_88 ?_
        refine V_iload hC rfl dX10_sweepCost_90 ?_
        refine V_ldc hC tw_690 dX10_sweepCost_92 ?_
        refine V_icmp_lt (tgt := 100) hC dX10_sweepCost_94 (by decide) (fun b9 => ?_) (fun b9 => ?_)
        · replace h := h.1 b9
          refine V_iload_n hC rfl dX10_sweepCost_100 ?_
          refine V_iload hC rfl dX10_sweepCost_101 ?_
          refine V_iadd hC dX10_sweepCost_103 ?_
          refine V_topi (fun y6 ey6 => ?_)
          replace h := h y6 ey6
          refine V_istore_n hC (by decide) dX10_sweepCost_104 ?_
          refine V_aload_n hC rfl dX10_sweepCost_105 ?_
          refine gf_10_4 hC ht tw_272 dX10_sweepCost_106 ?_
          refine V_aload_n hC rfl dX10_sweepCost_109 ?_
          refine gf_10_6 hC ht tw_274 dX10_sweepCost_110 ?_
          refine V_iconst (v := 0) hC (by decide) dX10_sweepCost_113 ?_
          refine V_aload_n hC rfl dX10_sweepCost_114 ?_
          refine gf_10_5 hC ht tw_273 dX10_sweepCost_115 ?_
          refine V_callv (As := [ob g (t + 144), .int 0, ob g (t + 141)]) hC (c_St_trace X.2.1 g w fu _ (t + 123) (t + 144) 0 (t + 141) M4 (ok_10_4 ht) (ok_10_6 ht) (ok_10_5 ht) h) mw_X7_trace (by decide) tw_715 (ok_10_4 ht) (by decide) rfl rfl rfl (Nat.le_of_ble_eq_true rfl) ⟨Nat.zero_le _, Nat.zero_le _⟩ dX10_sweepCost_118 (fun M7 h => ?_)
          obtain ⟨y8, ey8⟩ : ∃ z, z = x3 + 1 := ⟨_, rfl⟩
          replace h := h y8 ey8
          refine V_iinc (v := y8) hC rfl (by rw [ey8]; rfl) (by decide) dX10_sweepCost_121 ?_
          refine V_goto (tgt := 32) hC (by decide) dX10_sweepCost_124 ?_
          refine V_sub (us := [some (ob g t), none, some (.int y6), some (.int y8), none]) ⟨rfl, rfl, rfl, trivial⟩ ?_
          exact ih t y6 y8 M7 ht h
        · replace h := h.2 b9
          refine V_bipush (v := (-9)) hC (by decide) dX10_sweepCost_97 ?_
          exact V_iret hC h dX10_sweepCost_99
      · replace h := h.2 b10
        refine V_iload_n hC rfl dX10_sweepCost_65 ?_
        exact V_iret hC h dX10_sweepCost_66
set_option maxRecDepth 100000 in
theorem c_SR_sweepCost (l : Launch) (g : GX) (w : WX) (fu : Nat) (post : Int32 → Mm → Prop) (t : Nat) (x1 : Int32) (M : Mm) (ht : ok w t 10) (h : f_SR_sweepCost fu post t x1 M) : Met l yX10_sweepCost [Cond.code yX10_sweepCost cX10_sweepCost 5 (some .int)] (rmC 6 0 0) (va_Pc [ob g t, .int x1] (Wb g w M)) (va_Qi post (Wb g w) (Af g)) 0 0 (Af g) := by
  refine Ct_i (by decide) rfl (fun v hv => by simp only [List.mem_cons, List.not_mem_nil, or_false] at hv; rcases hv with rfl | rfl <;> rfl) (Nat.le_of_ble_eq_true rfl) (Nat.le_refl _) ?_
  intro X hX _ hC
  unfold f_SR_sweepCost at h
  refine V_sub (us := [some (ob g t), some (.int x1), none, none, none]) ⟨rfl, rfl, trivial⟩ ?_
  refine V_iload_n hC rfl dX10_sweepCost_0 ?_
  refine V_scalli (As := [.int x1]) hC (c_SR_isLookAhead X.2.1 g w fu _ x1 M h) mw_X10_isLookAhead (by decide) tw_789 rfl rfl (Nat.le_of_ble_eq_true rfl) ⟨Nat.zero_le _, Nat.zero_le _⟩ dX10_sweepCost_1 (fun r2 M1 h => ?_)
  obtain ⟨hzr2, h⟩ := h
  refine V_if_ne (tgt := 9) hC dX10_sweepCost_4 (by decide) (fun b5 => ?_) (fun b5 => ?_)
  · replace h := h.2 b5
    refine V_aload_n hC rfl dX10_sweepCost_9 ?_
    refine gf_10_4 hC ht tw_272 dX10_sweepCost_10 ?_
    refine V_aload_n hC rfl dX10_sweepCost_13 ?_
    refine gf_10_0 hC ht tw_268 dX10_sweepCost_14 ?_
    refine V_iload_n hC rfl dX10_sweepCost_17 ?_
    refine V_callv (As := [ob g (t + 1), .int x1]) hC (c_St_solve X.2.1 g w fu _ (t + 123) (t + 1) x1 M1 (ok_10_4 ht) (ok_10_0 ht) h) mw_X7_solve (by decide) tw_627 (ok_10_4 ht) (by decide) rfl rfl rfl (Nat.le_of_ble_eq_true rfl) ⟨Nat.zero_le _, Nat.zero_le _⟩ dX10_sweepCost_18 (fun M3 h => ?_)
    refine V_aload_n hC rfl dX10_sweepCost_21 ?_
    refine gf_10_6 hC ht tw_274 dX10_sweepCost_22 ?_
    refine V_callv (As := []) hC (c_Cu_toStart X.2.1 g w fu _ (t + 144) M3 (ok_10_6 ht) h) mw_X2_toStart (by decide) tw_580 (ok_10_6 ht) (by decide) rfl rfl rfl (Nat.le_of_ble_eq_true rfl) ⟨Nat.zero_le _, Nat.zero_le _⟩ dX10_sweepCost_25 (fun M4 h => ?_)
    refine V_iconst (v := 0) hC (by decide) dX10_sweepCost_28 ?_
    refine V_istore_n hC (by decide) dX10_sweepCost_29 ?_
    refine V_iconst (v := 0) hC (by decide) dX10_sweepCost_30 ?_
    refine V_istore_n hC (by decide) dX10_sweepCost_31 ?_
    refine V_sub (us := [some (ob g t), none, some (.int 0), some (.int 0), none]) ⟨rfl, rfl, rfl, trivial⟩ ?_
    exact l_SR_sweepCost_32 hX hC fu t 0 0 M4 ht h
  · replace h := h.1 b5
    refine V_iconst (v := (-1)) hC (by decide) dX10_sweepCost_7 ?_
    exact V_iret hC h dX10_sweepCost_8
def f_SR_undoCount (fu : Nat) (post : Int32 → Mm → Prop) (t : Nat) (M : Mm) : Prop :=
  post (M (t + 11) 2) M
set_option maxRecDepth 100000 in
theorem c_SR_undoCount (l : Launch) (g : GX) (w : WX) (fu : Nat) (post : Int32 → Mm → Prop) (t : Nat) (M : Mm) (ht : ok w t 10) (h : f_SR_undoCount fu post t M) : Met l yX10_undoCount [Cond.code yX10_undoCount cX10_undoCount 1 (some .int)] (rmC 0 0 0) (va_Pc [ob g t] (Wb g w M)) (va_Qi post (Wb g w) (Af g)) 0 0 (Af g) := by
  refine Ct_i (by decide) rfl (fun v hv => by simp only [List.mem_cons, List.not_mem_nil, or_false] at hv; rcases hv with rfl <;> rfl) (Nat.le_of_ble_eq_true rfl) (Nat.le_refl _) ?_
  intro X hX _ hC
  unfold f_SR_undoCount at h
  refine V_sub (us := [some (ob g t)]) ⟨rfl, trivial⟩ ?_
  refine V_aload_n hC rfl dX10_undoCount_0 ?_
  refine gf_10_1 hC ht tw_269 dX10_undoCount_1 ?_
  refine gfN_4_2 hC (ok_10_1 ht) tw_130 dX10_undoCount_4 ?_
  exact V_iret hC h dX10_undoCount_7
def f_Md_in (fu : Nat) (post : Int32 → Mm → Prop) (x0 : Int32) (x1 : Int32) (x2 : Int32) (M : Mm) : Prop :=
  ((x0 < x1) → post 0 M) ∧ (¬ (x0 < x1) → ((x2 < x0) → post 0 M) ∧ (¬ (x2 < x0) → post 1 M))
set_option maxRecDepth 100000 in
theorem c_Md_in (l : Launch) (g : GX) (w : WX) (fu : Nat) (post : Int32 → Mm → Prop) (x0 : Int32) (x1 : Int32) (x2 : Int32) (M : Mm) (h : f_Md_in fu post x0 x1 x2 M) : Met l yX11_in [Cond.code yX11_in cX11_in 3 (some .boolean)] (rmC 0 0 0) (va_Pc [.int x0, .int x1, .int x2] (Wb g w M)) (va_Qi (fun r M => zb r ∧ post r M) (Wb g w) (Af g)) 0 0 (Af g) := by
  refine Ct_i (by decide) rfl (fun v hv => by simp only [List.mem_cons, List.not_mem_nil, or_false] at hv; rcases hv with rfl | rfl | rfl <;> rfl) (Nat.le_of_ble_eq_true rfl) (Nat.le_refl _) ?_
  intro X hX _ hC
  unfold f_Md_in at h
  refine V_sub (us := [some (.int x0), some (.int x1), some (.int x2)]) ⟨rfl, rfl, rfl, trivial⟩ ?_
  refine V_iload_n hC rfl dX11_in_0 ?_
  refine V_iload_n hC rfl dX11_in_1 ?_
  refine V_icmp_lt (tgt := 14) hC dX11_in_2 (by decide) (fun b2 => ?_) (fun b2 => ?_)
  · replace h := h.1 b2
    refine V_iconst (v := 0) hC (by decide) dX11_in_14 ?_
    exact V_zret hC (Or.inl rfl) h dX11_in_15
  · replace h := h.2 b2
    refine V_iload_n hC rfl dX11_in_5 ?_
    refine V_iload_n hC rfl dX11_in_6 ?_
    refine V_icmp_gt (tgt := 14) hC dX11_in_7 (by decide) (fun b1 => ?_) (fun b1 => ?_)
    · replace h := h.1 b1
      refine V_iconst (v := 0) hC (by decide) dX11_in_14 ?_
      exact V_zret hC (Or.inl rfl) h dX11_in_15
    · replace h := h.2 b1
      refine V_iconst (v := 1) hC (by decide) dX11_in_10 ?_
      refine V_goto (tgt := 15) hC (by decide) dX11_in_11 ?_
      exact V_zret hC (Or.inr rfl) h dX11_in_15
def f_Md_clearData_27 (fu : Nat) (post : Mm → Prop) (K2 : Nat → Int32 → Mm → Prop) (a0 : Nat) (x1 : Int32) (ka0 : Nat) (kx1 : Int32) (kx2 : Int32) (M : Mm) : Prop :=
  vp_in kx1 (ln ka0) ∧ (∀ M2, M2 = up M ka0 kx1.toNatClampNeg kx2 → ∀ y3, y3 = x1 + 1 → K2 a0 y3 M2)
def f_Md_clearData_26 (fu : Nat) (post : Mm → Prop) (K2 : Nat → Int32 → Mm → Prop) (a0 : Nat) (x1 : Int32) (ka0 : Nat) (kx1 : Int32) (M : Mm) : Prop :=
  f_Md_clearData_27 fu post K2 a0 x1 ka0 kx1 0 M
def f_Md_clearData_2 (fu : Nat) (post : Mm → Prop) : Nat → Nat → Int32 → Mm → Prop
  | 0, _, _, _ => False
  | kf + 1, a0, x1, M =>
    ((69 ≤ x1) → post M) ∧ (¬ (69 ≤ x1) → ((x1 < 38) → f_Md_clearData_26 fu post (f_Md_clearData_2 fu post kf) a0 x1 a0 x1 M) ∧ (¬ (x1 < 38) → ((56 ≤ x1) → f_Md_clearData_26 fu post (f_Md_clearData_2 fu post kf) a0 x1 a0 x1 M) ∧ (¬ (56 ≤ x1) → f_Md_clearData_27 fu post (f_Md_clearData_2 fu post kf) a0 x1 a0 x1 1 M)))
def f_Md_clearData (fu : Nat) (post : Mm → Prop) (a0 : Nat) (M : Mm) : Prop :=
  f_Md_clearData_2 fu post fu a0 0 M
set_option maxRecDepth 100000 in
theorem j_Md_clearData_27 {l : Launch} {X : CX} {g : GX} {w : WX} {fu : Nat} {post : Mm → Prop} (hX : X.2.1 = l) (hC : Cx X g cX11_clearData 2 RX11 (none) 0) {K2 : Nat → Int32 → Mm → Prop} (hK2 : ∀ (a0 : Nat) (x1 : Int32) (M : Mm), ok w a0 20 → K2 a0 x1 M → V X g w 2 0 0 (QV X g w post 0 0) 2 [some (ob g a0), some (.int x1)] [] M) (a0 : Nat) (x1 : Int32) (ka0 : Nat) (kx1 : Int32) (kx2 : Int32) {M : Mm} (ha0 : ok w a0 20) (hka0 : ok w ka0 20) (h : f_Md_clearData_27 fu post K2 a0 x1 ka0 kx1 kx2 M) : V X g w 2 0 0 (QV X g w post 0 0) 27 [some (ob g a0), some (.int x1)] [.int kx2, .int kx1, ob g ka0] M := by
  unfold f_Md_clearData_27 at h
  obtain ⟨q1, h⟩ := h
  refine V_iast hC hka0 q1 dX11_clearData_27 ?_
  obtain ⟨M2, eM2⟩ : ∃ z, z = up M ka0 kx1.toNatClampNeg kx2 := ⟨_, rfl⟩
  replace h := h M2 eM2
  refine V_mem eM2 ?_
  obtain ⟨y3, ey3⟩ : ∃ z, z = x1 + 1 := ⟨_, rfl⟩
  replace h := h y3 ey3
  refine V_iinc (v := y3) hC rfl (by rw [ey3]; rfl) (by decide) dX11_clearData_28 ?_
  refine V_goto (tgt := 2) hC (by decide) dX11_clearData_31 ?_
  refine V_sub (us := [some (ob g a0), some (.int y3)]) ⟨rfl, rfl, trivial⟩ ?_
  exact hK2 a0 y3 M2 ha0 h
set_option maxRecDepth 100000 in
theorem j_Md_clearData_26 {l : Launch} {X : CX} {g : GX} {w : WX} {fu : Nat} {post : Mm → Prop} (hX : X.2.1 = l) (hC : Cx X g cX11_clearData 2 RX11 (none) 0) {K2 : Nat → Int32 → Mm → Prop} (hK2 : ∀ (a0 : Nat) (x1 : Int32) (M : Mm), ok w a0 20 → K2 a0 x1 M → V X g w 2 0 0 (QV X g w post 0 0) 2 [some (ob g a0), some (.int x1)] [] M) (a0 : Nat) (x1 : Int32) (ka0 : Nat) (kx1 : Int32) {M : Mm} (ha0 : ok w a0 20) (hka0 : ok w ka0 20) (h : f_Md_clearData_26 fu post K2 a0 x1 ka0 kx1 M) : V X g w 2 0 0 (QV X g w post 0 0) 26 [some (ob g a0), some (.int x1)] [.int kx1, ob g ka0] M := by
  unfold f_Md_clearData_26 at h
  refine V_iconst (v := 0) hC (by decide) dX11_clearData_26 ?_
  refine V_sub (us := [some (ob g a0), some (.int x1)]) ⟨rfl, rfl, trivial⟩ ?_
  exact j_Md_clearData_27 hX hC hK2 a0 x1 ka0 kx1 0 ha0 hka0 h
set_option maxRecDepth 100000 in
theorem l_Md_clearData_2 {l : Launch} {X : CX} {g : GX} {w : WX} {fu : Nat} {post : Mm → Prop} (hX : X.2.1 = l) (hC : Cx X g cX11_clearData 2 RX11 (none) 0) : ∀ (kf : Nat) (a0 : Nat) (x1 : Int32) (M : Mm) (ha0 : ok w a0 20) (h : f_Md_clearData_2 fu post kf a0 x1 M), V X g w 2 0 0 (QV X g w post 0 0) 2 [some (ob g a0), some (.int x1)] [] M := by
  intro kf
  induction kf with
  | zero => intro a0 x1 M ha0 h; exact absurd h id
  | succ kf ih =>
    intro a0 x1 M ha0 h
    rw [f_Md_clearData_2] at h
    refine V_iload_n hC rfl dX11_clearData_2 ?_
    refine V_bipush (v := 69) hC (by decide) dX11_clearData_3 ?_
    refine V_icmp_ge (tgt := 34) hC dX11_clearData_5 (by decide) (fun b3 => ?_) (fun b3 => ?_)
    · replace h := h.1 b3
      exact V_vret hC h dX11_clearData_34
    · replace h := h.2 b3
      refine V_aload_n hC rfl dX11_clearData_8 ?_
      refine V_iload_n hC rfl dX11_clearData_9 ?_
      refine V_iload_n hC rfl dX11_clearData_10 ?_
      refine V_bipush (v := 38) hC (by decide) dX11_clearData_11 ?_
      refine V_icmp_lt (tgt := 26) hC dX11_clearData_13 (by decide) (fun b2 => ?_) (fun b2 => ?_)
      · replace h := h.1 b2
        refine V_sub (us := [some (ob g a0), some (.int x1)]) ⟨rfl, rfl, trivial⟩ ?_
        exact j_Md_clearData_26 hX hC ih a0 x1 a0 x1 ha0 ha0 h
      · replace h := h.2 b2
        refine V_iload_n hC rfl dX11_clearData_16 ?_
        refine V_bipush (v := 56) hC (by decide) dX11_clearData_17 ?_
        refine V_icmp_ge (tgt := 26) hC dX11_clearData_19 (by decide) (fun b1 => ?_) (fun b1 => ?_)
        · replace h := h.1 b1
          refine V_sub (us := [some (ob g a0), some (.int x1)]) ⟨rfl, rfl, trivial⟩ ?_
          exact j_Md_clearData_26 hX hC ih a0 x1 a0 x1 ha0 ha0 h
        · replace h := h.2 b1
          refine V_iconst (v := 1) hC (by decide) dX11_clearData_22 ?_
          refine V_goto (tgt := 27) hC (by decide) dX11_clearData_23 ?_
          refine V_sub (us := [some (ob g a0), some (.int x1)]) ⟨rfl, rfl, trivial⟩ ?_
          exact j_Md_clearData_27 hX hC ih a0 x1 a0 x1 1 ha0 ha0 h
set_option maxRecDepth 100000 in
theorem c_Md_clearData (l : Launch) (g : GX) (w : WX) (fu : Nat) (post : Mm → Prop) (a0 : Nat) (M : Mm) (ha0 : ok w a0 20) (h : f_Md_clearData fu post a0 M) : Met l yX11_clearData [Cond.code yX11_clearData cX11_clearData 2 (none)] (rmC 0 0 0) (va_Pc [ob g a0] (Wb g w M)) (va_Qv post (Wb g w) (Af g)) 0 0 (Af g) := by
  refine Ct_v (by decide) rfl (fun v hv => by simp only [List.mem_cons, List.not_mem_nil, or_false] at hv; rcases hv with rfl <;> rfl) (Nat.le_of_ble_eq_true rfl) (Nat.le_refl _) ?_
  intro X hX _ hC
  unfold f_Md_clearData at h
  refine V_sub (us := [some (ob g a0), none]) ⟨rfl, trivial⟩ ?_
  refine V_iconst (v := 0) hC (by decide) dX11_clearData_0 ?_
  refine V_istore_n hC (by decide) dX11_clearData_1 ?_
  refine V_sub (us := [some (ob g a0), some (.int 0)]) ⟨rfl, rfl, trivial⟩ ?_
  exact l_Md_clearData_2 hX hC fu a0 0 M ha0 h
def f_Md_copyData_3 (fu : Nat) (post : Mm → Prop) : Nat → Nat → Int32 → Nat → Int32 → Int32 → Mm → Prop
  | 0, _, _, _, _, _, _ => False
  | kf + 1, a0, x1, a2, x3, x4, M =>
    ((69 ≤ x4) → post M) ∧ (¬ (69 ≤ x4) → vp_in (x1 + x4) (ln a0) ∧ vp_in (x3 + x4) (ln a2) ∧ (∀ M3, M3 = up M a2 (x3 + x4).toNatClampNeg (M a0 (x1 + x4).toNatClampNeg) → ∀ y4, y4 = x4 + 1 → f_Md_copyData_3 fu post kf a0 x1 a2 x3 y4 M3))
def f_Md_copyData (fu : Nat) (post : Mm → Prop) (a0 : Nat) (x1 : Int32) (a2 : Nat) (x3 : Int32) (M : Mm) : Prop :=
  f_Md_copyData_3 fu post fu a0 x1 a2 x3 0 M
set_option maxRecDepth 100000 in
theorem l_Md_copyData_3 {l : Launch} {X : CX} {g : GX} {w : WX} {fu : Nat} {post : Mm → Prop} (hX : X.2.1 = l) (hC : Cx X g cX11_copyData 5 RX11 (none) 0) : ∀ (kf : Nat) (a0 : Nat) (x1 : Int32) (a2 : Nat) (x3 : Int32) (x4 : Int32) (M : Mm) (ha0 : ok w a0 20) (ha2 : ok w a2 20) (h : f_Md_copyData_3 fu post kf a0 x1 a2 x3 x4 M), V X g w 5 0 0 (QV X g w post 0 0) 3 [some (ob g a0), some (.int x1), some (ob g a2), some (.int x3), some (.int x4)] [] M := by
  intro kf
  induction kf with
  | zero => intro a0 x1 a2 x3 x4 M ha0 ha2 h; exact absurd h id
  | succ kf ih =>
    intro a0 x1 a2 x3 x4 M ha0 ha2 h
    rw [f_Md_copyData_3] at h
    refine V_iload hC rfl dX11_copyData_3 ?_
    refine V_bipush (v := 69) hC (by decide) dX11_copyData_5 ?_
    refine V_icmp_ge (tgt := 28) hC dX11_copyData_7 (by decide) (fun b5 => ?_) (fun b5 => ?_)
    · replace h := h.1 b5
      exact V_vret hC h dX11_copyData_28
    · replace h := h.2 b5
      refine V_aload_n hC rfl dX11_copyData_10 ?_
      refine V_iload_n hC rfl dX11_copyData_11 ?_
      refine V_iload hC rfl dX11_copyData_12 ?_
      refine V_iadd hC dX11_copyData_14 ?_
      refine V_aload_n hC rfl dX11_copyData_15 ?_
      refine V_iload_n hC rfl dX11_copyData_16 ?_
      refine V_iload hC rfl dX11_copyData_17 ?_
      refine V_iadd hC dX11_copyData_19 ?_
      obtain ⟨q1, h⟩ := h
      refine V_iald hC ha0 q1 dX11_copyData_20 ?_
      obtain ⟨q2, h⟩ := h
      refine V_iast hC ha2 q2 dX11_copyData_21 ?_
      obtain ⟨M3, eM3⟩ : ∃ z, z = up M a2 (x3 + x4).toNatClampNeg (M a0 (x1 + x4).toNatClampNeg) := ⟨_, rfl⟩
      replace h := h M3 eM3
      refine V_mem eM3 ?_
      obtain ⟨y4, ey4⟩ : ∃ z, z = x4 + 1 := ⟨_, rfl⟩
      replace h := h y4 ey4
      refine V_iinc (v := y4) hC rfl (by rw [ey4]; rfl) (by decide) dX11_copyData_22 ?_
      refine V_goto (tgt := 3) hC (by decide) dX11_copyData_25 ?_
      refine V_sub (us := [some (ob g a0), some (.int x1), some (ob g a2), some (.int x3), some (.int y4)]) ⟨rfl, rfl, rfl, rfl, rfl, trivial⟩ ?_
      exact ih a0 x1 a2 x3 y4 M3 ha0 ha2 h
set_option maxRecDepth 100000 in
theorem c_Md_copyData (l : Launch) (g : GX) (w : WX) (fu : Nat) (post : Mm → Prop) (a0 : Nat) (x1 : Int32) (a2 : Nat) (x3 : Int32) (M : Mm) (ha0 : ok w a0 20) (ha2 : ok w a2 20) (h : f_Md_copyData fu post a0 x1 a2 x3 M) : Met l yX11_copyData [Cond.code yX11_copyData cX11_copyData 5 (none)] (rmC 0 0 0) (va_Pc [ob g a0, .int x1, ob g a2, .int x3] (Wb g w M)) (va_Qv post (Wb g w) (Af g)) 0 0 (Af g) := by
  refine Ct_v (by decide) rfl (fun v hv => by simp only [List.mem_cons, List.not_mem_nil, or_false] at hv; rcases hv with rfl | rfl | rfl | rfl <;> rfl) (Nat.le_of_ble_eq_true rfl) (Nat.le_refl _) ?_
  intro X hX _ hC
  unfold f_Md_copyData at h
  refine V_sub (us := [some (ob g a0), some (.int x1), some (ob g a2), some (.int x3), none]) ⟨rfl, rfl, rfl, rfl, trivial⟩ ?_
  refine V_iconst (v := 0) hC (by decide) dX11_copyData_0 ?_
  refine V_istore hC (by decide) dX11_copyData_1 ?_
  refine V_sub (us := [some (ob g a0), some (.int x1), some (ob g a2), some (.int x3), some (.int 0)]) ⟨rfl, rfl, rfl, rfl, rfl, trivial⟩ ?_
  exact l_Md_copyData_3 hX hC fu a0 x1 a2 x3 0 M ha0 ha2 h
def f_Md_save_49 (fu : Nat) (post : Mm → Prop) (t : Nat) (M : Mm) : Prop :=
  f_Md_copyData fu (fun M1 => ∀ M2, M2 = up M1 t 3 ((M1 t 3) + 1) → post M2) (t + 1) 0 (t + 3) (69 * (M t 3)) M
def f_Md_save_11 (fu : Nat) (post : Mm → Prop) : Nat → Nat → Int32 → Mm → Prop
  | 0, _, _, _ => False
  | kf + 1, t, x1, M =>
    ((483 ≤ x1) → ∀ M1, M1 = up M t 3 ((M t 3) - 1) → f_Md_save_49 fu post t M1) ∧ (¬ (483 ≤ x1) → vp_in (x1 + 69) (ln (t + 3)) ∧ vp_in x1 (ln (t + 3)) ∧ (∀ M4, M4 = up M (t + 3) x1.toNatClampNeg (M (t + 3) (x1 + 69).toNatClampNeg) → ∀ y5, y5 = x1 + 1 → f_Md_save_11 fu post kf t y5 M4))
def f_Md_save (fu : Nat) (post : Mm → Prop) (t : Nat) (M : Mm) : Prop :=
  (((M t 3) = 8) → f_Md_save_11 fu post fu t 0 M) ∧ (¬ ((M t 3) = 8) → f_Md_save_49 fu post t M)
set_option maxRecDepth 100000 in
theorem j_Md_save_49 {l : Launch} {X : CX} {g : GX} {w : WX} {fu : Nat} {post : Mm → Prop} (hX : X.2.1 = l) (hC : Cx X g cX11_save 2 RX11 (none) 1) (t : Nat) {M : Mm} (ht : ok w t 11) (h : f_Md_save_49 fu post t M) : V X g w 2 0 0 (QV X g w post 0 0) 49 [some (ob g t), none] [] M := by
  unfold f_Md_save_49 at h
  refine V_aload_n hC rfl dX11_save_49 ?_
  refine gf_11_0 hC ht tw_817 dX11_save_50 ?_
  refine V_iconst (v := 0) hC (by decide) dX11_save_53 ?_
  refine V_aload_n hC rfl dX11_save_54 ?_
  refine gf_11_2 hC ht tw_819 dX11_save_55 ?_
  refine V_bipush (v := 69) hC (by decide) dX11_save_58 ?_
  refine V_aload_n hC rfl dX11_save_60 ?_
  refine gf_11_3 hC ht tw_820 dX11_save_61 ?_
  refine V_imul hC dX11_save_64 ?_
  refine V_scallv (As := [ob g (t + 1), .int 0, ob g (t + 3), .int (69 * (M t 3))]) hC (c_Md_copyData X.2.1 g w fu _ (t + 1) 0 (t + 3) (69 * (M t 3)) M (ok_11_0 ht) (ok_11_2 ht) h) mw_X11_copyData (by decide) tw_958 rfl rfl (Nat.le_of_ble_eq_true rfl) ⟨Nat.zero_le _, Nat.zero_le _⟩ dX11_save_65 (fun M1 h => ?_)
  refine V_aload_n hC rfl dX11_save_68 ?_
  refine V_dup hC rfl dX11_save_69 ?_
  refine gf_11_3 hC ht tw_820 dX11_save_70 ?_
  refine V_iconst (v := 1) hC (by decide) dX11_save_73 ?_
  refine V_iadd hC dX11_save_74 ?_
  refine pf_11_3 hC ht tw_820 dX11_save_75 ?_
  obtain ⟨M2, eM2⟩ : ∃ z, z = up M1 t 3 ((M1 t 3) + 1) := ⟨_, rfl⟩
  replace h := h M2 eM2
  refine V_mem eM2 ?_
  exact V_vret hC h dX11_save_78
set_option maxRecDepth 100000 in
theorem l_Md_save_11 {l : Launch} {X : CX} {g : GX} {w : WX} {fu : Nat} {post : Mm → Prop} (hX : X.2.1 = l) (hC : Cx X g cX11_save 2 RX11 (none) 1) : ∀ (kf : Nat) (t : Nat) (x1 : Int32) (M : Mm) (ht : ok w t 11) (h : f_Md_save_11 fu post kf t x1 M), V X g w 2 0 0 (QV X g w post 0 0) 11 [some (ob g t), some (.int x1)] [] M := by
  intro kf
  induction kf with
  | zero => intro t x1 M ht h; exact absurd h id
  | succ kf ih =>
    intro t x1 M ht h
    rw [f_Md_save_11] at h
    refine V_iload_n hC rfl dX11_save_11 ?_
    refine V_sipush (v := 483) hC (by decide) dX11_save_12 ?_
    refine V_icmp_ge (tgt := 39) hC dX11_save_15 (by decide) (fun b6 => ?_) (fun b6 => ?_)
    · replace h := h.1 b6
      refine V_aload_n hC rfl dX11_save_39 ?_
      refine V_dup hC rfl dX11_save_40 ?_
      refine gf_11_3 hC ht tw_820 dX11_save_41 ?_
      refine V_iconst (v := 1) hC (by decide) dX11_save_44 ?_
      refine V_isub hC dX11_save_45 ?_
      refine pf_11_3 hC ht tw_820 dX11_save_46 ?_
      obtain ⟨M1, eM1⟩ : ∃ z, z = up M t 3 ((M t 3) - 1) := ⟨_, rfl⟩
      replace h := h M1 eM1
      refine V_mem eM1 ?_
      refine V_sub (us := [some (ob g t), none]) ⟨rfl, trivial⟩ ?_
      exact j_Md_save_49 hX hC t ht h
    · replace h := h.2 b6
      refine V_aload_n hC rfl dX11_save_18 ?_
      refine gf_11_2 hC ht tw_819 dX11_save_19 ?_
      refine V_iload_n hC rfl dX11_save_22 ?_
      refine V_aload_n hC rfl dX11_save_23 ?_
      refine gf_11_2 hC ht tw_819 dX11_save_24 ?_
      refine V_iload_n hC rfl dX11_save_27 ?_
      refine V_bipush (v := 69) hC (by decide) dX11_save_28 ?_
      refine V_iadd hC dX11_save_30 ?_
      obtain ⟨q2, h⟩ := h
      refine V_iald hC (ok_11_2 ht) q2 dX11_save_31 ?_
      obtain ⟨q3, h⟩ := h
      refine V_iast hC (ok_11_2 ht) q3 dX11_save_32 ?_
      obtain ⟨M4, eM4⟩ : ∃ z, z = up M (t + 3) x1.toNatClampNeg (M (t + 3) (x1 + 69).toNatClampNeg) := ⟨_, rfl⟩
      replace h := h M4 eM4
      refine V_mem eM4 ?_
      obtain ⟨y5, ey5⟩ : ∃ z, z = x1 + 1 := ⟨_, rfl⟩
      replace h := h y5 ey5
      refine V_iinc (v := y5) hC rfl (by rw [ey5]; rfl) (by decide) dX11_save_33 ?_
      refine V_goto (tgt := 11) hC (by decide) dX11_save_36 ?_
      refine V_sub (us := [some (ob g t), some (.int y5)]) ⟨rfl, rfl, trivial⟩ ?_
      exact ih t y5 M4 ht h
set_option maxRecDepth 100000 in
theorem c_Md_save (l : Launch) (g : GX) (w : WX) (fu : Nat) (post : Mm → Prop) (t : Nat) (M : Mm) (ht : ok w t 11) (h : f_Md_save fu post t M) : Met l yX11_save [Cond.code yX11_save cX11_save 2 (none)] (rmC 1 0 0) (va_Pc [ob g t] (Wb g w M)) (va_Qv post (Wb g w) (Af g)) 0 0 (Af g) := by
  refine Ct_v (by decide) rfl (fun v hv => by simp only [List.mem_cons, List.not_mem_nil, or_false] at hv; rcases hv with rfl <;> rfl) (Nat.le_of_ble_eq_true rfl) (Nat.le_refl _) ?_
  intro X hX _ hC
  unfold f_Md_save at h
  refine V_sub (us := [some (ob g t), none]) ⟨rfl, trivial⟩ ?_
  refine V_aload_n hC rfl dX11_save_0 ?_
  refine gf_11_3 hC ht tw_820 dX11_save_1 ?_
  refine V_bipush (v := 8) hC (by decide) dX11_save_4 ?_
  refine V_icmp_ne (tgt := 49) hC dX11_save_6 (by decide) (fun b1 => ?_) (fun b1 => ?_)
  · replace h := h.2 b1
    refine V_sub (us := [some (ob g t), none]) ⟨rfl, trivial⟩ ?_
    exact j_Md_save_49 hX hC t ht h
  · replace h := h.1 b1
    refine V_iconst (v := 0) hC (by decide) dX11_save_9 ?_
    refine V_istore_n hC (by decide) dX11_save_10 ?_
    refine V_sub (us := [some (ob g t), some (.int 0)]) ⟨rfl, rfl, trivial⟩ ?_
    exact l_Md_save_11 hX hC fu t 0 M ht h
def f_Md_isLetter (fu : Nat) (post : Int32 → Mm → Prop) (t : Nat) (M : Mm) : Prop :=
  (((M t 5) ≤ (M t 6)) → post 0 M) ∧ (¬ ((M t 5) ≤ (M t 6)) → vp_in (M t 6) (ln (t + 4)) ∧ f_Md_in fu (fun r3 M2 => ((r3 = 0) → post 0 M2) ∧ (¬ (r3 = 0) → post 1 M2)) (M (t + 4) (M t 6).toNatClampNeg) 97 122 M)
set_option maxRecDepth 100000 in
theorem c_Md_isLetter (l : Launch) (g : GX) (w : WX) (fu : Nat) (post : Int32 → Mm → Prop) (t : Nat) (M : Mm) (ht : ok w t 11) (h : f_Md_isLetter fu post t M) : Met l yX11_isLetter [Cond.code yX11_isLetter cX11_isLetter 1 (some .boolean)] (rmC 1 0 0) (va_Pc [ob g t] (Wb g w M)) (va_Qi (fun r M => zb r ∧ post r M) (Wb g w) (Af g)) 0 0 (Af g) := by
  refine Ct_i (by decide) rfl (fun v hv => by simp only [List.mem_cons, List.not_mem_nil, or_false] at hv; rcases hv with rfl <;> rfl) (Nat.le_of_ble_eq_true rfl) (Nat.le_refl _) ?_
  intro X hX _ hC
  unfold f_Md_isLetter at h
  refine V_sub (us := [some (ob g t)]) ⟨rfl, trivial⟩ ?_
  refine V_aload_n hC rfl dX11_isLetter_0 ?_
  refine gf_11_6 hC ht tw_823 dX11_isLetter_1 ?_
  refine V_aload_n hC rfl dX11_isLetter_4 ?_
  refine gf_11_5 hC ht tw_822 dX11_isLetter_5 ?_
  refine V_icmp_ge (tgt := 34) hC dX11_isLetter_8 (by decide) (fun b5 => ?_) (fun b5 => ?_)
  · replace h := h.1 b5
    refine V_iconst (v := 0) hC (by decide) dX11_isLetter_34 ?_
    exact V_zret hC (Or.inl rfl) h dX11_isLetter_35
  · replace h := h.2 b5
    refine V_aload_n hC rfl dX11_isLetter_11 ?_
    refine gf_11_4 hC ht tw_821 dX11_isLetter_12 ?_
    refine V_aload_n hC rfl dX11_isLetter_15 ?_
    refine gf_11_6 hC ht tw_823 dX11_isLetter_16 ?_
    obtain ⟨q1, h⟩ := h
    refine V_iald hC (ok_11_4 ht) q1 dX11_isLetter_19 ?_
    refine V_bipush (v := 97) hC (by decide) dX11_isLetter_20 ?_
    refine V_bipush (v := 122) hC (by decide) dX11_isLetter_22 ?_
    refine V_scalli (As := [.int (M (t + 4) (M t 6).toNatClampNeg), .int 97, .int 122]) hC (c_Md_in X.2.1 g w fu _ (M (t + 4) (M t 6).toNatClampNeg) 97 122 M h) mw_X11_in (by decide) tw_894 rfl rfl (Nat.le_of_ble_eq_true rfl) ⟨Nat.zero_le _, Nat.zero_le _⟩ dX11_isLetter_24 (fun r3 M2 h => ?_)
    obtain ⟨hzr3, h⟩ := h
    refine V_if_eq (tgt := 34) hC dX11_isLetter_27 (by decide) (fun b4 => ?_) (fun b4 => ?_)
    · replace h := h.1 b4
      refine V_iconst (v := 0) hC (by decide) dX11_isLetter_34 ?_
      exact V_zret hC (Or.inl rfl) h dX11_isLetter_35
    · replace h := h.2 b4
      refine V_iconst (v := 1) hC (by decide) dX11_isLetter_30 ?_
      refine V_goto (tgt := 35) hC (by decide) dX11_isLetter_31 ?_
      exact V_zret hC (Or.inr rfl) h dX11_isLetter_35
def f_Md_next_135 (fu : Nat) (post : Mm → Prop) : Nat → Nat → Int32 → Mm → Prop
  | 0, _, _, _ => False
  | kf + 1, t, x1, M =>
    ((x1 < (M t 8)) → post M) ∧ (¬ (x1 < (M t 8)) → ((8 ≤ ((M t 6) - (M t 8))) → post M) ∧ (¬ (8 ≤ ((M t 6) - (M t 8))) → vp_in x1 (ln (t + 4)) ∧ ∀ M2, M2 = up (up M t 24 (hiW ((((32 * (mkL (M t 24) (M t 9))) + ((M (t + 4) x1.toNatClampNeg).toInt64)) - 97) + 1))) t 9 (loW ((((32 * (mkL (M t 24) (M t 9))) + ((M (t + 4) x1.toNatClampNeg).toInt64)) - 97) + 1)) → ∀ y3, y3 = x1 + (-1) → f_Md_next_135 fu post kf t y3 M2))
def f_Md_next_108 (fu : Nat) (post : Mm → Prop) : Nat → Nat → Mm → Prop
  | 0, _, _ => False
  | kf + 1, t, M =>
    f_Md_isLetter fu (fun r2 M1 => ((r2 = 0) → ∀ y3, y3 = ((M1 t 6) - 1) → f_Md_next_135 fu post fu t y3 M1) ∧ (¬ (r2 = 0) → ∀ M4, M4 = up M1 t 6 ((M1 t 6) + 1) → f_Md_next_108 fu post kf t M4)) t M
def f_Md_next_38 (fu : Nat) (post : Mm → Prop) (t : Nat) (M : Mm) : Prop :=
  ∀ M1, M1 = up M t 8 (M t 6) → ∀ M2, M2 = up (up M1 t 24 (hiW 0)) t 9 (loW 0) → (((M2 t 6) = (M2 t 5)) → ∀ M10, M10 = up M2 t 7 1000 → post M10) ∧ (¬ ((M2 t 6) = (M2 t 5)) → f_Md_isLetter fu (fun r4 M3 => ((r4 = 0) → vp_in (M3 t 6) (ln (t + 4)) ∧ ∀ M7, M7 = up M3 t 7 (M3 (t + 4) (M3 t 6).toNatClampNeg) → ∀ M8, M8 = up M7 t 6 ((M7 t 6) + 1) → post M8) ∧ (¬ (r4 = 0) → ∀ M5, M5 = up M3 t 7 1001 → f_Md_next_108 fu post fu t M5)) t M2)
def f_Md_next_0 (fu : Nat) (post : Mm → Prop) : Nat → Nat → Mm → Prop
  | 0, _, _ => False
  | kf + 1, t, M =>
    (((M t 5) ≤ (M t 6)) → f_Md_next_38 fu post t M) ∧ (¬ ((M t 5) ≤ (M t 6)) → vp_in (M t 6) (ln (t + 4)) ∧ (((M (t + 4) (M t 6).toNatClampNeg) = 32) → ∀ M2, M2 = up M t 6 ((M t 6) + 1) → f_Md_next_0 fu post kf t M2) ∧ (¬ ((M (t + 4) (M t 6).toNatClampNeg) = 32) → f_Md_next_38 fu post t M))
def f_Md_next (fu : Nat) (post : Mm → Prop) (t : Nat) (M : Mm) : Prop :=
  f_Md_next_0 fu post fu t M
set_option maxRecDepth 100000 in
theorem l_Md_next_135 {l : Launch} {X : CX} {g : GX} {w : WX} {fu : Nat} {post : Mm → Prop} (hX : X.2.1 = l) (hC : Cx X g cX11_next 2 RX11 (none) 2) : ∀ (kf : Nat) (t : Nat) (x1 : Int32) (M : Mm) (ht : ok w t 11) (h : f_Md_next_135 fu post kf t x1 M), V X g w 2 0 0 (QV X g w post 0 0) 135 [some (ob g t), some (.int x1)] [] M := by
  intro kf
  induction kf with
  | zero => intro t x1 M ht h; exact absurd h id
  | succ kf ih =>
    intro t x1 M ht h
    rw [f_Md_next_135] at h
    refine V_iload_n hC rfl dX11_next_135 ?_
    refine V_aload_n hC rfl dX11_next_136 ?_
    refine gf_11_8 hC ht tw_825 dX11_next_137 ?_
    refine V_icmp_lt (tgt := 189) hC dX11_next_140 (by decide) (fun b5 => ?_) (fun b5 => ?_)
    · replace h := h.1 b5
      exact V_vret hC h dX11_next_189
    · replace h := h.2 b5
      refine V_aload_n hC rfl dX11_next_143 ?_
      refine gf_11_6 hC ht tw_823 dX11_next_144 ?_
      refine V_aload_n hC rfl dX11_next_147 ?_
      refine gf_11_8 hC ht tw_825 dX11_next_148 ?_
      refine V_isub hC dX11_next_151 ?_
      refine V_bipush (v := 8) hC (by decide) dX11_next_152 ?_
      refine V_icmp_ge (tgt := 189) hC dX11_next_154 (by decide) (fun b4 => ?_) (fun b4 => ?_)
      · replace h := h.1 b4
        exact V_vret hC h dX11_next_189
      · replace h := h.2 b4
        refine V_aload_n hC rfl dX11_next_157 ?_
        refine V_ldc2 hC tw_917 dX11_next_158 ?_
        refine V_aload_n hC rfl dX11_next_161 ?_
        refine gf_11_9 hC ht tw_826 dX11_next_162 ?_
        refine V_lmul hC dX11_next_165 ?_
        refine V_aload_n hC rfl dX11_next_166 ?_
        refine gf_11_4 hC ht tw_821 dX11_next_167 ?_
        refine V_iload_n hC rfl dX11_next_170 ?_
        obtain ⟨q1, h⟩ := h
        refine V_iald hC (ok_11_4 ht) q1 dX11_next_171 ?_
        refine V_i2l hC dX11_next_172 ?_
        refine V_ladd hC dX11_next_173 ?_
        refine V_ldc2 hC tw_918 dX11_next_174 ?_
        refine V_lsub hC dX11_next_177 ?_
        refine V_lconst (v := 1) hC (by decide) dX11_next_178 ?_
        refine V_ladd hC dX11_next_179 ?_
        refine pf_11_9 hC ht tw_826 dX11_next_180 ?_
        obtain ⟨M2, eM2⟩ : ∃ z, z = up (up M t 24 (hiW ((((32 * (mkL (M t 24) (M t 9))) + ((M (t + 4) x1.toNatClampNeg).toInt64)) - 97) + 1))) t 9 (loW ((((32 * (mkL (M t 24) (M t 9))) + ((M (t + 4) x1.toNatClampNeg).toInt64)) - 97) + 1)) := ⟨_, rfl⟩
        replace h := h M2 eM2
        refine V_mem eM2 ?_
        obtain ⟨y3, ey3⟩ : ∃ z, z = x1 + (-1) := ⟨_, rfl⟩
        replace h := h y3 ey3
        refine V_iinc (v := y3) hC rfl (by rw [ey3]; rfl) (by decide) dX11_next_183 ?_
        refine V_goto (tgt := 135) hC (by decide) dX11_next_186 ?_
        refine V_sub (us := [some (ob g t), some (.int y3)]) ⟨rfl, rfl, trivial⟩ ?_
        exact ih t y3 M2 ht h
set_option maxRecDepth 100000 in
theorem l_Md_next_108 {l : Launch} {X : CX} {g : GX} {w : WX} {fu : Nat} {post : Mm → Prop} (hX : X.2.1 = l) (hC : Cx X g cX11_next 2 RX11 (none) 2) : ∀ (kf : Nat) (t : Nat) (M : Mm) (ht : ok w t 11) (h : f_Md_next_108 fu post kf t M), V X g w 2 0 0 (QV X g w post 0 0) 108 [some (ob g t), none] [] M := by
  intro kf
  induction kf with
  | zero => intro t M ht h; exact absurd h id
  | succ kf ih =>
    intro t M ht h
    rw [f_Md_next_108] at h
    refine V_aload_n hC rfl dX11_next_108 ?_
    refine V_calli (As := []) hC (c_Md_isLetter X.2.1 g w fu _ t M ht h) mw_X11_isLetter (by decide) tw_913 ht (by decide) rfl rfl rfl (Nat.le_of_ble_eq_true rfl) ⟨Nat.zero_le _, Nat.zero_le _⟩ dX11_next_109 (fun r2 M1 h => ?_)
    obtain ⟨hzr2, h⟩ := h
    refine V_if_eq (tgt := 128) hC dX11_next_112 (by decide) (fun b5 => ?_) (fun b5 => ?_)
    · replace h := h.1 b5
      refine V_aload_n hC rfl dX11_next_128 ?_
      refine gf_11_6 hC ht tw_823 dX11_next_129 ?_
      refine V_iconst (v := 1) hC (by decide) dX11_next_132 ?_
      refine V_isub hC dX11_next_133 ?_
      refine V_topi (fun y3 ey3 => ?_)
      replace h := h y3 ey3
      refine V_istore_n hC (by decide) dX11_next_134 ?_
      refine V_sub (us := [some (ob g t), some (.int y3)]) ⟨rfl, rfl, trivial⟩ ?_
      exact l_Md_next_135 hX hC fu t y3 M1 ht h
    · replace h := h.2 b5
      refine V_aload_n hC rfl dX11_next_115 ?_
      refine V_dup hC rfl dX11_next_116 ?_
      refine gf_11_6 hC ht tw_823 dX11_next_117 ?_
      refine V_iconst (v := 1) hC (by decide) dX11_next_120 ?_
      refine V_iadd hC dX11_next_121 ?_
      refine pf_11_6 hC ht tw_823 dX11_next_122 ?_
      obtain ⟨M4, eM4⟩ : ∃ z, z = up M1 t 6 ((M1 t 6) + 1) := ⟨_, rfl⟩
      replace h := h M4 eM4
      refine V_mem eM4 ?_
      refine V_goto (tgt := 108) hC (by decide) dX11_next_125 ?_
      refine V_sub (us := [some (ob g t), none]) ⟨rfl, trivial⟩ ?_
      exact ih t M4 ht h
set_option maxRecDepth 100000 in
theorem j_Md_next_38 {l : Launch} {X : CX} {g : GX} {w : WX} {fu : Nat} {post : Mm → Prop} (hX : X.2.1 = l) (hC : Cx X g cX11_next 2 RX11 (none) 2) (t : Nat) {M : Mm} (ht : ok w t 11) (h : f_Md_next_38 fu post t M) : V X g w 2 0 0 (QV X g w post 0 0) 38 [some (ob g t), none] [] M := by
  unfold f_Md_next_38 at h
  refine V_aload_n hC rfl dX11_next_38 ?_
  refine V_aload_n hC rfl dX11_next_39 ?_
  refine gf_11_6 hC ht tw_823 dX11_next_40 ?_
  refine pf_11_8 hC ht tw_825 dX11_next_43 ?_
  obtain ⟨M1, eM1⟩ : ∃ z, z = up M t 8 (M t 6) := ⟨_, rfl⟩
  replace h := h M1 eM1
  refine V_mem eM1 ?_
  refine V_aload_n hC rfl dX11_next_46 ?_
  refine V_lconst (v := 0) hC (by decide) dX11_next_47 ?_
  refine pf_11_9 hC ht tw_826 dX11_next_48 ?_
  obtain ⟨M2, eM2⟩ : ∃ z, z = up (up M1 t 24 (hiW 0)) t 9 (loW 0) := ⟨_, rfl⟩
  replace h := h M2 eM2
  refine V_mem eM2 ?_
  refine V_aload_n hC rfl dX11_next_51 ?_
  refine gf_11_6 hC ht tw_823 dX11_next_52 ?_
  refine V_aload_n hC rfl dX11_next_55 ?_
  refine gf_11_5 hC ht tw_822 dX11_next_56 ?_
  refine V_icmp_ne (tgt := 70) hC dX11_next_59 (by decide) (fun b11 => ?_) (fun b11 => ?_)
  · replace h := h.2 b11
    refine V_aload_n hC rfl dX11_next_70 ?_
    refine V_calli (As := []) hC (c_Md_isLetter X.2.1 g w fu _ t M2 ht h) mw_X11_isLetter (by decide) tw_913 ht (by decide) rfl rfl rfl (Nat.le_of_ble_eq_true rfl) ⟨Nat.zero_le _, Nat.zero_le _⟩ dX11_next_71 (fun r4 M3 h => ?_)
    obtain ⟨hzr4, h⟩ := h
    refine V_if_ne (tgt := 101) hC dX11_next_74 (by decide) (fun b9 => ?_) (fun b9 => ?_)
    · replace h := h.2 b9
      refine V_aload_n hC rfl dX11_next_101 ?_
      refine V_sipush (v := 1001) hC (by decide) dX11_next_102 ?_
      refine pf_11_7 hC ht tw_824 dX11_next_105 ?_
      obtain ⟨M5, eM5⟩ : ∃ z, z = up M3 t 7 1001 := ⟨_, rfl⟩
      replace h := h M5 eM5
      refine V_mem eM5 ?_
      refine V_sub (us := [some (ob g t), none]) ⟨rfl, trivial⟩ ?_
      exact l_Md_next_108 hX hC fu t M5 ht h
    · replace h := h.1 b9
      refine V_aload_n hC rfl dX11_next_77 ?_
      refine V_aload_n hC rfl dX11_next_78 ?_
      refine gf_11_4 hC ht tw_821 dX11_next_79 ?_
      refine V_aload_n hC rfl dX11_next_82 ?_
      refine gf_11_6 hC ht tw_823 dX11_next_83 ?_
      obtain ⟨q6, h⟩ := h
      refine V_iald hC (ok_11_4 ht) q6 dX11_next_86 ?_
      refine pf_11_7 hC ht tw_824 dX11_next_87 ?_
      obtain ⟨M7, eM7⟩ : ∃ z, z = up M3 t 7 (M3 (t + 4) (M3 t 6).toNatClampNeg) := ⟨_, rfl⟩
      replace h := h M7 eM7
      refine V_mem eM7 ?_
      refine V_aload_n hC rfl dX11_next_90 ?_
      refine V_dup hC rfl dX11_next_91 ?_
      refine gf_11_6 hC ht tw_823 dX11_next_92 ?_
      refine V_iconst (v := 1) hC (by decide) dX11_next_95 ?_
      refine V_iadd hC dX11_next_96 ?_
      refine pf_11_6 hC ht tw_823 dX11_next_97 ?_
      obtain ⟨M8, eM8⟩ : ∃ z, z = up M7 t 6 ((M7 t 6) + 1) := ⟨_, rfl⟩
      replace h := h M8 eM8
      refine V_mem eM8 ?_
      exact V_vret hC h dX11_next_100
  · replace h := h.1 b11
    refine V_aload_n hC rfl dX11_next_62 ?_
    refine V_sipush (v := 1000) hC (by decide) dX11_next_63 ?_
    refine pf_11_7 hC ht tw_824 dX11_next_66 ?_
    obtain ⟨M10, eM10⟩ : ∃ z, z = up M2 t 7 1000 := ⟨_, rfl⟩
    replace h := h M10 eM10
    refine V_mem eM10 ?_
    exact V_vret hC h dX11_next_69
set_option maxRecDepth 100000 in
theorem l_Md_next_0 {l : Launch} {X : CX} {g : GX} {w : WX} {fu : Nat} {post : Mm → Prop} (hX : X.2.1 = l) (hC : Cx X g cX11_next 2 RX11 (none) 2) : ∀ (kf : Nat) (t : Nat) (M : Mm) (ht : ok w t 11) (h : f_Md_next_0 fu post kf t M), V X g w 2 0 0 (QV X g w post 0 0) 0 [some (ob g t), none] [] M := by
  intro kf
  induction kf with
  | zero => intro t M ht h; exact absurd h id
  | succ kf ih =>
    intro t M ht h
    rw [f_Md_next_0] at h
    refine V_aload_n hC rfl dX11_next_0 ?_
    refine gf_11_6 hC ht tw_823 dX11_next_1 ?_
    refine V_aload_n hC rfl dX11_next_4 ?_
    refine gf_11_5 hC ht tw_822 dX11_next_5 ?_
    refine V_icmp_ge (tgt := 38) hC dX11_next_8 (by decide) (fun b4 => ?_) (fun b4 => ?_)
    · replace h := h.1 b4
      refine V_sub (us := [some (ob g t), none]) ⟨rfl, trivial⟩ ?_
      exact j_Md_next_38 hX hC t ht h
    · replace h := h.2 b4
      refine V_aload_n hC rfl dX11_next_11 ?_
      refine gf_11_4 hC ht tw_821 dX11_next_12 ?_
      refine V_aload_n hC rfl dX11_next_15 ?_
      refine gf_11_6 hC ht tw_823 dX11_next_16 ?_
      obtain ⟨q1, h⟩ := h
      refine V_iald hC (ok_11_4 ht) q1 dX11_next_19 ?_
      refine V_bipush (v := 32) hC (by decide) dX11_next_20 ?_
      refine V_icmp_ne (tgt := 38) hC dX11_next_22 (by decide) (fun b3 => ?_) (fun b3 => ?_)
      · replace h := h.2 b3
        refine V_sub (us := [some (ob g t), none]) ⟨rfl, trivial⟩ ?_
        exact j_Md_next_38 hX hC t ht h
      · replace h := h.1 b3
        refine V_aload_n hC rfl dX11_next_25 ?_
        refine V_dup hC rfl dX11_next_26 ?_
        refine gf_11_6 hC ht tw_823 dX11_next_27 ?_
        refine V_iconst (v := 1) hC (by decide) dX11_next_30 ?_
        refine V_iadd hC dX11_next_31 ?_
        refine pf_11_6 hC ht tw_823 dX11_next_32 ?_
        obtain ⟨M2, eM2⟩ : ∃ z, z = up M t 6 ((M t 6) + 1) := ⟨_, rfl⟩
        replace h := h M2 eM2
        refine V_mem eM2 ?_
        refine V_goto (tgt := 0) hC (by decide) dX11_next_35 ?_
        refine V_sub (us := [some (ob g t), none]) ⟨rfl, trivial⟩ ?_
        exact ih t M2 ht h
set_option maxRecDepth 100000 in
theorem c_Md_next (l : Launch) (g : GX) (w : WX) (fu : Nat) (post : Mm → Prop) (t : Nat) (M : Mm) (ht : ok w t 11) (h : f_Md_next fu post t M) : Met l yX11_next [Cond.code yX11_next cX11_next 2 (none)] (rmC 2 0 0) (va_Pc [ob g t] (Wb g w M)) (va_Qv post (Wb g w) (Af g)) 0 0 (Af g) := by
  refine Ct_v (by decide) rfl (fun v hv => by simp only [List.mem_cons, List.not_mem_nil, or_false] at hv; rcases hv with rfl <;> rfl) (Nat.le_of_ble_eq_true rfl) (Nat.le_refl _) ?_
  intro X hX _ hC
  unfold f_Md_next at h
  refine V_sub (us := [some (ob g t), none]) ⟨rfl, trivial⟩ ?_
  refine V_sub (us := [some (ob g t), none]) ⟨rfl, trivial⟩ ?_
  exact l_Md_next_0 hX hC fu t M ht h
def f_Md_readDigit (fu : Nat) (post : Int32 → Mm → Prop) (t : Nat) (x1 : Int32) (x2 : Int32) (M : Mm) : Prop :=
  f_Md_next fu (fun M1 => ∀ M2, M2 = up M1 t 10 ((M1 t 7) - 48) → f_Md_in fu (fun r4 M3 => post r4 M3) (M2 t 10) x1 x2 M2) t M
set_option maxRecDepth 100000 in
theorem c_Md_readDigit (l : Launch) (g : GX) (w : WX) (fu : Nat) (post : Int32 → Mm → Prop) (t : Nat) (x1 : Int32) (x2 : Int32) (M : Mm) (ht : ok w t 11) (h : f_Md_readDigit fu post t x1 x2 M) : Met l yX11_readDigit [Cond.code yX11_readDigit cX11_readDigit 3 (some .boolean)] (rmC 3 0 0) (va_Pc [ob g t, .int x1, .int x2] (Wb g w M)) (va_Qi (fun r M => zb r ∧ post r M) (Wb g w) (Af g)) 0 0 (Af g) := by
  refine Ct_i (by decide) rfl (fun v hv => by simp only [List.mem_cons, List.not_mem_nil, or_false] at hv; rcases hv with rfl | rfl | rfl <;> rfl) (Nat.le_of_ble_eq_true rfl) (Nat.le_refl _) ?_
  intro X hX _ hC
  unfold f_Md_readDigit at h
  refine V_sub (us := [some (ob g t), some (.int x1), some (.int x2)]) ⟨rfl, rfl, rfl, trivial⟩ ?_
  refine V_aload_n hC rfl dX11_readDigit_0 ?_
  refine V_callv (As := []) hC (c_Md_next X.2.1 g w fu _ t M ht h) mw_X11_next (by decide) tw_909 ht (by decide) rfl rfl rfl (Nat.le_of_ble_eq_true rfl) ⟨Nat.zero_le _, Nat.zero_le _⟩ dX11_readDigit_1 (fun M1 h => ?_)
  refine V_aload_n hC rfl dX11_readDigit_4 ?_
  refine V_aload_n hC rfl dX11_readDigit_5 ?_
  refine gf_11_7 hC ht tw_824 dX11_readDigit_6 ?_
  refine V_bipush (v := 48) hC (by decide) dX11_readDigit_9 ?_
  refine V_isub hC dX11_readDigit_11 ?_
  refine pf_11_10 hC ht tw_827 dX11_readDigit_12 ?_
  obtain ⟨M2, eM2⟩ : ∃ z, z = up M1 t 10 ((M1 t 7) - 48) := ⟨_, rfl⟩
  replace h := h M2 eM2
  refine V_mem eM2 ?_
  refine V_aload_n hC rfl dX11_readDigit_15 ?_
  refine gf_11_10 hC ht tw_827 dX11_readDigit_16 ?_
  refine V_iload_n hC rfl dX11_readDigit_19 ?_
  refine V_iload_n hC rfl dX11_readDigit_20 ?_
  refine V_scalli (As := [.int (M2 t 10), .int x1, .int x2]) hC (c_Md_in X.2.1 g w fu _ (M2 t 10) x1 x2 M2 h) mw_X11_in (by decide) tw_894 rfl rfl (Nat.le_of_ble_eq_true rfl) ⟨Nat.zero_le _, Nat.zero_le _⟩ dX11_readDigit_21 (fun r4 M3 h => ?_)
  obtain ⟨hzr4, h⟩ := h
  exact V_zret hC hzr4 h dX11_readDigit_24
def f_Md_readState (fu : Nat) (post : Int32 → Mm → Prop) (t : Nat) (M : Mm) : Prop :=
  vp_in 0 (ln (t + 2)) ∧ f_Md_readDigit fu (fun r3 M2 => post r3 M2) t 0 ((M (t + 2) 0) - 1) M
set_option maxRecDepth 100000 in
theorem c_Md_readState (l : Launch) (g : GX) (w : WX) (fu : Nat) (post : Int32 → Mm → Prop) (t : Nat) (M : Mm) (ht : ok w t 11) (h : f_Md_readState fu post t M) : Met l yX11_readState [Cond.code yX11_readState cX11_readState 1 (some .boolean)] (rmC 4 0 0) (va_Pc [ob g t] (Wb g w M)) (va_Qi (fun r M => zb r ∧ post r M) (Wb g w) (Af g)) 0 0 (Af g) := by
  refine Ct_i (by decide) rfl (fun v hv => by simp only [List.mem_cons, List.not_mem_nil, or_false] at hv; rcases hv with rfl <;> rfl) (Nat.le_of_ble_eq_true rfl) (Nat.le_refl _) ?_
  intro X hX _ hC
  unfold f_Md_readState at h
  refine V_sub (us := [some (ob g t)]) ⟨rfl, trivial⟩ ?_
  refine V_aload_n hC rfl dX11_readState_0 ?_
  refine V_iconst (v := 0) hC (by decide) dX11_readState_1 ?_
  refine V_aload_n hC rfl dX11_readState_2 ?_
  refine gf_11_1 hC ht tw_818 dX11_readState_3 ?_
  refine V_iconst (v := 0) hC (by decide) dX11_readState_6 ?_
  obtain ⟨q1, h⟩ := h
  refine V_iaL (j := 0) (by decide) hC (ok_11_1 ht) q1 dX11_readState_7 ?_
  refine V_iconst (v := 1) hC (by decide) dX11_readState_8 ?_
  refine V_isub hC dX11_readState_9 ?_
  refine V_calli (As := [.int 0, .int ((M (t + 2) 0) - 1)]) hC (c_Md_readDigit X.2.1 g w fu _ t 0 ((M (t + 2) 0) - 1) M ht h) mw_X11_readDigit (by decide) tw_924 ht (by decide) rfl rfl rfl (Nat.le_of_ble_eq_true rfl) ⟨Nat.zero_le _, Nat.zero_le _⟩ dX11_readState_10 (fun r3 M2 h => ?_)
  obtain ⟨hzr3, h⟩ := h
  exact V_zret hC hzr3 h dX11_readState_13
def f_Md_readKind_39 (fu : Nat) (post : Int32 → Mm → Prop) (t : Nat) (kx0 : Int32) (M : Mm) : Prop :=
  ((kx0 = 0) → ∀ M1, M1 = up M t 10 (-9) → zb kx0 ∧ post kx0 M1) ∧ (¬ (kx0 = 0) → ∀ M2, M2 = up M t 10 (((mkL (M t 24) (M t 9)).toInt32) - 1) → zb kx0 ∧ post kx0 M2)
def f_Md_readKind_38 (fu : Nat) (post : Int32 → Mm → Prop) (t : Nat) (M : Mm) : Prop :=
  f_Md_readKind_39 fu post t 0 M
def f_Md_readKind (fu : Nat) (post : Int32 → Mm → Prop) (t : Nat) (M : Mm) : Prop :=
  f_Md_next fu (fun M1 => (((M1 t 7) = 1001) → (((lg_cmp (mkL (M1 t 24) (M1 t 9)) 0) ≤ 0) → f_Md_readKind_38 fu post t M1) ∧ (¬ ((lg_cmp (mkL (M1 t 24) (M1 t 9)) 0) ≤ 0) → ((0 < (lg_cmp (mkL (M1 t 24) (M1 t 9)) 6)) → f_Md_readKind_38 fu post t M1) ∧ (¬ (0 < (lg_cmp (mkL (M1 t 24) (M1 t 9)) 6)) → f_Md_readKind_39 fu post t 1 M1))) ∧ (¬ ((M1 t 7) = 1001) → f_Md_readKind_38 fu post t M1)) t M
set_option maxRecDepth 100000 in
theorem j_Md_readKind_39 {l : Launch} {X : CX} {g : GX} {w : WX} {fu : Nat} {post : Int32 → Mm → Prop} (hX : X.2.1 = l) (hC : Cx X g cX11_readKind 2 RX11 (some .boolean) 3) (t : Nat) (kx0 : Int32) {M : Mm} (ht : ok w t 11) (h : f_Md_readKind_39 fu post t kx0 M) : V X g w 2 0 0 (QI X g w (fun r M => zb r ∧ post r M) 0 0) 39 [some (ob g t), none] [.int kx0] M := by
  unfold f_Md_readKind_39 at h
  refine V_istore_n hC (by decide) dX11_readKind_39 ?_
  refine V_aload_n hC rfl dX11_readKind_40 ?_
  refine V_iload_n hC rfl dX11_readKind_41 ?_
  refine V_if_eq (tgt := 55) hC dX11_readKind_42 (by decide) (fun b3 => ?_) (fun b3 => ?_)
  · replace h := h.1 b3
    refine V_bipush (v := (-9)) hC (by decide) dX11_readKind_55 ?_
    refine pf_11_10 hC ht tw_827 dX11_readKind_57 ?_
    obtain ⟨M1, eM1⟩ : ∃ z, z = up M t 10 (-9) := ⟨_, rfl⟩
    replace h := h M1 eM1
    refine V_mem eM1 ?_
    refine V_iload_n hC rfl dX11_readKind_60 ?_
    exact V_zret hC h.1 h.2 dX11_readKind_61
  · replace h := h.2 b3
    refine V_aload_n hC rfl dX11_readKind_45 ?_
    refine gf_11_9 hC ht tw_826 dX11_readKind_46 ?_
    refine V_l2i hC dX11_readKind_49 ?_
    refine V_iconst (v := 1) hC (by decide) dX11_readKind_50 ?_
    refine V_isub hC dX11_readKind_51 ?_
    refine V_goto (tgt := 57) hC (by decide) dX11_readKind_52 ?_
    refine pf_11_10 hC ht tw_827 dX11_readKind_57 ?_
    obtain ⟨M2, eM2⟩ : ∃ z, z = up M t 10 (((mkL (M t 24) (M t 9)).toInt32) - 1) := ⟨_, rfl⟩
    replace h := h M2 eM2
    refine V_mem eM2 ?_
    refine V_iload_n hC rfl dX11_readKind_60 ?_
    exact V_zret hC h.1 h.2 dX11_readKind_61
set_option maxRecDepth 100000 in
theorem j_Md_readKind_38 {l : Launch} {X : CX} {g : GX} {w : WX} {fu : Nat} {post : Int32 → Mm → Prop} (hX : X.2.1 = l) (hC : Cx X g cX11_readKind 2 RX11 (some .boolean) 3) (t : Nat) {M : Mm} (ht : ok w t 11) (h : f_Md_readKind_38 fu post t M) : V X g w 2 0 0 (QI X g w (fun r M => zb r ∧ post r M) 0 0) 38 [some (ob g t), none] [] M := by
  unfold f_Md_readKind_38 at h
  refine V_iconst (v := 0) hC (by decide) dX11_readKind_38 ?_
  refine V_sub (us := [some (ob g t), none]) ⟨rfl, trivial⟩ ?_
  exact j_Md_readKind_39 hX hC t 0 ht h
set_option maxRecDepth 100000 in
theorem c_Md_readKind (l : Launch) (g : GX) (w : WX) (fu : Nat) (post : Int32 → Mm → Prop) (t : Nat) (M : Mm) (ht : ok w t 11) (h : f_Md_readKind fu post t M) : Met l yX11_readKind [Cond.code yX11_readKind cX11_readKind 2 (some .boolean)] (rmC 3 0 0) (va_Pc [ob g t] (Wb g w M)) (va_Qi (fun r M => zb r ∧ post r M) (Wb g w) (Af g)) 0 0 (Af g) := by
  refine Ct_i (by decide) rfl (fun v hv => by simp only [List.mem_cons, List.not_mem_nil, or_false] at hv; rcases hv with rfl <;> rfl) (Nat.le_of_ble_eq_true rfl) (Nat.le_refl _) ?_
  intro X hX _ hC
  unfold f_Md_readKind at h
  refine V_sub (us := [some (ob g t), none]) ⟨rfl, trivial⟩ ?_
  refine V_aload_n hC rfl dX11_readKind_0 ?_
  refine V_callv (As := []) hC (c_Md_next X.2.1 g w fu _ t M ht h) mw_X11_next (by decide) tw_909 ht (by decide) rfl rfl rfl (Nat.le_of_ble_eq_true rfl) ⟨Nat.zero_le _, Nat.zero_le _⟩ dX11_readKind_1 (fun M1 h => ?_)
  refine V_aload_n hC rfl dX11_readKind_4 ?_
  refine gf_11_7 hC ht tw_824 dX11_readKind_5 ?_
  refine V_sipush (v := 1001) hC (by decide) dX11_readKind_8 ?_
  refine V_icmp_ne (tgt := 38) hC dX11_readKind_11 (by decide) (fun b4 => ?_) (fun b4 => ?_)
  · replace h := h.2 b4
    refine V_sub (us := [some (ob g t), none]) ⟨rfl, trivial⟩ ?_
    exact j_Md_readKind_38 hX hC t ht h
  · replace h := h.1 b4
    refine V_aload_n hC rfl dX11_readKind_14 ?_
    refine gf_11_9 hC ht tw_826 dX11_readKind_15 ?_
    refine V_lconst (v := 0) hC (by decide) dX11_readKind_18 ?_
    refine V_lcmp hC dX11_readKind_19 ?_
    refine V_if_le (tgt := 38) hC dX11_readKind_20 (by decide) (fun b3 => ?_) (fun b3 => ?_)
    · replace h := h.1 b3
      refine V_sub (us := [some (ob g t), none]) ⟨rfl, trivial⟩ ?_
      exact j_Md_readKind_38 hX hC t ht h
    · replace h := h.2 b3
      refine V_aload_n hC rfl dX11_readKind_23 ?_
      refine gf_11_9 hC ht tw_826 dX11_readKind_24 ?_
      refine V_ldc2 hC tw_946 dX11_readKind_27 ?_
      refine V_lcmp hC dX11_readKind_30 ?_
      refine V_if_gt (tgt := 38) hC dX11_readKind_31 (by decide) (fun b2 => ?_) (fun b2 => ?_)
      · replace h := h.1 b2
        refine V_sub (us := [some (ob g t), none]) ⟨rfl, trivial⟩ ?_
        exact j_Md_readKind_38 hX hC t ht h
      · replace h := h.2 b2
        refine V_iconst (v := 1) hC (by decide) dX11_readKind_34 ?_
        refine V_goto (tgt := 39) hC (by decide) dX11_readKind_35 ?_
        refine V_sub (us := [some (ob g t), none]) ⟨rfl, trivial⟩ ?_
        exact j_Md_readKind_39 hX hC t 1 ht h
