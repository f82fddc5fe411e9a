def f_SR_setInsertionCost (fu : Nat) (post : Int32 → Mm → Prop) (t : Nat) (x1 : Int32) (x2 : Int32) (M : Mm) : Prop :=
  f_SR_changeCost fu (fun r2 M1 => post r2 M1) t 3 x1 x2 M
set_option maxRecDepth 100000 in
theorem c_SR_setInsertionCost (l : Launch) (g : GX) (w : WX) (fu : Nat) (post : Int32 → Mm → Prop) (t : Nat) (x1 : Int32) (x2 : Int32) (M : Mm) (ht : ok w t 10) (h : f_SR_setInsertionCost fu post t x1 x2 M) : Met l yX10_setInsertionCost [Cond.code yX10_setInsertionCost cX10_setInsertionCost 3 (some .int)] (rmC 6 0 0) (va_Pc [ob g t, .int x1, .int x2] (Wb g w M)) (va_Qi post (Wb g w) (Af g)) 0 0 (Af g) := by
  refine Ct_i (by decide) rfl (fun v hv => by simp only [List.mem_cons, List.not_mem_nil, or_false] at hv; rcases hv with rfl | rfl | rfl <;> rfl) (Nat.le_of_ble_eq_true rfl) (Nat.le_refl _) ?_
  intro X hX _ hC
  unfold f_SR_setInsertionCost at h
  refine V_sub (us := [some (ob g t), some (.int x1), some (.int x2)]) ⟨rfl, rfl, rfl, trivial⟩ ?_
  refine V_aload_n hC rfl dX10_setInsertionCost_0 ?_
  refine V_iconst (v := 3) hC (by decide) dX10_setInsertionCost_1 ?_
  refine V_iload_n hC rfl dX10_setInsertionCost_2 ?_
  refine V_iload_n hC rfl dX10_setInsertionCost_3 ?_
  refine V_calli (As := [.int 3, .int x1, .int x2]) hC (c_SR_changeCost X.2.1 g w fu _ t 3 x1 x2 M ht h) mw_X10_changeCost (by decide) tw_517 ht (by decide) rfl rfl rfl (Nat.le_of_ble_eq_true rfl) ⟨Nat.zero_le _, Nat.zero_le _⟩ dX10_setInsertionCost_4 (fun r2 M1 h => ?_)
  exact V_iret hC h dX10_setInsertionCost_7
def f_SR_setDeletionCost (fu : Nat) (post : Int32 → Mm → Prop) (t : Nat) (x1 : Int32) (x2 : Int32) (M : Mm) : Prop :=
  f_SR_changeCost fu (fun r2 M1 => post r2 M1) t 2 x1 x2 M
set_option maxRecDepth 100000 in
theorem c_SR_setDeletionCost (l : Launch) (g : GX) (w : WX) (fu : Nat) (post : Int32 → Mm → Prop) (t : Nat) (x1 : Int32) (x2 : Int32) (M : Mm) (ht : ok w t 10) (h : f_SR_setDeletionCost fu post t x1 x2 M) : Met l yX10_setDeletionCost [Cond.code yX10_setDeletionCost cX10_setDeletionCost 3 (some .int)] (rmC 6 0 0) (va_Pc [ob g t, .int x1, .int x2] (Wb g w M)) (va_Qi post (Wb g w) (Af g)) 0 0 (Af g) := by
  refine Ct_i (by decide) rfl (fun v hv => by simp only [List.mem_cons, List.not_mem_nil, or_false] at hv; rcases hv with rfl | rfl | rfl <;> rfl) (Nat.le_of_ble_eq_true rfl) (Nat.le_refl _) ?_
  intro X hX _ hC
  unfold f_SR_setDeletionCost at h
  refine V_sub (us := [some (ob g t), some (.int x1), some (.int x2)]) ⟨rfl, rfl, rfl, trivial⟩ ?_
  refine V_aload_n hC rfl dX10_setDeletionCost_0 ?_
  refine V_iconst (v := 2) hC (by decide) dX10_setDeletionCost_1 ?_
  refine V_iload_n hC rfl dX10_setDeletionCost_2 ?_
  refine V_iload_n hC rfl dX10_setDeletionCost_3 ?_
  refine V_calli (As := [.int 2, .int x1, .int x2]) hC (c_SR_changeCost X.2.1 g w fu _ t 2 x1 x2 M ht h) mw_X10_changeCost (by decide) tw_517 ht (by decide) rfl rfl rfl (Nat.le_of_ble_eq_true rfl) ⟨Nat.zero_le _, Nat.zero_le _⟩ dX10_setDeletionCost_4 (fun r2 M1 h => ?_)
  exact V_iret hC h dX10_setDeletionCost_7
def f_SR_setReplacementCost (fu : Nat) (post : Int32 → Mm → Prop) (t : Nat) (x1 : Int32) (x2 : Int32) (M : Mm) : Prop :=
  f_SR_changeCost fu (fun r2 M1 => post r2 M1) t 1 x1 x2 M
set_option maxRecDepth 100000 in
theorem c_SR_setReplacementCost (l : Launch) (g : GX) (w : WX) (fu : Nat) (post : Int32 → Mm → Prop) (t : Nat) (x1 : Int32) (x2 : Int32) (M : Mm) (ht : ok w t 10) (h : f_SR_setReplacementCost fu post t x1 x2 M) : Met l yX10_setReplacementCost [Cond.code yX10_setReplacementCost cX10_setReplacementCost 3 (some .int)] (rmC 6 0 0) (va_Pc [ob g t, .int x1, .int x2] (Wb g w M)) (va_Qi post (Wb g w) (Af g)) 0 0 (Af g) := by
  refine Ct_i (by decide) rfl (fun v hv => by simp only [List.mem_cons, List.not_mem_nil, or_false] at hv; rcases hv with rfl | rfl | rfl <;> rfl) (Nat.le_of_ble_eq_true rfl) (Nat.le_refl _) ?_
  intro X hX _ hC
  unfold f_SR_setReplacementCost at h
  refine V_sub (us := [some (ob g t), some (.int x1), some (.int x2)]) ⟨rfl, rfl, rfl, trivial⟩ ?_
  refine V_aload_n hC rfl dX10_setReplacementCost_0 ?_
  refine V_iconst (v := 1) hC (by decide) dX10_setReplacementCost_1 ?_
  refine V_iload_n hC rfl dX10_setReplacementCost_2 ?_
  refine V_iload_n hC rfl dX10_setReplacementCost_3 ?_
  refine V_calli (As := [.int 1, .int x1, .int x2]) hC (c_SR_changeCost X.2.1 g w fu _ t 1 x1 x2 M ht h) mw_X10_changeCost (by decide) tw_517 ht (by decide) rfl rfl rfl (Nat.le_of_ble_eq_true rfl) ⟨Nat.zero_le _, Nat.zero_le _⟩ dX10_setReplacementCost_4 (fun r2 M1 h => ?_)
  exact V_iret hC h dX10_setReplacementCost_7
def f_Hi_recall_34 (fu : Nat) (post : Mm → Prop) (t : Nat) (M : Mm) : Prop :=
  ∀ M1, M1 = up M t 2 ((M t 2) - 1) → post M1
def f_Hi_recall (fu : Nat) (post : Mm → Prop) (t : Nat) (a1 : Nat) (M : Mm) : Prop :=
  ∀ M1, M1 = up M t 1 ((((M t 1) + 8) - 1) - (((M t 1) + 8) - 1) / 8 * 8) → f_Hi_slotAt fu (fun o3 M2 => (o3 = none → f_Hi_recall_34 fu post t M2) ∧ (∀ c4, o3 = some c4 → f_Si_copyFrom fu (fun M5 => f_Hi_recall_34 fu post t M5) a1 c4 M2)) t (M1 t 1) M1
set_option maxRecDepth 100000 in
theorem j_Hi_recall_34 {l : Launch} {X : CX} {g : GX} {w : WX} {fu : Nat} {post : Mm → Prop} (hX : X.2.1 = l) (hC : Cx X g cX4_recall 3 RX4 (none) 3) (t : Nat) {M : Mm} (ht : ok w t 4) (h : f_Hi_recall_34 fu post t M) : V X g w 3 0 0 (QV X g w post 0 0) 34 [some (ob g t), none, none] [] M := by
  unfold f_Hi_recall_34 at h
  refine V_aload_n hC rfl dX4_recall_34 ?_
  refine V_dup hC rfl dX4_recall_35 ?_
  refine gf_4_2 hC ht tw_129 dX4_recall_36 ?_
  refine V_iconst (v := 1) hC (by decide) dX4_recall_39 ?_
  refine V_isub hC dX4_recall_40 ?_
  refine pf_4_2 hC ht tw_129 dX4_recall_41 ?_
  obtain ⟨M1, eM1⟩ : ∃ z, z = up M t 2 ((M t 2) - 1) := ⟨_, rfl⟩
  replace h := h M1 eM1
  refine V_mem eM1 ?_
  exact V_vret hC h dX4_recall_44
set_option maxRecDepth 100000 in
theorem c_Hi_recall (l : Launch) (g : GX) (w : WX) (fu : Nat) (post : Mm → Prop) (t : Nat) (a1 : Nat) (M : Mm) (ht : ok w t 4) (ha1 : ok w a1 8) (h : f_Hi_recall fu post t a1 M) : Met l yX4_recall [Cond.code yX4_recall cX4_recall 3 (none)] (rmC 3 0 0) (va_Pc [ob g t, ob g a1] (Wb g w M)) (va_Qv post (Wb g w) (Af g)) 0 0 (Af g) := by
  refine Ct_v (by decide) rfl (fun v hv => by simp only [List.mem_cons, List.not_mem_nil, or_false] at hv; rcases hv with rfl | rfl <;> rfl) (Nat.le_of_ble_eq_true rfl) (Nat.le_refl _) ?_
  intro X hX _ hC
  unfold f_Hi_recall at h
  refine V_sub (us := [some (ob g t), some (ob g a1), none]) ⟨rfl, rfl, trivial⟩ ?_
  refine V_aload_n hC rfl dX4_recall_0 ?_
  refine V_aload_n hC rfl dX4_recall_1 ?_
  refine gf_4_1 hC ht tw_128 dX4_recall_2 ?_
  refine V_bipush (v := 8) hC (by decide) dX4_recall_5 ?_
  refine V_iadd hC dX4_recall_7 ?_
  refine V_iconst (v := 1) hC (by decide) dX4_recall_8 ?_
  refine V_isub hC dX4_recall_9 ?_
  refine V_bipush (v := 8) hC (by decide) dX4_recall_10 ?_
  refine V_irem hC (by decide) dX4_recall_12 ?_
  refine pf_4_1 hC ht tw_128 dX4_recall_13 ?_
  obtain ⟨M1, eM1⟩ : ∃ z, z = up M t 1 ((((M t 1) + 8) - 1) - (((M t 1) + 8) - 1) / 8 * 8) := ⟨_, rfl⟩
  replace h := h M1 eM1
  refine V_mem eM1 ?_
  refine V_aload_n hC rfl dX4_recall_16 ?_
  refine V_aload_n hC rfl dX4_recall_17 ?_
  refine gf_4_1 hC ht tw_128 dX4_recall_18 ?_
  refine V_callo (As := [.int (M1 t 1)]) hC (c_Hi_slotAt X.2.1 g w fu _ t (M1 t 1) M1 ht h) mw_X4_slotAt (by decide) tw_440 ht (by decide) rfl rfl rfl (Nat.le_of_ble_eq_true rfl) ⟨Nat.zero_le _, Nat.zero_le _⟩ dX4_recall_21 (fun o3 M2 h => ?_)
  obtain ⟨hoo3, h⟩ := h
  cases ec4 : o3 with
  | none =>
    replace h := h.1 ec4
    refine V_astore_n0 hC (by decide) dX4_recall_24 ?_
    refine V_aload_n0 hC rfl dX4_recall_25 ?_
    refine V_ifnull_n (tgt := 34) hC (by decide) dX4_recall_26 ?_
    refine V_sub (us := [some (ob g t), none, none]) ⟨rfl, trivial⟩ ?_
    exact j_Hi_recall_34 hX hC t ht h
  | some c4 =>
    replace h := h.2 c4 ec4
    have hc4 := hoo3 c4 ec4
    refine V_astore_n hC (by decide) dX4_recall_24 ?_
    refine V_aload_n hC rfl dX4_recall_25 ?_
    refine V_ifnull_s hC dX4_recall_26 ?_
    refine V_aload_n hC rfl dX4_recall_29 ?_
    refine V_aload_n hC rfl dX4_recall_30 ?_
    refine V_callv (As := [ob g c4]) hC (c_Si_copyFrom X.2.1 g w fu _ a1 c4 M2 ha1 hc4 h) mw_X8_copyFrom (by decide) tw_444 ha1 (by decide) rfl rfl rfl (Nat.le_of_ble_eq_true rfl) ⟨Nat.zero_le _, Nat.zero_le _⟩ dX4_recall_31 (fun M5 h => ?_)
    refine V_sub (us := [some (ob g t), none, none]) ⟨rfl, trivial⟩ ?_
    exact j_Hi_recall_34 hX hC t ht h
def f_SR_undo (fu : Nat) (post : Int32 → Mm → Prop) (t : Nat) (M : Mm) : Prop :=
  (((M (t + 11) 2) = 0) → post (-2) M) ∧ (¬ ((M (t + 11) 2) = 0) → f_Hi_recall fu (fun M1 => f_SR_forgetTables fu (fun M2 => post (M2 (t + 11) 2) M2) t M1) (t + 11) (t + 1) M)
set_option maxRecDepth 100000 in
theorem c_SR_undo (l : Launch) (g : GX) (w : WX) (fu : Nat) (post : Int32 → Mm → Prop) (t : Nat) (M : Mm) (ht : ok w t 10) (h : f_SR_undo fu post t M) : Met l yX10_undo [Cond.code yX10_undo cX10_undo 1 (some .int)] (rmC 4 0 0) (va_Pc [ob g t] (Wb g w M)) (va_Qi post (Wb g w) (Af g)) 0 0 (Af g) := by
  refine Ct_i (by decide) rfl (fun v hv => by simp only [List.mem_cons, List.not_mem_nil, or_false] at hv; rcases hv with rfl <;> rfl) (Nat.le_of_ble_eq_true rfl) (Nat.le_refl _) ?_
  intro X hX _ hC
  unfold f_SR_undo at h
  refine V_sub (us := [some (ob g t)]) ⟨rfl, trivial⟩ ?_
  refine V_aload_n hC rfl dX10_undo_0 ?_
  refine gf_10_1 hC ht tw_269 dX10_undo_1 ?_
  refine gfN_4_2 hC (ok_10_1 ht) tw_130 dX10_undo_4 ?_
  refine V_if_ne (tgt := 13) hC dX10_undo_7 (by decide) (fun b3 => ?_) (fun b3 => ?_)
  · replace h := h.2 b3
    refine V_aload_n hC rfl dX10_undo_13 ?_
    refine gf_10_1 hC ht tw_269 dX10_undo_14 ?_
    refine V_aload_n hC rfl dX10_undo_17 ?_
    refine gf_10_0 hC ht tw_268 dX10_undo_18 ?_
    refine V_callv (As := [ob g (t + 1)]) hC (c_Hi_recall X.2.1 g w fu _ (t + 11) (t + 1) M (ok_10_1 ht) (ok_10_0 ht) h) mw_X4_recall (by decide) tw_539 (ok_10_1 ht) (by decide) rfl rfl rfl (Nat.le_of_ble_eq_true rfl) ⟨Nat.zero_le _, Nat.zero_le _⟩ dX10_undo_21 (fun M1 h => ?_)
    refine V_aload_n hC rfl dX10_undo_24 ?_
    refine V_callv (As := []) hC (c_SR_forgetTables X.2.1 g w fu _ t M1 ht h) mw_X10_forgetTables (by decide) tw_468 ht (by decide) rfl rfl rfl (Nat.le_of_ble_eq_true rfl) ⟨Nat.zero_le _, Nat.zero_le _⟩ dX10_undo_25 (fun M2 h => ?_)
    refine V_aload_n hC rfl dX10_undo_28 ?_
    refine gf_10_1 hC ht tw_269 dX10_undo_29 ?_
    refine gfN_4_2 hC (ok_10_1 ht) tw_130 dX10_undo_32 ?_
    exact V_iret hC h dX10_undo_35
  · replace h := h.1 b3
    refine V_bipush (v := (-2)) hC (by decide) dX10_undo_10 ?_
    exact V_iret hC h dX10_undo_12
def f_SR_stateCount (fu : Nat) (post : Int32 → Mm → Prop) (t : Nat) (M : Mm) : Prop :=
  post (M (t + 2) 4) M
set_option maxRecDepth 100000 in
theorem c_SR_stateCount (l : Launch) (g : GX) (w : WX) (fu : Nat) (post : Int32 → Mm → Prop) (t : Nat) (M : Mm) (ht : ok w t 10) (h : f_SR_stateCount fu post t M) : Met l yX10_stateCount [Cond.code yX10_stateCount cX10_stateCount 1 (some .int)] (rmC 0 0 0) (va_Pc [ob g t] (Wb g w M)) (va_Qi post (Wb g w) (Af g)) 0 0 (Af g) := by
  refine Ct_i (by decide) rfl (fun v hv => by simp only [List.mem_cons, List.not_mem_nil, or_false] at hv; rcases hv with rfl <;> rfl) (Nat.le_of_ble_eq_true rfl) (Nat.le_refl _) ?_
  intro X hX _ hC
  unfold f_SR_stateCount at h
  refine V_sub (us := [some (ob g t)]) ⟨rfl, trivial⟩ ?_
  refine V_aload_n hC rfl dX10_stateCount_0 ?_
  refine gf_10_0 hC ht tw_268 dX10_stateCount_1 ?_
  refine gfN_8_0 hC (ok_10_0 ht) tw_99 dX10_stateCount_4 ?_
  refine gfN_0_4 hC (ok_8_0 (ok_10_0 ht)) tw_44 dX10_stateCount_7 ?_
  exact V_iret hC h dX10_stateCount_10
def f_Au_accepts (fu : Nat) (post : Int32 → Mm → Prop) (t : Nat) (x1 : Int32) (M : Mm) : Prop :=
  f_SR_at fu (fun r2 M1 => ((r2 = 1) → post 1 M1) ∧ (¬ (r2 = 1) → post 0 M1)) (t + 1) x1 M
set_option maxRecDepth 100000 in
theorem c_Au_accepts (l : Launch) (g : GX) (w : WX) (fu : Nat) (post : Int32 → Mm → Prop) (t : Nat) (x1 : Int32) (M : Mm) (ht : ok w t 0) (h : f_Au_accepts fu post t x1 M) : Met l yX0_accepts [Cond.code yX0_accepts cX0_accepts 2 (some .boolean)] (rmC 1 0 0) (va_Pc [ob g t, .int x1] (Wb g w M)) (va_Qi (fun r M => zb r ∧ post r M) (Wb g w) (Af g)) 0 0 (Af g) := by
  refine Ct_i (by decide) rfl (fun v hv => by simp only [List.mem_cons, List.not_mem_nil, or_false] at hv; rcases hv with rfl | rfl <;> rfl) (Nat.le_of_ble_eq_true rfl) (Nat.le_refl _) ?_
  intro X hX _ hC
  unfold f_Au_accepts at h
  refine V_sub (us := [some (ob g t), some (.int x1)]) ⟨rfl, rfl, trivial⟩ ?_
  refine V_aload_n hC rfl dX0_accepts_0 ?_
  refine gf_0_0 hC ht tw_38 dX0_accepts_1 ?_
  refine V_iload_n hC rfl dX0_accepts_4 ?_
  refine V_scalliN (As := [ob g (t + 1), .int x1]) hC (c_SR_at X.2.1 g w fu _ (t + 1) x1 M (ok_0_0 ht) h) mw_X10_at (by decide) tw_419 rfl rfl (Nat.le_of_ble_eq_true rfl) ⟨Nat.zero_le _, Nat.zero_le _⟩ dX0_accepts_5 (fun r2 M1 h => ?_)
  refine V_iconst (v := 1) hC (by decide) dX0_accepts_8 ?_
  refine V_icmp_ne (tgt := 16) hC dX0_accepts_9 (by decide) (fun b3 => ?_) (fun b3 => ?_)
  · replace h := h.2 b3
    refine V_iconst (v := 0) hC (by decide) dX0_accepts_16 ?_
    exact V_zret hC (Or.inl rfl) h dX0_accepts_17
  · replace h := h.1 b3
    refine V_iconst (v := 1) hC (by decide) dX0_accepts_12 ?_
    refine V_goto (tgt := 17) hC (by decide) dX0_accepts_13 ?_
    exact V_zret hC (Or.inr rfl) h dX0_accepts_17
def f_SR_isAccepting (fu : Nat) (post : Int32 → Mm → Prop) (t : Nat) (x1 : Int32) (M : Mm) : Prop :=
  ((x1 < 0) → post (-1) M) ∧ (¬ (x1 < 0) → ((x1 < 6) → f_Au_accepts fu (fun r2 M1 => ((r2 = 0) → post 0 M1) ∧ (¬ (r2 = 0) → post 1 M1)) (t + 2) x1 M) ∧ (¬ (x1 < 6) → post (-1) M))
set_option maxRecDepth 100000 in
theorem c_SR_isAccepting (l : Launch) (g : GX) (w : WX) (fu : Nat) (post : Int32 → Mm → Prop) (t : Nat) (x1 : Int32) (M : Mm) (ht : ok w t 10) (h : f_SR_isAccepting fu post t x1 M) : Met l yX10_isAccepting [Cond.code yX10_isAccepting cX10_isAccepting 2 (some .int)] (rmC 2 0 0) (va_Pc [ob g t, .int x1] (Wb g w M)) (va_Qi post (Wb g w) (Af g)) 0 0 (Af g) := by
  refine Ct_i (by decide) rfl (fun v hv => by simp only [List.mem_cons, List.not_mem_nil, or_false] at hv; rcases hv with rfl | rfl <;> rfl) (Nat.le_of_ble_eq_true rfl) (Nat.le_refl _) ?_
  intro X hX _ hC
  unfold f_SR_isAccepting at h
  refine V_sub (us := [some (ob g t), some (.int x1)]) ⟨rfl, rfl, trivial⟩ ?_
  refine V_iload_n hC rfl dX10_isAccepting_0 ?_
  refine V_if_lt (tgt := 10) hC dX10_isAccepting_1 (by decide) (fun b5 => ?_) (fun b5 => ?_)
  · replace h := h.1 b5
    refine V_iconst (v := (-1)) hC (by decide) dX10_isAccepting_10 ?_
    exact V_iret hC h dX10_isAccepting_11
  · replace h := h.2 b5
    refine V_iload_n hC rfl dX10_isAccepting_4 ?_
    refine V_bipush (v := 6) hC (by decide) dX10_isAccepting_5 ?_
    refine V_icmp_lt (tgt := 12) hC dX10_isAccepting_7 (by decide) (fun b4 => ?_) (fun b4 => ?_)
    · replace h := h.1 b4
      refine V_aload_n hC rfl dX10_isAccepting_12 ?_
      refine gf_10_0 hC ht tw_268 dX10_isAccepting_13 ?_
      refine gfN_8_0 hC (ok_10_0 ht) tw_99 dX10_isAccepting_16 ?_
      refine V_iload_n hC rfl dX10_isAccepting_19 ?_
      refine V_calli (As := [.int x1]) hC (c_Au_accepts X.2.1 g w fu _ (t + 2) x1 M (ok_8_0 (ok_10_0 ht)) h) mw_X0_accepts (by decide) tw_551 (ok_8_0 (ok_10_0 ht)) (by decide) rfl rfl rfl (Nat.le_of_ble_eq_true rfl) ⟨Nat.zero_le _, Nat.zero_le _⟩ dX10_isAccepting_20 (fun r2 M1 h => ?_)
      obtain ⟨hzr2, h⟩ := h
      refine V_if_eq (tgt := 30) hC dX10_isAccepting_23 (by decide) (fun b3 => ?_) (fun b3 => ?_)
      · replace h := h.1 b3
        refine V_iconst (v := 0) hC (by decide) dX10_isAccepting_30 ?_
        exact V_iret hC h dX10_isAccepting_31
      · replace h := h.2 b3
        refine V_iconst (v := 1) hC (by decide) dX10_isAccepting_26 ?_
        refine V_goto (tgt := 31) hC (by decide) dX10_isAccepting_27 ?_
        exact V_iret hC h dX10_isAccepting_31
    · replace h := h.2 b4
      refine V_iconst (v := (-1)) hC (by decide) dX10_isAccepting_10 ?_
      exact V_iret hC h dX10_isAccepting_11
def f_Au_countRules_4 (fu : Nat) (post : Int32 → Mm → Prop) : Nat → Nat → Int32 → Int32 → Mm → Prop
  | 0, _, _, _, _ => False
  | kf + 1, t, x1, x2, M =>
    (((nI (ln (t + 2))) ≤ x2) → post x1 M) ∧ (¬ ((nI (ln (t + 2))) ≤ x2) → vp_in x2 (ln (t + 2)) ∧ (((M (t + 2) x2.toNatClampNeg) = 0) → ∀ y2, y2 = x2 + 1 → f_Au_countRules_4 fu post kf t x1 y2 M) ∧ (¬ ((M (t + 2) x2.toNatClampNeg) = 0) → ∀ y3, y3 = x1 + 1 → ∀ y4, y4 = x2 + 1 → f_Au_countRules_4 fu post kf t y3 y4 M))
def f_Au_countRules (fu : Nat) (post : Int32 → Mm → Prop) (t : Nat) (M : Mm) : Prop :=
  f_Au_countRules_4 fu post fu t 0 0 M
set_option maxRecDepth 100000 in
theorem l_Au_countRules_4 {l : Launch} {X : CX} {g : GX} {w : WX} {fu : Nat} {post : Int32 → Mm → Prop} (hX : X.2.1 = l) (hC : Cx X g cX0_countRules 3 RX0 (some .int) 0) : ∀ (kf : Nat) (t : Nat) (x1 : Int32) (x2 : Int32) (M : Mm) (ht : ok w t 0) (h : f_Au_countRules_4 fu post kf t x1 x2 M), V X g w 3 0 0 (QI X g w post 0 0) 4 [some (ob g t), some (.int x1), some (.int x2)] [] M := by
  intro kf
  induction kf with
  | zero => intro t x1 x2 M ht h; exact absurd h id
  | succ kf ih =>
    intro t x1 x2 M ht h
    rw [f_Au_countRules_4] at h
    refine V_iload_n hC rfl dX0_countRules_4 ?_
    refine V_aload_n hC rfl dX0_countRules_5 ?_
    refine gf_0_1 hC ht tw_39 dX0_countRules_6 ?_
    refine V_alen hC (ok_0_1 ht) rfl dX0_countRules_9 ?_
    refine V_icmp_ge (tgt := 31) hC dX0_countRules_10 (by decide) (fun b6 => ?_) (fun b6 => ?_)
    · replace h := h.1 b6
      refine V_iload_n hC rfl dX0_countRules_31 ?_
      exact V_iret hC h dX0_countRules_32
    · replace h := h.2 b6
      refine V_aload_n hC rfl dX0_countRules_13 ?_
      refine gf_0_1 hC ht tw_39 dX0_countRules_14 ?_
      refine V_iload_n hC rfl dX0_countRules_17 ?_
      obtain ⟨q1, h⟩ := h
      refine V_iald hC (ok_0_1 ht) q1 dX0_countRules_18 ?_
      refine V_if_eq (tgt := 25) hC dX0_countRules_19 (by decide) (fun b5 => ?_) (fun b5 => ?_)
      · replace h := h.1 b5
        obtain ⟨y2, ey2⟩ : ∃ z, z = x2 + 1 := ⟨_, rfl⟩
        replace h := h y2 ey2
        refine V_iinc (v := y2) hC rfl (by rw [ey2]; rfl) (by decide) dX0_countRules_25 ?_
        refine V_goto (tgt := 4) hC (by decide) dX0_countRules_28 ?_
        refine V_sub (us := [some (ob g t), some (.int x1), some (.int y2)]) ⟨rfl, rfl, rfl, trivial⟩ ?_
        exact ih t x1 y2 M ht h
      · replace h := h.2 b5
        obtain ⟨y3, ey3⟩ : ∃ z, z = x1 + 1 := ⟨_, rfl⟩
        replace h := h y3 ey3
        refine V_iinc (v := y3) hC rfl (by rw [ey3]; rfl) (by decide) dX0_countRules_22 ?_
        obtain ⟨y4, ey4⟩ : ∃ z, z = x2 + 1 := ⟨_, rfl⟩
        replace h := h y4 ey4
        refine V_iinc (v := y4) hC rfl (by rw [ey4]; rfl) (by decide) dX0_countRules_25 ?_
        refine V_goto (tgt := 4) hC (by decide) dX0_countRules_28 ?_
        refine V_sub (us := [some (ob g t), some (.int y3), some (.int y4)]) ⟨rfl, rfl, rfl, trivial⟩ ?_
        exact ih t y3 y4 M ht h
set_option maxRecDepth 100000 in
theorem c_Au_countRules (l : Launch) (g : GX) (w : WX) (fu : Nat) (post : Int32 → Mm → Prop) (t : Nat) (M : Mm) (ht : ok w t 0) (h : f_Au_countRules fu post t M) : Met l yX0_countRules [Cond.code yX0_countRules cX0_countRules 3 (some .int)] (rmC 0 0 0) (va_Pc [ob g t] (Wb g w M)) (va_Qi post (Wb g w) (Af g)) 0 0 (Af g) := by
  refine Ct_i (by decide) rfl (fun v hv => by simp only [List.mem_cons, List.not_mem_nil, or_false] at hv; rcases hv with rfl <;> rfl) (Nat.le_of_ble_eq_true rfl) (Nat.le_refl _) ?_
  intro X hX _ hC
  unfold f_Au_countRules at h
  refine V_sub (us := [some (ob g t), none, none]) ⟨rfl, trivial⟩ ?_
  refine V_iconst (v := 0) hC (by decide) dX0_countRules_0 ?_
  refine V_istore_n hC (by decide) dX0_countRules_1 ?_
  refine V_iconst (v := 0) hC (by decide) dX0_countRules_2 ?_
  refine V_istore_n hC (by decide) dX0_countRules_3 ?_
  refine V_sub (us := [some (ob g t), some (.int 0), some (.int 0)]) ⟨rfl, rfl, rfl, trivial⟩ ?_
  exact l_Au_countRules_4 hX hC fu t 0 0 M ht h
def f_SR_ruleCount (fu : Nat) (post : Int32 → Mm → Prop) (t : Nat) (M : Mm) : Prop :=
  f_Au_countRules fu (fun r2 M1 => post r2 M1) (t + 2) M
set_option maxRecDepth 100000 in
theorem c_SR_ruleCount (l : Launch) (g : GX) (w : WX) (fu : Nat) (post : Int32 → Mm → Prop) (t : Nat) (M : Mm) (ht : ok w t 10) (h : f_SR_ruleCount fu post t M) : Met l yX10_ruleCount [Cond.code yX10_ruleCount cX10_ruleCount 1 (some .int)] (rmC 1 0 0) (va_Pc [ob g t] (Wb g w M)) (va_Qi post (Wb g w) (Af g)) 0 0 (Af g) := by
  refine Ct_i (by decide) rfl (fun v hv => by simp only [List.mem_cons, List.not_mem_nil, or_false] at hv; rcases hv with rfl <;> rfl) (Nat.le_of_ble_eq_true rfl) (Nat.le_refl _) ?_
  intro X hX _ hC
  unfold f_SR_ruleCount at h
  refine V_sub (us := [some (ob g t)]) ⟨rfl, trivial⟩ ?_
  refine V_aload_n hC rfl dX10_ruleCount_0 ?_
  refine gf_10_0 hC ht tw_268 dX10_ruleCount_1 ?_
  refine gfN_8_0 hC (ok_10_0 ht) tw_99 dX10_ruleCount_4 ?_
  refine V_calli (As := []) hC (c_Au_countRules X.2.1 g w fu _ (t + 2) M (ok_8_0 (ok_10_0 ht)) h) mw_X0_countRules (by decide) tw_559 (ok_8_0 (ok_10_0 ht)) (by decide) rfl rfl rfl (Nat.le_of_ble_eq_true rfl) ⟨Nat.zero_le _, Nat.zero_le _⟩ dX10_ruleCount_7 (fun r2 M1 h => ?_)
  exact V_iret hC h dX10_ruleCount_10
def f_SR_tokenCount (fu : Nat) (post : Int32 → Mm → Prop) (t : Nat) (M : Mm) : Prop :=
  post (M (t + 9) 1) M
set_option maxRecDepth 100000 in
theorem c_SR_tokenCount (l : Launch) (g : GX) (w : WX) (fu : Nat) (post : Int32 → Mm → Prop) (t : Nat) (M : Mm) (ht : ok w t 10) (h : f_SR_tokenCount fu post t M) : Met l yX10_tokenCount [Cond.code yX10_tokenCount cX10_tokenCount 1 (some .int)] (rmC 0 0 0) (va_Pc [ob g t] (Wb g w M)) (va_Qi post (Wb g w) (Af g)) 0 0 (Af g) := by
  refine Ct_i (by decide) rfl (fun v hv => by simp only [List.mem_cons, List.not_mem_nil, or_false] at hv; rcases hv with rfl <;> rfl) (Nat.le_of_ble_eq_true rfl) (Nat.le_refl _) ?_
  intro X hX _ hC
  unfold f_SR_tokenCount at h
  refine V_sub (us := [some (ob g t)]) ⟨rfl, trivial⟩ ?_
  refine V_aload_n hC rfl dX10_tokenCount_0 ?_
  refine gf_10_0 hC ht tw_268 dX10_tokenCount_1 ?_
  refine gfN_8_2 hC (ok_10_0 ht) tw_109 dX10_tokenCount_4 ?_
  refine gfN_9_1 hC (ok_8_2 (ok_10_0 ht)) tw_91 dX10_tokenCount_7 ?_
  exact V_iret hC h dX10_tokenCount_10
def f_SR_tokenAt (fu : Nat) (post : Int32 → Mm → Prop) (t : Nat) (x1 : Int32) (M : Mm) : Prop :=
  f_SR_isToken fu (fun r2 M1 => ((r2 = 0) → post (-1) M1) ∧ (¬ (r2 = 0) → f_To_kindAt fu (fun r4 M3 => post r4 M3) (t + 9) x1 M1)) t x1 M
set_option maxRecDepth 100000 in
theorem c_SR_tokenAt (l : Launch) (g : GX) (w : WX) (fu : Nat) (post : Int32 → Mm → Prop) (t : Nat) (x1 : Int32) (M : Mm) (ht : ok w t 10) (h : f_SR_tokenAt fu post t x1 M) : Met l yX10_tokenAt [Cond.code yX10_tokenAt cX10_tokenAt 2 (some .int)] (rmC 1 0 0) (va_Pc [ob g t, .int x1] (Wb g w M)) (va_Qi post (Wb g w) (Af g)) 0 0 (Af g) := by
  refine Ct_i (by decide) rfl (fun v hv => by simp only [List.mem_cons, List.not_mem_nil, or_false] at hv; rcases hv with rfl | rfl <;> rfl) (Nat.le_of_ble_eq_true rfl) (Nat.le_refl _) ?_
  intro X hX _ hC
  unfold f_SR_tokenAt at h
  refine V_sub (us := [some (ob g t), some (.int x1)]) ⟨rfl, rfl, trivial⟩ ?_
  refine V_aload_n hC rfl dX10_tokenAt_0 ?_
  refine V_iload_n hC rfl dX10_tokenAt_1 ?_
  refine V_calli (As := [.int x1]) hC (c_SR_isToken X.2.1 g w fu _ t x1 M ht h) mw_X10_isToken (by decide) tw_497 ht (by decide) rfl rfl rfl (Nat.le_of_ble_eq_true rfl) ⟨Nat.zero_le _, Nat.zero_le _⟩ dX10_tokenAt_2 (fun r2 M1 h => ?_)
  obtain ⟨hzr2, h⟩ := h
  refine V_if_eq (tgt := 22) hC dX10_tokenAt_5 (by decide) (fun b5 => ?_) (fun b5 => ?_)
  · replace h := h.1 b5
    refine V_iconst (v := (-1)) hC (by decide) dX10_tokenAt_22 ?_
    exact V_iret hC h dX10_tokenAt_23
  · replace h := h.2 b5
    refine V_aload_n hC rfl dX10_tokenAt_8 ?_
    refine gf_10_0 hC ht tw_268 dX10_tokenAt_9 ?_
    refine gfN_8_2 hC (ok_10_0 ht) tw_109 dX10_tokenAt_12 ?_
    refine V_iload_n hC rfl dX10_tokenAt_15 ?_
    refine V_calli (As := [.int x1]) hC (c_To_kindAt X.2.1 g w fu _ (t + 9) x1 M1 (ok_8_2 (ok_10_0 ht)) h) mw_X9_kindAt (by decide) tw_571 (ok_8_2 (ok_10_0 ht)) (by decide) rfl rfl rfl (Nat.le_of_ble_eq_true rfl) ⟨Nat.zero_le _, Nat.zero_le _⟩ dX10_tokenAt_16 (fun r4 M3 h => ?_)
    refine V_goto (tgt := 23) hC (by decide) dX10_tokenAt_19 ?_
    exact V_iret hC h dX10_tokenAt_23
def f_Cu_toStart (fu : Nat) (post : Mm → Prop) (t : Nat) (M : Mm) : Prop :=
  ∀ M1, M1 = up M t 0 0 → ∀ M2, M2 = up M1 t 1 1 → post M2
set_option maxRecDepth 100000 in
theorem c_Cu_toStart (l : Launch) (g : GX) (w : WX) (fu : Nat) (post : Mm → Prop) (t : Nat) (M : Mm) (ht : ok w t 2) (h : f_Cu_toStart fu post t M) : Met l yX2_toStart [Cond.code yX2_toStart cX2_toStart 1 (none)] (rmC 0 0 0) (va_Pc [ob g t] (Wb g w M)) (va_Qv post (Wb g w) (Af g)) 0 0 (Af g) := by
  refine Ct_v (by decide) rfl (fun v hv => by simp only [List.mem_cons, List.not_mem_nil, or_false] at hv; rcases hv with rfl <;> rfl) (Nat.le_of_ble_eq_true rfl) (Nat.le_refl _) ?_
  intro X hX _ hC
  unfold f_Cu_toStart at h
  refine V_sub (us := [some (ob g t)]) ⟨rfl, trivial⟩ ?_
  refine V_aload_n hC rfl dX2_toStart_0 ?_
  refine V_iconst (v := 0) hC (by decide) dX2_toStart_1 ?_
  refine pf_2_0 hC ht tw_252 dX2_toStart_2 ?_
  obtain ⟨M1, eM1⟩ : ∃ z, z = up M t 0 0 := ⟨_, rfl⟩
  replace h := h M1 eM1
  refine V_mem eM1 ?_
  refine V_aload_n hC rfl dX2_toStart_5 ?_
  refine V_iconst (v := 1) hC (by decide) dX2_toStart_6 ?_
  refine pf_2_1 hC ht tw_255 dX2_toStart_7 ?_
  obtain ⟨M2, eM2⟩ : ∃ z, z = up M1 t 1 1 := ⟨_, rfl⟩
  replace h := h M2 eM2
  refine V_mem eM2 ?_
  exact V_vret hC h dX2_toStart_10
def f_Au_after (fu : Nat) (post : Int32 → Mm → Prop) (t : Nat) (x1 : Int32) (x2 : Int32) (M : Mm) : Prop :=
  ((x1 < 0) → post (-1) M) ∧ (¬ (x1 < 0) → ((96 ≤ x1) → post (-1) M) ∧ (¬ (96 ≤ x1) → f_SR_isKind fu (fun r2 M1 => ((r2 = 0) → post (-1) M1) ∧ (¬ (r2 = 0) → ∀ y3, y3 = (((x1 / 16) * 6) + x2) → ∀ y4, y4 = (x1 - x1 / 16 * 16) → f_SR_at fu (fun r6 M5 => ∀ y7, y7 = (r6 * 16) → f_SR_at fu (fun r9 M8 => f_SR_at fu (fun r11 M10 => (r11 = 1 → post (y7 + y4) M10) ∧ (r11 = 2 → ((8 ≤ y4) → post (-1) M10) ∧ (¬ (8 ≤ y4) → post ((y7 + (y4 * 2)) + r9) M10)) ∧ (r11 = 3 → ((y4 ≤ 1) → post (-1) M10) ∧ (¬ (y4 ≤ 1) → (((y4 - y4 / 2 * 2) = r9) → post (y7 + (y4 / 2)) M10) ∧ (¬ ((y4 - y4 / 2 * 2) = r9) → post (-1) M10))) ∧ (¬ r11 = 1 → ¬ r11 = 2 → ¬ r11 = 3 → post (-1) M10)) (t + 2) y3 M8) (t + 4) y3 M5) (t + 3) y3 M1)) x2 M))
set_option maxRecDepth 100000 in
theorem c_Au_after (l : Launch) (g : GX) (w : WX) (fu : Nat) (post : Int32 → Mm → Prop) (t : Nat) (x1 : Int32) (x2 : Int32) (M : Mm) (ht : ok w t 0) (h : f_Au_after fu post t x1 x2 M) : Met l yX0_after [Cond.code yX0_after cX0_after 7 (some .int)] (rmC 1 0 0) (va_Pc [ob g t, .int x1, .int x2] (Wb g w M)) (va_Qi post (Wb g w) (Af g)) 0 0 (Af g) := by
  refine Ct_i (by decide) rfl (fun v hv => by simp only [List.mem_cons, List.not_mem_nil, or_false] at hv; rcases hv with rfl | rfl | rfl <;> rfl) (Nat.le_of_ble_eq_true rfl) (Nat.le_refl _) ?_
  intro X hX _ hC
  unfold f_Au_after at h
  refine V_sub (us := [some (ob g t), some (.int x1), some (.int x2), none, none, none, none]) ⟨rfl, rfl, rfl, trivial⟩ ?_
  refine V_iload_n hC rfl dX0_after_0 ?_
  refine V_if_lt (tgt := 17) hC dX0_after_1 (by decide) (fun b20 => ?_) (fun b20 => ?_)
  · replace h := h.1 b20
    refine V_iconst (v := (-1)) hC (by decide) dX0_after_17 ?_
    exact V_iret hC h dX0_after_18
  · replace h := h.2 b20
    refine V_iload_n hC rfl dX0_after_4 ?_
    refine V_bipush (v := 96) hC (by decide) dX0_after_5 ?_
    refine V_icmp_ge (tgt := 17) hC dX0_after_7 (by decide) (fun b19 => ?_) (fun b19 => ?_)
    · replace h := h.1 b19
      refine V_iconst (v := (-1)) hC (by decide) dX0_after_17 ?_
      exact V_iret hC h dX0_after_18
    · replace h := h.2 b19
      refine V_iload_n hC rfl dX0_after_10 ?_
      refine V_scalliN (As := [.int x2]) hC (c_SR_isKind X.2.1 g w fu _ x2 M h) mw_X10_isKind (by decide) tw_594 rfl rfl (Nat.le_of_ble_eq_true rfl) ⟨Nat.zero_le _, Nat.zero_le _⟩ dX0_after_11 (fun r2 M1 h => ?_)
      obtain ⟨hzr2, h⟩ := h
      refine V_if_ne (tgt := 19) hC dX0_after_14 (by decide) (fun b18 => ?_) (fun b18 => ?_)
      · replace h := h.2 b18
        refine V_iload_n hC rfl dX0_after_19 ?_
        refine V_bipush (v := 16) hC (by decide) dX0_after_20 ?_
        refine V_idiv hC (by decide) dX0_after_22 ?_
        refine V_bipush (v := 6) hC (by decide) dX0_after_23 ?_
        refine V_imul hC dX0_after_25 ?_
        refine V_iload_n hC rfl dX0_after_26 ?_
        refine V_iadd hC dX0_after_27 ?_
        refine V_topi (fun y3 ey3 => ?_)
        replace h := h y3 ey3
        refine V_istore_n hC (by decide) dX0_after_28 ?_
        refine V_iload_n hC rfl dX0_after_29 ?_
        refine V_bipush (v := 16) hC (by decide) dX0_after_30 ?_
        refine V_irem hC (by decide) dX0_after_32 ?_
        refine V_topi (fun y4 ey4 => ?_)
        replace h := h y4 ey4
        refine V_istore hC (by decide) dX0_after_33 ?_
        refine V_aload_n hC rfl dX0_after_35 ?_
        refine gf_0_2 hC ht tw_40 dX0_after_36 ?_
        refine V_iload_n hC rfl dX0_after_39 ?_
        refine V_scalliN (As := [ob g (t + 3), .int y3]) hC (c_SR_at X.2.1 g w fu _ (t + 3) y3 M1 (ok_0_2 ht) h) mw_X10_at (by decide) tw_419 rfl rfl (Nat.le_of_ble_eq_true rfl) ⟨Nat.zero_le _, Nat.zero_le _⟩ dX0_after_40 (fun r6 M5 h => ?_)
        refine V_bipush (v := 16) hC (by decide) dX0_after_43 ?_
        refine V_imul hC dX0_after_45 ?_
        refine V_topi (fun y7 ey7 => ?_)
        replace h := h y7 ey7
        refine V_istore hC (by decide) dX0_after_46 ?_
        refine V_aload_n hC rfl dX0_after_48 ?_
        refine gf_0_3 hC ht tw_41 dX0_after_49 ?_
        refine V_iload_n hC rfl dX0_after_52 ?_
        refine V_scalliN (As := [ob g (t + 4), .int y3]) hC (c_SR_at X.2.1 g w fu _ (t + 4) y3 M5 (ok_0_3 ht) h) mw_X10_at (by decide) tw_419 rfl rfl (Nat.le_of_ble_eq_true rfl) ⟨Nat.zero_le _, Nat.zero_le _⟩ dX0_after_53 (fun r9 M8 h => ?_)
        refine V_istore hC (by decide) dX0_after_56 ?_
        refine V_aload_n hC rfl dX0_after_58 ?_
        refine gf_0_1 hC ht tw_39 dX0_after_59 ?_
        refine V_iload_n hC rfl dX0_after_62 ?_
        refine V_scalliN (As := [ob g (t + 2), .int y3]) hC (c_SR_at X.2.1 g w fu _ (t + 2) y3 M8 (ok_0_1 ht) h) mw_X10_at (by decide) tw_419 rfl rfl (Nat.le_of_ble_eq_true rfl) ⟨Nat.zero_le _, Nat.zero_le _⟩ dX0_after_63 (fun r11 M10 h => ?_)
        by_cases b12 : r11 = 1
        · replace h := h.1 b12
          refine V_tin (tgt := 92) hC dX0_after_66 (by rw [b12]; decide) (by rw [b12]; decide) (by rw [b12]; rfl) (by decide) ?_
          refine V_iload hC rfl dX0_after_92 ?_
          refine V_iload hC rfl dX0_after_94 ?_
          refine V_iadd hC dX0_after_96 ?_
          exact V_iret hC h dX0_after_97
        by_cases b13 : r11 = 2
        · replace h := h.2.1 b13
          refine V_tin (tgt := 98) hC dX0_after_66 (by rw [b13]; decide) (by rw [b13]; decide) (by rw [b13]; rfl) (by decide) ?_
          refine V_iload hC rfl dX0_after_98 ?_
          refine V_bipush (v := 8) hC (by decide) dX0_after_100 ?_
          refine V_icmp_ge (tgt := 118) hC dX0_after_102 (by decide) (fun b14 => ?_) (fun b14 => ?_)
          · replace h := h.1 b14
            refine V_iconst (v := (-1)) hC (by decide) dX0_after_118 ?_
            exact V_iret hC h dX0_after_119
          · replace h := h.2 b14
            refine V_iload hC rfl dX0_after_105 ?_
            refine V_iload hC rfl dX0_after_107 ?_
            refine V_iconst (v := 2) hC (by decide) dX0_after_109 ?_
            refine V_imul hC dX0_after_110 ?_
            refine V_iadd hC dX0_after_111 ?_
            refine V_iload hC rfl dX0_after_112 ?_
            refine V_iadd hC dX0_after_114 ?_
            refine V_goto (tgt := 119) hC (by decide) dX0_after_115 ?_
            exact V_iret hC h dX0_after_119
        by_cases b15 : r11 = 3
        · replace h := h.2.2.1 b15
          refine V_tin (tgt := 120) hC dX0_after_66 (by rw [b15]; decide) (by rw [b15]; decide) (by rw [b15]; rfl) (by decide) ?_
          refine V_iload hC rfl dX0_after_120 ?_
          refine V_iconst (v := 1) hC (by decide) dX0_after_122 ?_
          refine V_icmp_le (tgt := 145) hC dX0_after_123 (by decide) (fun b17 => ?_) (fun b17 => ?_)
          · replace h := h.1 b17
            refine V_iconst (v := (-1)) hC (by decide) dX0_after_145 ?_
            exact V_iret hC h dX0_after_146
          · replace h := h.2 b17
            refine V_iload hC rfl dX0_after_126 ?_
            refine V_iconst (v := 2) hC (by decide) dX0_after_128 ?_
            refine V_irem hC (by decide) dX0_after_129 ?_
            refine V_iload hC rfl dX0_after_130 ?_
            refine V_icmp_ne (tgt := 145) hC dX0_after_132 (by decide) (fun b16 => ?_) (fun b16 => ?_)
            · replace h := h.2 b16
              refine V_iconst (v := (-1)) hC (by decide) dX0_after_145 ?_
              exact V_iret hC h dX0_after_146
            · replace h := h.1 b16
              refine V_iload hC rfl dX0_after_135 ?_
              refine V_iload hC rfl dX0_after_137 ?_
              refine V_iconst (v := 2) hC (by decide) dX0_after_139 ?_
              refine V_idiv hC (by decide) dX0_after_140 ?_
              refine V_iadd hC dX0_after_141 ?_
              refine V_goto (tgt := 146) hC (by decide) dX0_after_142 ?_
              exact V_iret hC h dX0_after_146
        replace h := h.2.2.2 b12 b13 b15
        refine V_tout (tgt := 147) hC dX0_after_66 (tout3 b12 b13 b15) (by decide) ?_
        refine V_iconst (v := (-1)) hC (by decide) dX0_after_147 ?_
        exact V_iret hC h dX0_after_148
      · replace h := h.1 b18
        refine V_iconst (v := (-1)) hC (by decide) dX0_after_17 ?_
        exact V_iret hC h dX0_after_18
def f_Cu_run_18 (fu : Nat) (post : Mm → Prop) : Nat → Nat → Nat → Int32 → Int32 → Mm → Prop
  | 0, _, _, _, _, _ => False
  | kf + 1, t, a1, x3, x4, M =>
    ((x3 ≤ x4) → post M) ∧ (¬ (x3 ≤ x4) → f_To_kindAt fu (fun r2 M1 => f_Au_after fu (fun r4 M3 => ((0 ≤ r4) → ∀ M5, M5 = up M3 t 1 r4 → ∀ M6, M6 = up M5 t 0 (x4 + 1) → ∀ y7, y7 = x4 + 1 → f_Cu_run_18 fu post kf t a1 x3 y7 M6) ∧ (¬ (0 ≤ r4) → post M3)) (a1 + 1) (M t 1) r2 M1) (a1 + 8) x4 M)
def f_Cu_run (fu : Nat) (post : Mm → Prop) (t : Nat) (a1 : Nat) (x2 : Int32) (M : Mm) : Prop :=
  ∀ y1, y1 = (if (M (a1 + 8) 1) < x2 then (M (a1 + 8) 1) else x2) → ∀ y2, y2 = (M t 0) → f_Cu_run_18 fu post fu t a1 y1 y2 M
set_option maxRecDepth 100000 in
theorem l_Cu_run_18 {l : Launch} {X : CX} {g : GX} {w : WX} {fu : Nat} {post : Mm → Prop} (hX : X.2.1 = l) (hC : Cx X g cX2_run 6 RX2 (none) 2) : ∀ (kf : Nat) (t : Nat) (a1 : Nat) (x3 : Int32) (x4 : Int32) (M : Mm) (ht : ok w t 2) (ha1 : ok w a1 8) (h : f_Cu_run_18 fu post kf t a1 x3 x4 M), V X g w 6 0 0 (QV X g w post 0 0) 18 [some (ob g t), some (ob g a1), none, some (.int x3), some (.int x4), none] [] M := by
  intro kf
  induction kf with
  | zero => intro t a1 x3 x4 M ht ha1 h; exact absurd h id
  | succ kf ih =>
    intro t a1 x3 x4 M ht ha1 h
    rw [f_Cu_run_18] at h
    refine V_iload hC rfl dX2_run_18 ?_
    refine V_iload_n hC rfl dX2_run_20 ?_
    refine V_icmp_ge (tgt := 72) hC dX2_run_21 (by decide) (fun b9 => ?_) (fun b9 => ?_)
    · replace h := h.1 b9
      exact V_vret hC h dX2_run_72
    · replace h := h.2 b9
      refine V_aload_n hC rfl dX2_run_24 ?_
      refine gfN_8_0 hC ha1 tw_100 dX2_run_25 ?_
      refine V_aload_n hC rfl dX2_run_28 ?_
      refine gf_2_1 hC ht tw_255 dX2_run_29 ?_
      refine V_aload_n hC rfl dX2_run_32 ?_
      refine gfN_8_2 hC ha1 tw_108 dX2_run_33 ?_
      refine V_iload hC rfl dX2_run_36 ?_
      refine V_calli (As := [.int x4]) hC (c_To_kindAt X.2.1 g w fu _ (a1 + 8) x4 M (ok_8_2 ha1) h) mw_X9_kindAt (by decide) tw_589 (ok_8_2 ha1) (by decide) rfl rfl rfl (Nat.le_of_ble_eq_true rfl) ⟨Nat.zero_le _, Nat.zero_le _⟩ dX2_run_38 (fun r2 M1 h => ?_)
      refine V_calli (As := [.int (M t 1), .int r2]) hC (c_Au_after X.2.1 g w fu _ (a1 + 1) (M t 1) r2 M1 (ok_8_0 ha1) h) mw_X0_after (by decide) tw_590 (ok_8_0 ha1) (by decide) rfl rfl rfl (Nat.le_of_ble_eq_true rfl) ⟨Nat.zero_le _, Nat.zero_le _⟩ dX2_run_41 (fun r4 M3 h => ?_)
      refine V_istore hC (by decide) dX2_run_44 ?_
      refine V_iload hC rfl dX2_run_46 ?_
      refine V_if_ge (tgt := 52) hC dX2_run_48 (by decide) (fun b8 => ?_) (fun b8 => ?_)
      · replace h := h.1 b8
        refine V_aload_n hC rfl dX2_run_52 ?_
        refine V_iload hC rfl dX2_run_53 ?_
        refine pf_2_1 hC ht tw_255 dX2_run_55 ?_
        obtain ⟨M5, eM5⟩ : ∃ z, z = up M3 t 1 r4 := ⟨_, rfl⟩
        replace h := h M5 eM5
        refine V_mem eM5 ?_
        refine V_aload_n hC rfl dX2_run_58 ?_
        refine V_iload hC rfl dX2_run_59 ?_
        refine V_iconst (v := 1) hC (by decide) dX2_run_61 ?_
        refine V_iadd hC dX2_run_62 ?_
        refine pf_2_0 hC ht tw_252 dX2_run_63 ?_
        obtain ⟨M6, eM6⟩ : ∃ z, z = up M5 t 0 (x4 + 1) := ⟨_, rfl⟩
        replace h := h M6 eM6
        refine V_mem eM6 ?_
        obtain ⟨y7, ey7⟩ : ∃ z, z = x4 + 1 := ⟨_, rfl⟩
        replace h := h y7 ey7
        refine V_iinc (v := y7) hC rfl (by rw [ey7]; rfl) (by decide) dX2_run_66 ?_
        refine V_goto (tgt := 18) hC (by decide) dX2_run_69 ?_
        refine V_sub (us := [some (ob g t), some (ob g a1), none, some (.int x3), some (.int y7), none]) ⟨rfl, rfl, rfl, rfl, trivial⟩ ?_
        exact ih t a1 x3 y7 M6 ht ha1 h
      · replace h := h.2 b8
        exact V_vret hC h dX2_run_51
set_option maxRecDepth 100000 in
theorem c_Cu_run (l : Launch) (g : GX) (w : WX) (fu : Nat) (post : Mm → Prop) (t : Nat) (a1 : Nat) (x2 : Int32) (M : Mm) (ht : ok w t 2) (ha1 : ok w a1 8) (h : f_Cu_run fu post t a1 x2 M) : Met l yX2_run [Cond.code yX2_run cX2_run 6 (none)] (rmC 2 0 0) (va_Pc [ob g t, ob g a1, .int x2] (Wb g w M)) (va_Qv post (Wb g w) (Af g)) 0 0 (Af g) := by
  refine Ct_v (by decide) rfl (fun v hv => by simp only [List.mem_cons, List.not_mem_nil, or_false] at hv; rcases hv with rfl | rfl | rfl <;> rfl) (Nat.le_of_ble_eq_true rfl) (Nat.le_refl _) ?_
  intro X hX _ hC
  unfold f_Cu_run at h
  refine V_sub (us := [some (ob g t), some (ob g a1), some (.int x2), none, none, none]) ⟨rfl, rfl, rfl, trivial⟩ ?_
  refine V_iload_n hC rfl dX2_run_0 ?_
  refine V_aload_n hC rfl dX2_run_1 ?_
  refine gfN_8_2 hC ha1 tw_108 dX2_run_2 ?_
  refine gfN_9_1 hC (ok_8_2 ha1) tw_90 dX2_run_5 ?_
  refine V_min hC tw_588 tw_466 tw_17 tw_min (by decide) (Nat.le_of_ble_eq_true rfl) ⟨Nat.zero_le _, Nat.zero_le _⟩ dX2_run_8 ?_
  refine V_topi (fun y1 ey1 => ?_)
  replace h := h y1 ey1
  refine V_istore_n hC (by decide) dX2_run_11 ?_
  refine V_aload_n hC rfl dX2_run_12 ?_
  refine gf_2_0 hC ht tw_252 dX2_run_13 ?_
  refine V_topi (fun y2 ey2 => ?_)
  replace h := h y2 ey2
  refine V_istore hC (by decide) dX2_run_16 ?_
  refine V_sub (us := [some (ob g t), some (ob g a1), none, some (.int y1), some (.int y2), none]) ⟨rfl, rfl, rfl, rfl, trivial⟩ ?_
  exact l_Cu_run_18 hX hC fu t a1 y1 y2 M ht ha1 h
def f_Au_isFinal (fu : Nat) (post : Int32 → Mm → Prop) (t : Nat) (x1 : Int32) (M : Mm) : Prop :=
  ((x1 < 0) → post 0 M) ∧ (¬ (x1 < 0) → ((x1 < 96) → (((x1 - x1 / 16 * 16) = 1) → f_SR_at fu (fun r2 M1 => ((r2 = 1) → post 1 M1) ∧ (¬ (r2 = 1) → post 0 M1)) (t + 1) (x1 / 16) M) ∧ (¬ ((x1 - x1 / 16 * 16) = 1) → post 0 M)) ∧ (¬ (x1 < 96) → post 0 M))
set_option maxRecDepth 100000 in
theorem c_Au_isFinal (l : Launch) (g : GX) (w : WX) (fu : Nat) (post : Int32 → Mm → Prop) (t : Nat) (x1 : Int32) (M : Mm) (ht : ok w t 0) (h : f_Au_isFinal fu post t x1 M) : Met l yX0_isFinal [Cond.code yX0_isFinal cX0_isFinal 2 (some .boolean)] (rmC 1 0 0) (va_Pc [ob g t, .int x1] (Wb g w M)) (va_Qi (fun r M => zb r ∧ post r M) (Wb g w) (Af g)) 0 0 (Af g) := by
  refine Ct_i (by decide) rfl (fun v hv => by simp only [List.mem_cons, List.not_mem_nil, or_false] at hv; rcases hv with rfl | rfl <;> rfl) (Nat.le_of_ble_eq_true rfl) (Nat.le_refl _) ?_
  intro X hX _ hC
  unfold f_Au_isFinal at h
  refine V_sub (us := [some (ob g t), some (.int x1)]) ⟨rfl, rfl, trivial⟩ ?_
  refine V_iload_n hC rfl dX0_isFinal_0 ?_
  refine V_if_lt (tgt := 10) hC dX0_isFinal_1 (by decide) (fun b6 => ?_) (fun b6 => ?_)
  · replace h := h.1 b6
    refine V_iconst (v := 0) hC (by decide) dX0_isFinal_10 ?_
    exact V_zret hC (Or.inl rfl) h dX0_isFinal_11
  · replace h := h.2 b6
    refine V_iload_n hC rfl dX0_isFinal_4 ?_
    refine V_bipush (v := 96) hC (by decide) dX0_isFinal_5 ?_
    refine V_icmp_lt (tgt := 12) hC dX0_isFinal_7 (by decide) (fun b5 => ?_) (fun b5 => ?_)
    · replace h := h.1 b5
      refine V_iload_n hC rfl dX0_isFinal_12 ?_
      refine V_bipush (v := 16) hC (by decide) dX0_isFinal_13 ?_
      refine V_irem hC (by decide) dX0_isFinal_15 ?_
      refine V_iconst (v := 1) hC (by decide) dX0_isFinal_16 ?_
      refine V_icmp_ne (tgt := 39) hC dX0_isFinal_17 (by decide) (fun b4 => ?_) (fun b4 => ?_)
      · replace h := h.2 b4
        refine V_iconst (v := 0) hC (by decide) dX0_isFinal_39 ?_
        exact V_zret hC (Or.inl rfl) h dX0_isFinal_40
      · replace h := h.1 b4
        refine V_aload_n hC rfl dX0_isFinal_20 ?_
        refine gf_0_0 hC ht tw_38 dX0_isFinal_21 ?_
        refine V_iload_n hC rfl dX0_isFinal_24 ?_
        refine V_bipush (v := 16) hC (by decide) dX0_isFinal_25 ?_
        refine V_idiv hC (by decide) dX0_isFinal_27 ?_
        refine V_scalliN (As := [ob g (t + 1), .int (x1 / 16)]) hC (c_SR_at X.2.1 g w fu _ (t + 1) (x1 / 16) M (ok_0_0 ht) h) mw_X10_at (by decide) tw_419 rfl rfl (Nat.le_of_ble_eq_true rfl) ⟨Nat.zero_le _, Nat.zero_le _⟩ dX0_isFinal_28 (fun r2 M1 h => ?_)
        refine V_iconst (v := 1) hC (by decide) dX0_isFinal_31 ?_
        refine V_icmp_ne (tgt := 39) hC dX0_isFinal_32 (by decide) (fun b3 => ?_) (fun b3 => ?_)
        · replace h := h.2 b3
          refine V_iconst (v := 0) hC (by decide) dX0_isFinal_39 ?_
          exact V_zret hC (Or.inl rfl) h dX0_isFinal_40
        · replace h := h.1 b3
          refine V_iconst (v := 1) hC (by decide) dX0_isFinal_35 ?_
          refine V_goto (tgt := 40) hC (by decide) dX0_isFinal_36 ?_
          exact V_zret hC (Or.inr rfl) h dX0_isFinal_40
    · replace h := h.2 b5
      refine V_iconst (v := 0) hC (by decide) dX0_isFinal_10 ?_
      exact V_zret hC (Or.inl rfl) h dX0_isFinal_11
def f_Cu_isDone (fu : Nat) (post : Int32 → Mm → Prop) (t : Nat) (a1 : Nat) (M : Mm) : Prop :=
  (((M t 0) = (M (a1 + 8) 1)) → f_Au_isFinal fu (fun r2 M1 => ((r2 = 0) → post 0 M1) ∧ (¬ (r2 = 0) → post 1 M1)) (a1 + 1) (M t 1) M) ∧ (¬ ((M t 0) = (M (a1 + 8) 1)) → post 0 M)
set_option maxRecDepth 100000 in
theorem c_Cu_isDone (l : Launch) (g : GX) (w : WX) (fu : Nat) (post : Int32 → Mm → Prop) (t : Nat) (a1 : Nat) (M : Mm) (ht : ok w t 2) (ha1 : ok w a1 8) (h : f_Cu_isDone fu post t a1 M) : Met l yX2_isDone [Cond.code yX2_isDone cX2_isDone 2 (some .boolean)] (rmC 2 0 0) (va_Pc [ob g t, ob g a1] (Wb g w M)) (va_Qi (fun r M => zb r ∧ post r M) (Wb g w) (Af g)) 0 0 (Af g) := by
  refine Ct_i (by decide) rfl (fun v hv => by simp only [List.mem_cons, List.not_mem_nil, or_false] at hv; rcases hv with rfl | rfl <;> rfl) (Nat.le_of_ble_eq_true rfl) (Nat.le_refl _) ?_
  intro X hX _ hC
  unfold f_Cu_isDone at h
  refine V_sub (us := [some (ob g t), some (ob g a1)]) ⟨rfl, rfl, trivial⟩ ?_
  refine V_aload_n hC rfl dX2_isDone_0 ?_
  refine gf_2_0 hC ht tw_252 dX2_isDone_1 ?_
  refine V_aload_n hC rfl dX2_isDone_4 ?_
  refine gfN_8_2 hC ha1 tw_108 dX2_isDone_5 ?_
  refine gfN_9_1 hC (ok_8_2 ha1) tw_90 dX2_isDone_8 ?_
  refine V_icmp_ne (tgt := 32) hC dX2_isDone_11 (by decide) (fun b4 => ?_) (fun b4 => ?_)
  · replace h := h.2 b4
    refine V_iconst (v := 0) hC (by decide) dX2_isDone_32 ?_
    exact V_zret hC (Or.inl rfl) h dX2_isDone_33
  · replace h := h.1 b4
    refine V_aload_n hC rfl dX2_isDone_14 ?_
    refine gfN_8_0 hC ha1 tw_100 dX2_isDone_15 ?_
    refine V_aload_n hC rfl dX2_isDone_18 ?_
    refine gf_2_1 hC ht tw_255 dX2_isDone_19 ?_
    refine V_calli (As := [.int (M t 1)]) hC (c_Au_isFinal X.2.1 g w fu _ (a1 + 1) (M t 1) M (ok_8_0 ha1) h) mw_X0_isFinal (by decide) tw_599 (ok_8_0 ha1) (by decide) rfl rfl rfl (Nat.le_of_ble_eq_true rfl) ⟨Nat.zero_le _, Nat.zero_le _⟩ dX2_isDone_22 (fun r2 M1 h => ?_)
    obtain ⟨hzr2, h⟩ := h
    refine V_if_eq (tgt := 32) hC dX2_isDone_25 (by decide) (fun b3 => ?_) (fun b3 => ?_)
    · replace h := h.1 b3
      refine V_iconst (v := 0) hC (by decide) dX2_isDone_32 ?_
      exact V_zret hC (Or.inl rfl) h dX2_isDone_33
    · replace h := h.2 b3
      refine V_iconst (v := 1) hC (by decide) dX2_isDone_28 ?_
      refine V_goto (tgt := 33) hC (by decide) dX2_isDone_29 ?_
      exact V_zret hC (Or.inr rfl) h dX2_isDone_33
def f_SR_findError (fu : Nat) (post : Int32 → Mm → Prop) (t : Nat) (M : Mm) : Prop :=
  f_Cu_toStart fu (fun M1 => f_Cu_run fu (fun M2 => f_Cu_isDone fu (fun r4 M3 => ((r4 = 0) → post 1 M3) ∧ (¬ (r4 = 0) → post 0 M3)) (t + 144) (t + 1) M2) (t + 144) (t + 1) 12 M1) (t + 144) M
set_option maxRecDepth 100000 in
theorem c_SR_findError (l : Launch) (g : GX) (w : WX) (fu : Nat) (post : Int32 → Mm → Prop) (t : Nat) (M : Mm) (ht : ok w t 10) (h : f_SR_findError fu post t M) : Met l yX10_findError [Cond.code yX10_findError cX10_findError 1 (some .boolean)] (rmC 3 0 0) (va_Pc [ob g t] (Wb g w M)) (va_Qi (fun r M => zb r ∧ post r M) (Wb g w) (Af g)) 0 0 (Af g) := by
  refine Ct_i (by decide) rfl (fun v hv => by simp only [List.mem_cons, List.not_mem_nil, or_false] at hv; rcases hv with rfl <;> rfl) (Nat.le_of_ble_eq_true rfl) (Nat.le_refl _) ?_
  intro X hX _ hC
  unfold f_SR_findError at h
  refine V_sub (us := [some (ob g t)]) ⟨rfl, trivial⟩ ?_
  refine V_aload_n hC rfl dX10_findError_0 ?_
  refine gf_10_6 hC ht tw_274 dX10_findError_1 ?_
  refine V_callv (As := []) hC (c_Cu_toStart X.2.1 g w fu _ (t + 144) M (ok_10_6 ht) h) mw_X2_toStart (by decide) tw_580 (ok_10_6 ht) (by decide) rfl rfl rfl (Nat.le_of_ble_eq_true rfl) ⟨Nat.zero_le _, Nat.zero_le _⟩ dX10_findError_4 (fun M1 h => ?_)
  refine V_aload_n hC rfl dX10_findError_7 ?_
  refine gf_10_6 hC ht tw_274 dX10_findError_8 ?_
  refine V_aload_n hC rfl dX10_findError_11 ?_
  refine gf_10_0 hC ht tw_268 dX10_findError_12 ?_
  refine V_bipush (v := 12) hC (by decide) dX10_findError_15 ?_
  refine V_callv (As := [ob g (t + 1), .int 12]) hC (c_Cu_run X.2.1 g w fu _ (t + 144) (t + 1) 12 M1 (ok_10_6 ht) (ok_10_0 ht) h) mw_X2_run (by decide) tw_584 (ok_10_6 ht) (by decide) rfl rfl rfl (Nat.le_of_ble_eq_true rfl) ⟨Nat.zero_le _, Nat.zero_le _⟩ dX10_findError_17 (fun M2 h => ?_)
  refine V_aload_n hC rfl dX10_findError_20 ?_
  refine gf_10_6 hC ht tw_274 dX10_findError_21 ?_
  refine V_aload_n hC rfl dX10_findError_24 ?_
  refine gf_10_0 hC ht tw_268 dX10_findError_25 ?_
  refine V_calli (As := [ob g (t + 1)]) hC (c_Cu_isDone X.2.1 g w fu _ (t + 144) (t + 1) M2 (ok_10_6 ht) (ok_10_0 ht) h) mw_X2_isDone (by decide) tw_595 (ok_10_6 ht) (by decide) rfl rfl rfl (Nat.le_of_ble_eq_true rfl) ⟨Nat.zero_le _, Nat.zero_le _⟩ dX10_findError_28 (fun r4 M3 h => ?_)
  obtain ⟨hzr4, h⟩ := h
  refine V_if_ne (tgt := 38) hC dX10_findError_31 (by decide) (fun b5 => ?_) (fun b5 => ?_)
  · replace h := h.2 b5
    refine V_iconst (v := 0) hC (by decide) dX10_findError_38 ?_
    exact V_zret hC (Or.inl rfl) h dX10_findError_39
  · replace h := h.1 b5
    refine V_iconst (v := 1) hC (by decide) dX10_findError_34 ?_
    refine V_goto (tgt := 39) hC (by decide) dX10_findError_35 ?_
    exact V_zret hC (Or.inr rfl) h dX10_findError_39
def f_SR_errorPosition (fu : Nat) (post : Int32 → Mm → Prop) (t : Nat) (M : Mm) : Prop :=
  f_SR_findError fu (fun r2 M1 => ((r2 = 0) → post (-9) M1) ∧ (¬ (r2 = 0) → post (M1 (t + 144) 0) M1)) t M
set_option maxRecDepth 100000 in
theorem c_SR_errorPosition (l : Launch) (g : GX) (w : WX) (fu : Nat) (post : Int32 → Mm → Prop) (t : Nat) (M : Mm) (ht : ok w t 10) (h : f_SR_errorPosition fu post t M) : Met l yX10_errorPosition [Cond.code yX10_errorPosition cX10_errorPosition 1 (some .int)] (rmC 4 0 0) (va_Pc [ob g t] (Wb g w M)) (va_Qi post (Wb g w) (Af g)) 0 0 (Af g) := by
  refine Ct_i (by decide) rfl (fun v hv => by simp only [List.mem_cons, List.not_mem_nil, or_false] at hv; rcases hv with rfl <;> rfl) (Nat.le_of_ble_eq_true rfl) (Nat.le_refl _) ?_
  intro X hX _ hC
  unfold f_SR_errorPosition at h
  refine V_sub (us := [some (ob g t)]) ⟨rfl, trivial⟩ ?_
  refine V_aload_n hC rfl dX10_errorPosition_0 ?_
  refine V_calli (As := []) hC (c_SR_findError X.2.1 g w fu _ t M ht h) mw_X10_findError (by decide) tw_576 ht (by decide) rfl rfl rfl (Nat.le_of_ble_eq_true rfl) ⟨Nat.zero_le _, Nat.zero_le _⟩ dX10_errorPosition_1 (fun r2 M1 h => ?_)
  obtain ⟨hzr2, h⟩ := h
  refine V_if_eq (tgt := 17) hC dX10_errorPosition_4 (by decide) (fun b3 => ?_) (fun b3 => ?_)
  · replace h := h.1 b3
    refine V_bipush (v := (-9)) hC (by decide) dX10_errorPosition_17 ?_
    exact V_iret hC h dX10_errorPosition_19
  · replace h := h.2 b3
    refine V_aload_n hC rfl dX10_errorPosition_7 ?_
    refine gf_10_6 hC ht tw_274 dX10_errorPosition_8 ?_
    refine gfN_2_0 hC (ok_10_6 ht) tw_254 dX10_errorPosition_11 ?_
    refine V_goto (tgt := 19) hC (by decide) dX10_errorPosition_14 ?_
    exact V_iret hC h dX10_errorPosition_19
def f_SR_runFirst (fu : Nat) (post : Int32 → Mm → Prop) (t : Nat) (x1 : Int32) (M : Mm) : Prop :=
  ((x1 < 0) → post (-1) M) ∧ (¬ (x1 < 0) → ((x1 ≤ (M (t + 9) 1)) → f_Cu_toStart fu (fun M1 => f_Cu_run fu (fun M2 => ((x1 ≤ (M2 (t + 144) 0)) → post 0 M2) ∧ (¬ (x1 ≤ (M2 (t + 144) 0)) → post (-2) M2)) (t + 144) (t + 1) x1 M1) (t + 144) M) ∧ (¬ (x1 ≤ (M (t + 9) 1)) → post (-1) M))
set_option maxRecDepth 100000 in
theorem c_SR_runFirst (l : Launch) (g : GX) (w : WX) (fu : Nat) (post : Int32 → Mm → Prop) (t : Nat) (x1 : Int32) (M : Mm) (ht : ok w t 10) (h : f_SR_runFirst fu post t x1 M) : Met l yX10_runFirst [Cond.code yX10_runFirst cX10_runFirst 2 (some .int)] (rmC 3 0 0) (va_Pc [ob g t, .int x1] (Wb g w M)) (va_Qi post (Wb g w) (Af g)) 0 0 (Af g) := by
  refine Ct_i (by decide) rfl (fun v hv => by simp only [List.mem_cons, List.not_mem_nil, or_false] at hv; rcases hv with rfl | rfl <;> rfl) (Nat.le_of_ble_eq_true rfl) (Nat.le_refl _) ?_
  intro X hX _ hC
  unfold f_SR_runFirst at h
  refine V_sub (us := [some (ob g t), some (.int x1)]) ⟨rfl, rfl, trivial⟩ ?_
  refine V_iload_n hC rfl dX10_runFirst_0 ?_
  refine V_if_lt (tgt := 18) hC dX10_runFirst_1 (by decide) (fun b5 => ?_) (fun b5 => ?_)
  · replace h := h.1 b5
    refine V_iconst (v := (-1)) hC (by decide) dX10_runFirst_18 ?_
    exact V_iret hC h dX10_runFirst_19
  · replace h := h.2 b5
    refine V_iload_n hC rfl dX10_runFirst_4 ?_
    refine V_aload_n hC rfl dX10_runFirst_5 ?_
    refine gf_10_0 hC ht tw_268 dX10_runFirst_6 ?_
    refine gfN_8_2 hC (ok_10_0 ht) tw_109 dX10_runFirst_9 ?_
    refine gfN_9_1 hC (ok_8_2 (ok_10_0 ht)) tw_91 dX10_runFirst_12 ?_
    refine V_icmp_le (tgt := 20) hC dX10_runFirst_15 (by decide) (fun b4 => ?_) (fun b4 => ?_)
    · replace h := h.1 b4
      refine V_aload_n hC rfl dX10_runFirst_20 ?_
      refine gf_10_6 hC ht tw_274 dX10_runFirst_21 ?_
      refine V_callv (As := []) hC (c_Cu_toStart X.2.1 g w fu _ (t + 144) M (ok_10_6 ht) h) mw_X2_toStart (by decide) tw_580 (ok_10_6 ht) (by decide) rfl rfl rfl (Nat.le_of_ble_eq_true rfl) ⟨Nat.zero_le _, Nat.zero_le _⟩ dX10_runFirst_24 (fun M1 h => ?_)
      refine V_aload_n hC rfl dX10_runFirst_27 ?_
      refine gf_10_6 hC ht tw_274 dX10_runFirst_28 ?_
      refine V_aload_n hC rfl dX10_runFirst_31 ?_
      refine gf_10_0 hC ht tw_268 dX10_runFirst_32 ?_
      refine V_iload_n hC rfl dX10_runFirst_35 ?_
      refine V_callv (As := [ob g (t + 1), .int x1]) hC (c_Cu_run X.2.1 g w fu _ (t + 144) (t + 1) x1 M1 (ok_10_6 ht) (ok_10_0 ht) h) mw_X2_run (by decide) tw_584 (ok_10_6 ht) (by decide) rfl rfl rfl (Nat.le_of_ble_eq_true rfl) ⟨Nat.zero_le _, Nat.zero_le _⟩ dX10_runFirst_36 (fun M2 h => ?_)
      refine V_aload_n hC rfl dX10_runFirst_39 ?_
      refine gf_10_6 hC ht tw_274 dX10_runFirst_40 ?_
      refine gfN_2_0 hC (ok_10_6 ht) tw_254 dX10_runFirst_43 ?_
      refine V_iload_n hC rfl dX10_runFirst_46 ?_
      refine V_icmp_ge (tgt := 55) hC dX10_runFirst_47 (by decide) (fun b3 => ?_) (fun b3 => ?_)
      · replace h := h.1 b3
        refine V_iconst (v := 0) hC (by decide) dX10_runFirst_55 ?_
        exact V_iret hC h dX10_runFirst_56
      · replace h := h.2 b3
        refine V_bipush (v := (-2)) hC (by decide) dX10_runFirst_50 ?_
        refine V_goto (tgt := 56) hC (by decide) dX10_runFirst_52 ?_
        exact V_iret hC h dX10_runFirst_56
    · replace h := h.2 b4
      refine V_iconst (v := (-1)) hC (by decide) dX10_runFirst_18 ?_
      exact V_iret hC h dX10_runFirst_19
def f_SR_stateAfter (fu : Nat) (post : Int32 → Mm → Prop) (t : Nat) (x1 : Int32) (M : Mm) : Prop :=
  f_SR_runFirst fu (fun r2 M1 => ((0 ≤ r2) → post ((M1 (t + 144) 1) / 16) M1) ∧ (¬ (0 ≤ r2) → post r2 M1)) t x1 M
set_option maxRecDepth 100000 in
theorem c_SR_stateAfter (l : Launch) (g : GX) (w : WX) (fu : Nat) (post : Int32 → Mm → Prop) (t : Nat) (x1 : Int32) (M : Mm) (ht : ok w t 10) (h : f_SR_stateAfter fu post t x1 M) : Met l yX10_stateAfter [Cond.code yX10_stateAfter cX10_stateAfter 3 (some .int)] (rmC 4 0 0) (va_Pc [ob g t, .int x1] (Wb g w M)) (va_Qi post (Wb g w) (Af g)) 0 0 (Af g) := by
  refine Ct_i (by decide) rfl (fun v hv => by simp only [List.mem_cons, List.not_mem_nil, or_false] at hv; rcases hv with rfl | rfl <;> rfl) (Nat.le_of_ble_eq_true rfl) (Nat.le_refl _) ?_
  intro X hX _ hC
  unfold f_SR_stateAfter at h
  refine V_sub (us := [some (ob g t), some (.int x1), none]) ⟨rfl, rfl, trivial⟩ ?_
  refine V_aload_n hC rfl dX10_stateAfter_0 ?_
  refine V_iload_n hC rfl dX10_stateAfter_1 ?_
  refine V_calli (As := [.int x1]) hC (c_SR_runFirst X.2.1 g w fu _ t x1 M ht h) mw_X10_runFirst (by decide) tw_607 ht (by decide) rfl rfl rfl (Nat.le_of_ble_eq_true rfl) ⟨Nat.zero_le _, Nat.zero_le _⟩ dX10_stateAfter_2 (fun r2 M1 h => ?_)
  refine V_istore_n hC (by decide) dX10_stateAfter_5 ?_
  refine V_iload_n hC rfl dX10_stateAfter_6 ?_
  refine V_if_ge (tgt := 14) hC dX10_stateAfter_7 (by decide) (fun b3 => ?_) (fun b3 => ?_)
  · replace h := h.1 b3
    refine V_aload_n hC rfl dX10_stateAfter_14 ?_
    refine gf_10_6 hC ht tw_274 dX10_stateAfter_15 ?_
    refine gfN_2_1 hC (ok_10_6 ht) tw_257 dX10_stateAfter_18 ?_
    refine V_bipush (v := 16) hC (by decide) dX10_stateAfter_21 ?_
    refine V_idiv hC (by decide) dX10_stateAfter_23 ?_
    exact V_iret hC h dX10_stateAfter_24
  · replace h := h.2 b3
    refine V_iload_n hC rfl dX10_stateAfter_10 ?_
    refine V_goto (tgt := 24) hC (by decide) dX10_stateAfter_11 ?_
    exact V_iret hC h dX10_stateAfter_24
def f_SR_depthOf_4 (fu : Nat) (post : Int32 → Mm → Prop) : Nat → Int32 → Int32 → Int32 → Mm → Prop
  | 0, _, _, _, _ => False
  | kf + 1, x0, x1, x2, M =>
    ((x0 < x2) → post x1 M) ∧ (¬ (x0 < x2) → ((16 ≤ x2) → post x1 M) ∧ (¬ (16 ≤ x2) → ∀ y1, y1 = x1 + 1 → ∀ y2, y2 = (x2 * 2) → f_SR_depthOf_4 fu post kf x0 y1 y2 M))
def f_SR_depthOf (fu : Nat) (post : Int32 → Mm → Prop) (x0 : Int32) (M : Mm) : Prop :=
  f_SR_depthOf_4 fu post fu x0 0 2 M
set_option maxRecDepth 100000 in
theorem l_SR_depthOf_4 {l : Launch} {X : CX} {g : GX} {w : WX} {fu : Nat} {post : Int32 → Mm → Prop} (hX : X.2.1 = l) (hC : Cx X g cX10_depthOf 3 RX10 (some .int) 0) : ∀ (kf : Nat) (x0 : Int32) (x1 : Int32) (x2 : Int32) (M : Mm) (h : f_SR_depthOf_4 fu post kf x0 x1 x2 M), V X g w 3 0 0 (QI X g w post 0 0) 4 [some (.int x0), some (.int x1), some (.int x2)] [] M := by
  intro kf
  induction kf with
  | zero => intro x0 x1 x2 M h; exact absurd h id
  | succ kf ih =>
    intro x0 x1 x2 M h
    rw [f_SR_depthOf_4] at h
    refine V_iload_n hC rfl dX10_depthOf_4 ?_
    refine V_iload_n hC rfl dX10_depthOf_5 ?_
    refine V_icmp_gt (tgt := 25) hC dX10_depthOf_6 (by decide) (fun b4 => ?_) (fun b4 => ?_)
    · replace h := h.1 b4
      refine V_iload_n hC rfl dX10_depthOf_25 ?_
      exact V_iret hC h dX10_depthOf_26
    · replace h := h.2 b4
      refine V_iload_n hC rfl dX10_depthOf_9 ?_
      refine V_bipush (v := 16) hC (by decide) dX10_depthOf_10 ?_
      refine V_icmp_ge (tgt := 25) hC dX10_depthOf_12 (by decide) (fun b3 => ?_) (fun b3 => ?_)
      · replace h := h.1 b3
        refine V_iload_n hC rfl dX10_depthOf_25 ?_
        exact V_iret hC h dX10_depthOf_26
      · replace h := h.2 b3
        obtain ⟨y1, ey1⟩ : ∃ z, z = x1 + 1 := ⟨_, rfl⟩
        replace h := h y1 ey1
        refine V_iinc (v := y1) hC rfl (by rw [ey1]; rfl) (by decide) dX10_depthOf_15 ?_
        refine V_iload_n hC rfl dX10_depthOf_18 ?_
        refine V_iconst (v := 2) hC (by decide) dX10_depthOf_19 ?_
        refine V_imul hC dX10_depthOf_20 ?_
        refine V_topi (fun y2 ey2 => ?_)
        replace h := h y2 ey2
        refine V_istore_n hC (by decide) dX10_depthOf_21 ?_
        refine V_goto (tgt := 4) hC (by decide) dX10_depthOf_22 ?_
        refine V_sub (us := [some (.int x0), some (.int y1), some (.int y2)]) ⟨rfl, rfl, rfl, trivial⟩ ?_
        exact ih x0 y1 y2 M h
set_option maxRecDepth 100000 in
theorem c_SR_depthOf (l : Launch) (g : GX) (w : WX) (fu : Nat) (post : Int32 → Mm → Prop) (x0 : Int32) (M : Mm) (h : f_SR_depthOf fu post x0 M) : Met l yX10_depthOf [Cond.code yX10_depthOf cX10_depthOf 3 (some .int)] (rmC 0 0 0) (va_Pc [.int x0] (Wb g w M)) (va_Qi post (Wb g w) (Af g)) 0 0 (Af g) := by
  refine Ct_i (by decide) rfl (fun v hv => by simp only [List.mem_cons, List.not_mem_nil, or_false] at hv; rcases hv with rfl <;> rfl) (Nat.le_of_ble_eq_true rfl) (Nat.le_refl _) ?_
  intro X hX _ hC
  unfold f_SR_depthOf at h
  refine V_sub (us := [some (.int x0), none, none]) ⟨rfl, trivial⟩ ?_
  refine V_iconst (v := 0) hC (by decide) dX10_depthOf_0 ?_
  refine V_istore_n hC (by decide) dX10_depthOf_1 ?_
  refine V_iconst (v := 2) hC (by decide) dX10_depthOf_2 ?_
  refine V_istore_n hC (by decide) dX10_depthOf_3 ?_
  refine V_sub (us := [some (.int x0), some (.int 0), some (.int 2)]) ⟨rfl, rfl, rfl, trivial⟩ ?_
  exact l_SR_depthOf_4 hX hC fu x0 0 2 M h
def f_SR_depthAfter (fu : Nat) (post : Int32 → Mm → Prop) (t : Nat) (x1 : Int32) (M : Mm) : Prop :=
  f_SR_runFirst fu (fun r2 M1 => ((0 ≤ r2) → f_SR_depthOf fu (fun r4 M3 => post r4 M3) ((M1 (t + 144) 1) - (M1 (t + 144) 1) / 16 * 16) M1) ∧ (¬ (0 ≤ r2) → post r2 M1)) t x1 M
set_option maxRecDepth 100000 in
theorem c_SR_depthAfter (l : Launch) (g : GX) (w : WX) (fu : Nat) (post : Int32 → Mm → Prop) (t : Nat) (x1 : Int32) (M : Mm) (ht : ok w t 10) (h : f_SR_depthAfter fu post t x1 M) : Met l yX10_depthAfter [Cond.code yX10_depthAfter cX10_depthAfter 3 (some .int)] (rmC 4 0 0) (va_Pc [ob g t, .int x1] (Wb g w M)) (va_Qi post (Wb g w) (Af g)) 0 0 (Af g) := by
  refine Ct_i (by decide) rfl (fun v hv => by simp only [List.mem_cons, List.not_mem_nil, or_false] at hv; rcases hv with rfl | rfl <;> rfl) (Nat.le_of_ble_eq_true rfl) (Nat.le_refl _) ?_
  intro X hX _ hC
  unfold f_SR_depthAfter at h
  refine V_sub (us := [some (ob g t), some (.int x1), none]) ⟨rfl, rfl, trivial⟩ ?_
  refine V_aload_n hC rfl dX10_depthAfter_0 ?_
  refine V_iload_n hC rfl dX10_depthAfter_1 ?_
  refine V_calli (As := [.int x1]) hC (c_SR_runFirst X.2.1 g w fu _ t x1 M ht h) mw_X10_runFirst (by decide) tw_607 ht (by decide) rfl rfl rfl (Nat.le_of_ble_eq_true rfl) ⟨Nat.zero_le _, Nat.zero_le _⟩ dX10_depthAfter_2 (fun r2 M1 h => ?_)
  refine V_istore_n hC (by decide) dX10_depthAfter_5 ?_
  refine V_iload_n hC rfl dX10_depthAfter_6 ?_
  refine V_if_ge (tgt := 14) hC dX10_depthAfter_7 (by decide) (fun b5 => ?_) (fun b5 => ?_)
  · replace h := h.1 b5
    refine V_aload_n hC rfl dX10_depthAfter_14 ?_
    refine gf_10_6 hC ht tw_274 dX10_depthAfter_15 ?_
    refine gfN_2_1 hC (ok_10_6 ht) tw_257 dX10_depthAfter_18 ?_
    refine V_bipush (v := 16) hC (by decide) dX10_depthAfter_21 ?_
    refine V_irem hC (by decide) dX10_depthAfter_23 ?_
    refine V_scalli (As := [.int ((M1 (t + 144) 1) - (M1 (t + 144) 1) / 16 * 16)]) hC (c_SR_depthOf X.2.1 g w fu _ ((M1 (t + 144) 1) - (M1 (t + 144) 1) / 16 * 16) M1 h) mw_X10_depthOf (by decide) tw_615 rfl rfl (Nat.le_of_ble_eq_true rfl) ⟨Nat.zero_le _, Nat.zero_le _⟩ dX10_depthAfter_24 (fun r4 M3 h => ?_)
    exact V_iret hC h dX10_depthAfter_27
  · replace h := h.2 b5
    refine V_iload_n hC rfl dX10_depthAfter_10 ?_
    refine V_goto (tgt := 27) hC (by decide) dX10_depthAfter_11 ?_
    exact V_iret hC h dX10_depthAfter_27
def f_SR_expectedKinds_14 (fu : Nat) (post : Int32 → Mm → Prop) : Nat → Nat → Int32 → Int32 → Mm → Prop
  | 0, _, _, _, _ => False
  | kf + 1, t, x1, x2, M =>
    ((6 ≤ x2) → post x1 M) ∧ (¬ (6 ≤ x2) → f_Au_after fu (fun r2 M1 => ((r2 < 0) → ∀ y3, y3 = x2 + 1 → f_SR_expectedKinds_14 fu post kf t x1 y3 M1) ∧ (¬ (r2 < 0) → ∀ y4, y4 = (x1 ||| (1 <<< (x2 &&& 31))) → ∀ y5, y5 = x2 + 1 → f_SR_expectedKinds_14 fu post kf t y4 y5 M1)) (t + 2) (M (t + 144) 1) x2 M)
def f_SR_expectedKinds (fu : Nat) (post : Int32 → Mm → Prop) (t : Nat) (M : Mm) : Prop :=
  f_SR_findError fu (fun r2 M1 => ((r2 = 0) → post (-2) M1) ∧ (¬ (r2 = 0) → f_SR_expectedKinds_14 fu post fu t 0 0 M1)) t M
set_option maxRecDepth 100000 in
theorem l_SR_expectedKinds_14 {l : Launch} {X : CX} {g : GX} {w : WX} {fu : Nat} {post : Int32 → Mm → Prop} (hX : X.2.1 = l) (hC : Cx X g cX10_expectedKinds 3 RX10 (some .int) 4) : ∀ (kf : Nat) (t : Nat) (x1 : Int32) (x2 : Int32) (M : Mm) (ht : ok w t 10) (h : f_SR_expectedKinds_14 fu post kf t x1 x2 M), V X g w 3 0 0 (QI X g w post 0 0) 14 [some (ob g t), some (.int x1), some (.int x2)] [] M := by
  intro kf
  induction kf with
  | zero => intro t x1 x2 M ht h; exact absurd h id
  | succ kf ih =>
    intro t x1 x2 M ht h
    rw [f_SR_expectedKinds_14] at h
    refine V_iload_n hC rfl dX10_expectedKinds_14 ?_
    refine V_bipush (v := 6) hC (by decide) dX10_expectedKinds_15 ?_
    refine V_icmp_ge (tgt := 53) hC dX10_expectedKinds_17 (by decide) (fun b7 => ?_) (fun b7 => ?_)
    · replace h := h.1 b7
      refine V_iload_n hC rfl dX10_expectedKinds_53 ?_
      exact V_iret hC h dX10_expectedKinds_54
    · replace h := h.2 b7
      refine V_aload_n hC rfl dX10_expectedKinds_20 ?_
      refine gf_10_0 hC ht tw_268 dX10_expectedKinds_21 ?_
      refine gfN_8_0 hC (ok_10_0 ht) tw_99 dX10_expectedKinds_24 ?_
      refine V_aload_n hC rfl dX10_expectedKinds_27 ?_
      refine gf_10_6 hC ht tw_274 dX10_expectedKinds_28 ?_
      refine gfN_2_1 hC (ok_10_6 ht) tw_257 dX10_expectedKinds_31 ?_
      refine V_iload_n hC rfl dX10_expectedKinds_34 ?_
      refine V_calli (As := [.int (M (t + 144) 1), .int x2]) hC (c_Au_after X.2.1 g w fu _ (t + 2) (M (t + 144) 1) x2 M (ok_8_0 (ok_10_0 ht)) h) mw_X0_after (by decide) tw_622 (ok_8_0 (ok_10_0 ht)) (by decide) rfl rfl rfl (Nat.le_of_ble_eq_true rfl) ⟨Nat.zero_le _, Nat.zero_le _⟩ dX10_expectedKinds_35 (fun r2 M1 h => ?_)
      refine V_if_lt (tgt := 47) hC dX10_expectedKinds_38 (by decide) (fun b6 => ?_) (fun b6 => ?_)
      · replace h := h.1 b6
        obtain ⟨y3, ey3⟩ : ∃ z, z = x2 + 1 := ⟨_, rfl⟩
        replace h := h y3 ey3
        refine V_iinc (v := y3) hC rfl (by rw [ey3]; rfl) (by decide) dX10_expectedKinds_47 ?_
        refine V_goto (tgt := 14) hC (by decide) dX10_expectedKinds_50 ?_
        refine V_sub (us := [some (ob g t), some (.int x1), some (.int y3)]) ⟨rfl, rfl, rfl, trivial⟩ ?_
        exact ih t x1 y3 M1 ht h
      · replace h := h.2 b6
        refine V_iload_n hC rfl dX10_expectedKinds_41 ?_
        refine V_iconst (v := 1) hC (by decide) dX10_expectedKinds_42 ?_
        refine V_iload_n hC rfl dX10_expectedKinds_43 ?_
        refine V_ishl hC dX10_expectedKinds_44 ?_
        refine V_ior hC dX10_expectedKinds_45 ?_
        refine V_topi (fun y4 ey4 => ?_)
        replace h := h y4 ey4
        refine V_istore_n hC (by decide) dX10_expectedKinds_46 ?_
        obtain ⟨y5, ey5⟩ : ∃ z, z = x2 + 1 := ⟨_, rfl⟩
        replace h := h y5 ey5
        refine V_iinc (v := y5) hC rfl (by rw [ey5]; rfl) (by decide) dX10_expectedKinds_47 ?_
        refine V_goto (tgt := 14) hC (by decide) dX10_expectedKinds_50 ?_
        refine V_sub (us := [some (ob g t), some (.int y4), some (.int y5)]) ⟨rfl, rfl, rfl, trivial⟩ ?_
        exact ih t y4 y5 M1 ht h
set_option maxRecDepth 100000 in
theorem c_SR_expectedKinds (l : Launch) (g : GX) (w : WX) (fu : Nat) (post : Int32 → Mm → Prop) (t : Nat) (M : Mm) (ht : ok w t 10) (h : f_SR_expectedKinds fu post t M) : Met l yX10_expectedKinds [Cond.code yX10_expectedKinds cX10_expectedKinds 3 (some .int)] (rmC 4 0 0) (va_Pc [ob g t] (Wb g w M)) (va_Qi post (Wb g w) (Af g)) 0 0 (Af g) := by
  refine Ct_i (by decide) rfl (fun v hv => by simp only [List.mem_cons, List.not_mem_nil, or_false] at hv; rcases hv with rfl <;> rfl) (Nat.le_of_ble_eq_true rfl) (Nat.le_refl _) ?_
  intro X hX _ hC
  unfold f_SR_expectedKinds at h
  refine V_sub (us := [some (ob g t), none, none]) ⟨rfl, trivial⟩ ?_
  refine V_aload_n hC rfl dX10_expectedKinds_0 ?_
  refine V_calli (As := []) hC (c_SR_findError X.2.1 g w fu _ t M ht h) mw_X10_findError (by decide) tw_576 ht (by decide) rfl rfl rfl (Nat.le_of_ble_eq_true rfl) ⟨Nat.zero_le _, Nat.zero_le _⟩ dX10_expectedKinds_1 (fun r2 M1 h => ?_)
  obtain ⟨hzr2, h⟩ := h
  refine V_if_ne (tgt := 10) hC dX10_expectedKinds_4 (by decide) (fun b3 => ?_) (fun b3 => ?_)
  · replace h := h.2 b3
    refine V_iconst (v := 0) hC (by decide) dX10_expectedKinds_10 ?_
    refine V_istore_n hC (by decide) dX10_expectedKinds_11 ?_
    refine V_iconst (v := 0) hC (by decide) dX10_expectedKinds_12 ?_
    refine V_istore_n hC (by decide) dX10_expectedKinds_13 ?_
    refine V_sub (us := [some (ob g t), some (.int 0), some (.int 0)]) ⟨rfl, rfl, rfl, trivial⟩ ?_
    exact l_SR_expectedKinds_14 hX hC fu t 0 0 M1 ht h
  · replace h := h.1 b3
    refine V_bipush (v := (-2)) hC (by decide) dX10_expectedKinds_7 ?_
    exact V_iret hC h dX10_expectedKinds_9
def f_Re_configurationAt (fu : Nat) (post : Int32 → Mm → Prop) (t : Nat) (x1 : Int32) (M : Mm) : Prop :=
  f_SR_at fu (fun r2 M1 => post r2 M1) (t + 2) x1 M
set_option maxRecDepth 100000 in
theorem c_Re_configurationAt (l : Launch) (g : GX) (w : WX) (fu : Nat) (post : Int32 → Mm → Prop) (t : Nat) (x1 : Int32) (M : Mm) (ht : ok w t 5) (h : f_Re_configurationAt fu post t x1 M) : Met l yX5_configurationAt [Cond.code yX5_configurationAt cX5_configurationAt 2 (some .int)] (rmC 1 0 0) (va_Pc [ob g t, .int x1] (Wb g w M)) (va_Qi post (Wb g w) (Af g)) 0 0 (Af g) := by
  refine Ct_i (by decide) rfl (fun v hv => by simp only [List.mem_cons, List.not_mem_nil, or_false] at hv; rcases hv with rfl | rfl <;> rfl) (Nat.le_of_ble_eq_true rfl) (Nat.le_refl _) ?_
  intro X hX _ hC
  unfold f_Re_configurationAt at h
  refine V_sub (us := [some (ob g t), some (.int x1)]) ⟨rfl, rfl, trivial⟩ ?_
  refine V_aload_n hC rfl dX5_configurationAt_0 ?_
  refine gf_5_1 hC ht tw_179 dX5_configurationAt_1 ?_
  refine V_iload_n hC rfl dX5_configurationAt_4 ?_
  refine V_scalliN (As := [ob g (t + 2), .int x1]) hC (c_SR_at X.2.1 g w fu _ (t + 2) x1 M (ok_5_1 ht) h) mw_X10_at (by decide) tw_641 rfl rfl (Nat.le_of_ble_eq_true rfl) ⟨Nat.zero_le _, Nat.zero_le _⟩ dX5_configurationAt_5 (fun r2 M1 h => ?_)
  exact V_iret hC h dX5_configurationAt_8
def f_St_store (fu : Nat) (post : Mm → Prop) (t : Nat) (x1 : Int32) (x2 : Int32) (x3 : Int32) (x4 : Int32) (M : Mm) : Prop :=
  f_SR_put fu (fun M1 => f_SR_put fu (fun M2 => f_SR_put fu (fun M3 => post M3) (t + 17) x1 x4 M2) (t + 16) x1 x3 M1) (t + 15) x1 x2 M
set_option maxRecDepth 100000 in
theorem c_St_store (l : Launch) (g : GX) (w : WX) (fu : Nat) (post : Mm → Prop) (t : Nat) (x1 : Int32) (x2 : Int32) (x3 : Int32) (x4 : Int32) (M : Mm) (ht : ok w t 7) (h : f_St_store fu post t x1 x2 x3 x4 M) : Met l yX7_store [Cond.code yX7_store cX7_store 5 (none)] (rmC 1 0 0) (va_Pc [ob g t, .int x1, .int x2, .int x3, .int x4] (Wb g w M)) (va_Qv post (Wb g w) (Af g)) 0 0 (Af g) := by
  refine Ct_v (by decide) rfl (fun v hv => by simp only [List.mem_cons, List.not_mem_nil, or_false] at hv; rcases hv with rfl | rfl | rfl | rfl | rfl <;> rfl) (Nat.le_of_ble_eq_true rfl) (Nat.le_refl _) ?_
  intro X hX _ hC
  unfold f_St_store at h
  refine V_sub (us := [some (ob g t), some (.int x1), some (.int x2), some (.int x3), some (.int x4)]) ⟨rfl, rfl, rfl, rfl, rfl, trivial⟩ ?_
  refine V_aload_n hC rfl dX7_store_0 ?_
  refine gf_7_2 hC ht tw_194 dX7_store_1 ?_
  refine V_iload_n hC rfl dX7_store_4 ?_
  refine V_iload_n hC rfl dX7_store_5 ?_
  refine V_scallvN (As := [ob g (t + 15), .int x1, .int x2]) hC (c_SR_put X.2.1 g w fu _ (t + 15) x1 x2 M (ok_7_2 ht) h) mw_X10_put (by decide) tw_653 rfl rfl (Nat.le_of_ble_eq_true rfl) ⟨Nat.zero_le _, Nat.zero_le _⟩ dX7_store_6 (fun M1 h => ?_)
  refine V_aload_n hC rfl dX7_store_9 ?_
  refine gf_7_3 hC ht tw_195 dX7_store_10 ?_
  refine V_iload_n hC rfl dX7_store_13 ?_
  refine V_iload_n hC rfl dX7_store_14 ?_
  refine V_scallvN (As := [ob g (t + 16), .int x1, .int x3]) hC (c_SR_put X.2.1 g w fu _ (t + 16) x1 x3 M1 (ok_7_3 ht) h) mw_X10_put (by decide) tw_653 rfl rfl (Nat.le_of_ble_eq_true rfl) ⟨Nat.zero_le _, Nat.zero_le _⟩ dX7_store_15 (fun M2 h => ?_)
  refine V_aload_n hC rfl dX7_store_18 ?_
  refine gf_7_4 hC ht tw_196 dX7_store_19 ?_
  refine V_iload_n hC rfl dX7_store_22 ?_
  refine V_iload hC rfl dX7_store_23 ?_
  refine V_scallvN (As := [ob g (t + 17), .int x1, .int x4]) hC (c_SR_put X.2.1 g w fu _ (t + 17) x1 x4 M2 (ok_7_4 ht) h) mw_X10_put (by decide) tw_653 rfl rfl (Nat.le_of_ble_eq_true rfl) ⟨Nat.zero_le _, Nat.zero_le _⟩ dX7_store_25 (fun M3 h => ?_)
  exact V_vret hC h dX7_store_28
def f_St_offer_100 (fu : Nat) (post : Mm → Prop) (t : Nat) (x1 : Int32) (x2 : Int32) (M : Mm) : Prop :=
  f_SR_at fu (fun r2 M1 => ∀ M3, M3 = up M1 t 8 (if (x1 + r2) < (M t 8) then (x1 + r2) else (M t 8)) → post M3) (t + 16) x2 M
def f_St_offer (fu : Nat) (post : Mm → Prop) (t : Nat) (x1 : Int32) (x2 : Int32) (M : Mm) : Prop :=
  f_SR_at fu (fun r2 M1 => ∀ y3, y3 = (x1 + r2) → ((y3 < 1000000) → (((M1 t 7) ≤ y3) → ((y3 = (M1 t 7)) → f_SR_at fu (fun r6 M5 => ∀ M7, M7 = up M5 t 9 (if 1000 < ((M1 t 9) + r6) then 1000 else ((M1 t 9) + r6)) → f_St_offer_100 fu post t x1 x2 M7) (t + 17) x2 M1) ∧ (¬ (y3 = (M1 t 7)) → ∀ M4, M4 = up M1 t 8 (if y3 < (M1 t 8) then y3 else (M1 t 8)) → f_St_offer_100 fu post t x1 x2 M4)) ∧ (¬ ((M1 t 7) ≤ y3) → ∀ M9, M9 = up M1 t 8 (M1 t 7) → ∀ M10, M10 = up M9 t 7 y3 → f_SR_at fu (fun r12 M11 => ∀ M13, M13 = up M11 t 9 r12 → f_St_offer_100 fu post t x1 x2 M13) (t + 17) x2 M10)) ∧ (¬ (y3 < 1000000) → post M1)) (t + 15) x2 M
set_option maxRecDepth 100000 in
theorem j_St_offer_100 {l : Launch} {X : CX} {g : GX} {w : WX} {fu : Nat} {post : Mm → Prop} (hX : X.2.1 = l) (hC : Cx X g cX7_offer 4 RX7 (none) 1) (t : Nat) (x1 : Int32) (x2 : Int32) {M : Mm} (ht : ok w t 7) (h : f_St_offer_100 fu post t x1 x2 M) : V X g w 4 0 0 (QV X g w post 0 0) 100 [some (ob g t), some (.int x1), some (.int x2), none] [] M := by
  unfold f_St_offer_100 at h
  refine V_aload_n hC rfl dX7_offer_100 ?_
  refine V_aload_n hC rfl dX7_offer_101 ?_
  refine gf_7_8 hC ht tw_201 dX7_offer_102 ?_
  refine V_iload_n hC rfl dX7_offer_105 ?_
  refine V_aload_n hC rfl dX7_offer_106 ?_
  refine gf_7_3 hC ht tw_195 dX7_offer_107 ?_
  refine V_iload_n hC rfl dX7_offer_110 ?_
  refine V_scalliN (As := [ob g (t + 16), .int x2]) hC (c_SR_at X.2.1 g w fu _ (t + 16) x2 M (ok_7_3 ht) h) mw_X10_at (by decide) tw_682 rfl rfl (Nat.le_of_ble_eq_true rfl) ⟨Nat.zero_le _, Nat.zero_le _⟩ dX7_offer_111 (fun r2 M1 h => ?_)
  refine V_iadd hC dX7_offer_114 ?_
  refine V_min hC tw_667 tw_466 tw_17 tw_min (by decide) (Nat.le_of_ble_eq_true rfl) ⟨Nat.zero_le _, Nat.zero_le _⟩ dX7_offer_115 ?_
  refine pf_7_8 hC ht tw_201 dX7_offer_118 ?_
  obtain ⟨M3, eM3⟩ : ∃ z, z = up M1 t 8 (if (x1 + r2) < (M t 8) then (x1 + r2) else (M t 8)) := ⟨_, rfl⟩
  replace h := h M3 eM3
  refine V_mem eM3 ?_
  exact V_vret hC h dX7_offer_121
set_option maxRecDepth 100000 in
theorem c_St_offer (l : Launch) (g : GX) (w : WX) (fu : Nat) (post : Mm → Prop) (t : Nat) (x1 : Int32) (x2 : Int32) (M : Mm) (ht : ok w t 7) (h : f_St_offer fu post t x1 x2 M) : Met l yX7_offer [Cond.code yX7_offer cX7_offer 4 (none)] (rmC 1 0 0) (va_Pc [ob g t, .int x1, .int x2] (Wb g w M)) (va_Qv post (Wb g w) (Af g)) 0 0 (Af g) := by
  refine Ct_v (by decide) rfl (fun v hv => by simp only [List.mem_cons, List.not_mem_nil, or_false] at hv; rcases hv with rfl | rfl | rfl <;> rfl) (Nat.le_of_ble_eq_true rfl) (Nat.le_refl _) ?_
  intro X hX _ hC
  unfold f_St_offer at h
  refine V_sub (us := [some (ob g t), some (.int x1), some (.int x2), none]) ⟨rfl, rfl, rfl, trivial⟩ ?_
  refine V_iload_n hC rfl dX7_offer_0 ?_
  refine V_aload_n hC rfl dX7_offer_1 ?_
  refine gf_7_2 hC ht tw_194 dX7_offer_2 ?_
  refine V_iload_n hC rfl dX7_offer_5 ?_
  refine V_scalliN (As := [ob g (t + 15), .int x2]) hC (c_SR_at X.2.1 g w fu _ (t + 15) x2 M (ok_7_2 ht) h) mw_X10_at (by decide) tw_682 rfl rfl (Nat.le_of_ble_eq_true rfl) ⟨Nat.zero_le _, Nat.zero_le _⟩ dX7_offer_6 (fun r2 M1 h => ?_)
  refine V_iadd hC dX7_offer_9 ?_
  refine V_topi (fun y3 ey3 => ?_)
  replace h := h y3 ey3
  refine V_istore_n hC (by decide) dX7_offer_10 ?_
  refine V_iload_n hC rfl dX7_offer_11 ?_
  refine V_ldc hC tw_648 dX7_offer_12 ?_
  refine V_icmp_lt (tgt := 18) hC dX7_offer_14 (by decide) (fun b15 => ?_) (fun b15 => ?_)
  · replace h := h.1 b15
    refine V_iload_n hC rfl dX7_offer_18 ?_
    refine V_aload_n hC rfl dX7_offer_19 ?_
    refine gf_7_7 hC ht tw_200 dX7_offer_20 ?_
    refine V_icmp_ge (tgt := 54) hC dX7_offer_23 (by decide) (fun b14 => ?_) (fun b14 => ?_)
    · replace h := h.1 b14
      refine V_iload_n hC rfl dX7_offer_54 ?_
      refine V_aload_n hC rfl dX7_offer_55 ?_
      refine gf_7_7 hC ht tw_200 dX7_offer_56 ?_
      refine V_icmp_ne (tgt := 88) hC dX7_offer_59 (by decide) (fun b8 => ?_) (fun b8 => ?_)
      · replace h := h.2 b8
        refine V_aload_n hC rfl dX7_offer_88 ?_
        refine V_aload_n hC rfl dX7_offer_89 ?_
        refine gf_7_8 hC ht tw_201 dX7_offer_90 ?_
        refine V_iload_n hC rfl dX7_offer_93 ?_
        refine V_min hC tw_667 tw_466 tw_17 tw_min (by decide) (Nat.le_of_ble_eq_true rfl) ⟨Nat.zero_le _, Nat.zero_le _⟩ dX7_offer_94 ?_
        refine pf_7_8 hC ht tw_201 dX7_offer_97 ?_
        obtain ⟨M4, eM4⟩ : ∃ z, z = up M1 t 8 (if y3 < (M1 t 8) then y3 else (M1 t 8)) := ⟨_, rfl⟩
        replace h := h M4 eM4
        refine V_mem eM4 ?_
        refine V_sub (us := [some (ob g t), some (.int x1), some (.int x2), none]) ⟨rfl, rfl, rfl, trivial⟩ ?_
        exact j_St_offer_100 hX hC t x1 x2 ht h
      · replace h := h.1 b8
        refine V_aload_n hC rfl dX7_offer_62 ?_
        refine V_aload_n hC rfl dX7_offer_63 ?_
        refine gf_7_9 hC ht tw_202 dX7_offer_64 ?_
        refine V_aload_n hC rfl dX7_offer_67 ?_
        refine gf_7_4 hC ht tw_196 dX7_offer_68 ?_
        refine V_iload_n hC rfl dX7_offer_71 ?_
        refine V_scalliN (As := [ob g (t + 17), .int x2]) hC (c_SR_at X.2.1 g w fu _ (t + 17) x2 M1 (ok_7_4 ht) h) mw_X10_at (by decide) tw_682 rfl rfl (Nat.le_of_ble_eq_true rfl) ⟨Nat.zero_le _, Nat.zero_le _⟩ dX7_offer_72 (fun r6 M5 h => ?_)
        refine V_iadd hC dX7_offer_75 ?_
        refine V_sipush (v := 1000) hC (by decide) dX7_offer_76 ?_
        refine V_min hC tw_667 tw_466 tw_17 tw_min (by decide) (Nat.le_of_ble_eq_true rfl) ⟨Nat.zero_le _, Nat.zero_le _⟩ dX7_offer_79 ?_
        refine pf_7_9 hC ht tw_202 dX7_offer_82 ?_
        obtain ⟨M7, eM7⟩ : ∃ z, z = up M5 t 9 (if 1000 < ((M1 t 9) + r6) then 1000 else ((M1 t 9) + r6)) := ⟨_, rfl⟩
        replace h := h M7 eM7
        refine V_mem eM7 ?_
        refine V_goto (tgt := 100) hC (by decide) dX7_offer_85 ?_
        refine V_sub (us := [some (ob g t), some (.int x1), some (.int x2), none]) ⟨rfl, rfl, rfl, trivial⟩ ?_
        exact j_St_offer_100 hX hC t x1 x2 ht h
    · replace h := h.2 b14
      refine V_aload_n hC rfl dX7_offer_26 ?_
      refine V_aload_n hC rfl dX7_offer_27 ?_
      refine gf_7_7 hC ht tw_200 dX7_offer_28 ?_
      refine pf_7_8 hC ht tw_201 dX7_offer_31 ?_
      obtain ⟨M9, eM9⟩ : ∃ z, z = up M1 t 8 (M1 t 7) := ⟨_, rfl⟩
      replace h := h M9 eM9
      refine V_mem eM9 ?_
      refine V_aload_n hC rfl dX7_offer_34 ?_
      refine V_iload_n hC rfl dX7_offer_35 ?_
      refine pf_7_7 hC ht tw_200 dX7_offer_36 ?_
      obtain ⟨M10, eM10⟩ : ∃ z, z = up M9 t 7 y3 := ⟨_, rfl⟩
      replace h := h M10 eM10
      refine V_mem eM10 ?_
      refine V_aload_n hC rfl dX7_offer_39 ?_
      refine V_aload_n hC rfl dX7_offer_40 ?_
      refine gf_7_4 hC ht tw_196 dX7_offer_41 ?_
      refine V_iload_n hC rfl dX7_offer_44 ?_
      refine V_scalliN (As := [ob g (t + 17), .int x2]) hC (c_SR_at X.2.1 g w fu _ (t + 17) x2 M10 (ok_7_4 ht) h) mw_X10_at (by decide) tw_682 rfl rfl (Nat.le_of_ble_eq_true rfl) ⟨Nat.zero_le _, Nat.zero_le _⟩ dX7_offer_45 (fun r12 M11 h => ?_)
      refine pf_7_9 hC ht tw_202 dX7_offer_48 ?_
      obtain ⟨M13, eM13⟩ : ∃ z, z = up M11 t 9 r12 := ⟨_, rfl⟩
      replace h := h M13 eM13
      refine V_mem eM13 ?_
      refine V_goto (tgt := 100) hC (by decide) dX7_offer_51 ?_
      refine V_sub (us := [some (ob g t), some (.int x1), some (.int x2), none]) ⟨rfl, rfl, rfl, trivial⟩ ?_
      exact j_St_offer_100 hX hC t x1 x2 ht h
  · replace h := h.2 b15
    exact V_vret hC h dX7_offer_17
def f_Re_after (fu : Nat) (post : Int32 → Mm → Prop) (t : Nat) (x1 : Int32) (x2 : Int32) (M : Mm) : Prop :=
  ∀ y1, y1 = ((x1 * 6) + x2) → ((y1 < 0) → post (-1) M) ∧ (¬ (y1 < 0) → (((nI (ln (t + 1))) ≤ y1) → post (-1) M) ∧ (¬ ((nI (ln (t + 1))) ≤ y1) → vp_in y1 (ln (t + 1)) ∧ post (M (t + 1) y1.toNatClampNeg) M))
set_option maxRecDepth 100000 in
theorem c_Re_after (l : Launch) (g : GX) (w : WX) (fu : Nat) (post : Int32 → Mm → Prop) (t : Nat) (x1 : Int32) (x2 : Int32) (M : Mm) (ht : ok w t 5) (h : f_Re_after fu post t x1 x2 M) : Met l yX5_after [Cond.code yX5_after cX5_after 4 (some .int)] (rmC 0 0 0) (va_Pc [ob g t, .int x1, .int x2] (Wb g w M)) (va_Qi post (Wb g w) (Af g)) 0 0 (Af g) := by
  refine Ct_i (by decide) rfl (fun v hv => by simp only [List.mem_cons, List.not_mem_nil, or_false] at hv; rcases hv with rfl | rfl | rfl <;> rfl) (Nat.le_of_ble_eq_true rfl) (Nat.le_refl _) ?_
  intro X hX _ hC
  unfold f_Re_after at h
  refine V_sub (us := [some (ob g t), some (.int x1), some (.int x2), none]) ⟨rfl, rfl, rfl, trivial⟩ ?_
  refine V_iload_n hC rfl dX5_after_0 ?_
  refine V_bipush (v := 6) hC (by decide) dX5_after_1 ?_
  refine V_imul hC dX5_after_3 ?_
  refine V_iload_n hC rfl dX5_after_4 ?_
  refine V_iadd hC dX5_after_5 ?_
  refine V_topi (fun y1 ey1 => ?_)
  replace h := h y1 ey1
  refine V_istore_n hC (by decide) dX5_after_6 ?_
  refine V_iload_n hC rfl dX5_after_7 ?_
  refine V_if_lt (tgt := 29) hC dX5_after_8 (by decide) (fun b4 => ?_) (fun b4 => ?_)
  · replace h := h.1 b4
    refine V_iconst (v := (-1)) hC (by decide) dX5_after_29 ?_
    exact V_iret hC h dX5_after_30
  · replace h := h.2 b4
    refine V_iload_n hC rfl dX5_after_11 ?_
    refine V_aload_n hC rfl dX5_after_12 ?_
    refine gf_5_0 hC ht tw_178 dX5_after_13 ?_
    refine V_alen hC (ok_5_0 ht) rfl dX5_after_16 ?_
    refine V_icmp_ge (tgt := 29) hC dX5_after_17 (by decide) (fun b3 => ?_) (fun b3 => ?_)
    · replace h := h.1 b3
      refine V_iconst (v := (-1)) hC (by decide) dX5_after_29 ?_
      exact V_iret hC h dX5_after_30
    · replace h := h.2 b3
      refine V_aload_n hC rfl dX5_after_20 ?_
      refine gf_5_0 hC ht tw_178 dX5_after_21 ?_
      refine V_iload_n hC rfl dX5_after_24 ?_
      obtain ⟨q2, h⟩ := h
      refine V_iald hC (ok_5_0 ht) q2 dX5_after_25 ?_
      refine V_goto (tgt := 30) hC (by decide) dX5_after_26 ?_
      exact V_iret hC h dX5_after_30
def f_St_offerConsumption_88 (fu : Nat) (post : Mm → Prop) (t : Nat) (x1 : Int32) (x2 : Int32) (x3 : Int32) (M : Mm) : Prop :=
  f_Co_of fu (fun r2 M1 => f_St_offer fu (fun M3 => post M3) t r2 ((x1 * 96) + x3) M1) (t + 7) 3 x2 M
def f_St_offerConsumption_57 (fu : Nat) (post : Mm → Prop) (t : Nat) (x1 : Int32) (x2 : Int32) (x3 : Int32) (x4 : Int32) (x5 : Int32) (M : Mm) : Prop :=
  ((x4 < 0) → f_St_offerConsumption_88 fu post t x1 x2 x3 M) ∧ (¬ (x4 < 0) → ((x4 = x2) → f_St_offerConsumption_88 fu post t x1 x2 x3 M) ∧ (¬ (x4 = x2) → f_Co_of fu (fun r2 M1 => f_St_offer fu (fun M3 => f_St_offerConsumption_88 fu post t x1 x2 x3 M3) t r2 (x5 + x3) M1) (t + 7) 1 x2 M))
def f_St_offerConsumption (fu : Nat) (post : Mm → Prop) (t : Nat) (x1 : Int32) (x2 : Int32) (x3 : Int32) (M : Mm) : Prop :=
  f_To_kindAt fu (fun r2 M1 => ∀ y3, y3 = ((x1 + 1) * 96) → ((r2 = x2) → (((M1 t 6) = 0) → f_Co_of fu (fun r5 M4 => f_St_offer fu (fun M6 => f_St_offerConsumption_88 fu post t x1 x2 x3 M6) t r5 (y3 + x3) M4) (t + 7) 0 x2 M1) ∧ (¬ ((M1 t 6) = 0) → f_St_offerConsumption_57 fu post t x1 x2 x3 r2 y3 M1)) ∧ (¬ (r2 = x2) → f_St_offerConsumption_57 fu post t x1 x2 x3 r2 y3 M1)) (t + 9) x1 M
set_option maxRecDepth 100000 in
theorem j_St_offerConsumption_88 {l : Launch} {X : CX} {g : GX} {w : WX} {fu : Nat} {post : Mm → Prop} (hX : X.2.1 = l) (hC : Cx X g cX7_offerConsumption 6 RX7 (none) 2) (t : Nat) (x1 : Int32) (x2 : Int32) (x3 : Int32) {M : Mm} (ht : ok w t 7) (h : f_St_offerConsumption_88 fu post t x1 x2 x3 M) : V X g w 6 0 0 (QV X g w post 0 0) 88 [some (ob g t), some (.int x1), some (.int x2), some (.int x3), none, none] [] M := by
  unfold f_St_offerConsumption_88 at h
  refine V_aload_n hC rfl dX7_offerConsumption_88 ?_
  refine V_aload_n hC rfl dX7_offerConsumption_89 ?_
  refine gf_7_0 hC ht tw_192 dX7_offerConsumption_90 ?_
  refine gfN_8_1 hC (ok_7_0 ht) tw_105 dX7_offerConsumption_93 ?_
  refine V_iconst (v := 3) hC (by decide) dX7_offerConsumption_96 ?_
  refine V_iload_n hC rfl dX7_offerConsumption_97 ?_
  refine V_calli (As := [.int 3, .int x2]) hC (c_Co_of X.2.1 g w fu _ (t + 7) 3 x2 M (ok_8_1 (ok_7_0 ht)) h) mw_X1_of (by decide) tw_677 (ok_8_1 (ok_7_0 ht)) (by decide) rfl rfl rfl (Nat.le_of_ble_eq_true rfl) ⟨Nat.zero_le _, Nat.zero_le _⟩ dX7_offerConsumption_98 (fun r2 M1 h => ?_)
  refine V_iload_n hC rfl dX7_offerConsumption_101 ?_
  refine V_bipush (v := 96) hC (by decide) dX7_offerConsumption_102 ?_
  refine V_imul hC dX7_offerConsumption_104 ?_
  refine V_iload_n hC rfl dX7_offerConsumption_105 ?_
  refine V_iadd hC dX7_offerConsumption_106 ?_
  refine V_callv (As := [.int r2, .int ((x1 * 96) + x3)]) hC (c_St_offer X.2.1 g w fu _ t r2 ((x1 * 96) + x3) M1 ht h) mw_X7_offer (by decide) tw_678 ht (by decide) rfl rfl rfl (Nat.le_of_ble_eq_true rfl) ⟨Nat.zero_le _, Nat.zero_le _⟩ dX7_offerConsumption_107 (fun M3 h => ?_)
  exact V_vret hC h dX7_offerConsumption_110
set_option maxRecDepth 100000 in
theorem j_St_offerConsumption_57 {l : Launch} {X : CX} {g : GX} {w : WX} {fu : Nat} {post : Mm → Prop} (hX : X.2.1 = l) (hC : Cx X g cX7_offerConsumption 6 RX7 (none) 2) (t : Nat) (x1 : Int32) (x2 : Int32) (x3 : Int32) (x4 : Int32) (x5 : Int32) {M : Mm} (ht : ok w t 7) (h : f_St_offerConsumption_57 fu post t x1 x2 x3 x4 x5 M) : V X g w 6 0 0 (QV X g w post 0 0) 57 [some (ob g t), some (.int x1), some (.int x2), some (.int x3), some (.int x4), some (.int x5)] [] M := by
  unfold f_St_offerConsumption_57 at h
  refine V_iload hC rfl dX7_offerConsumption_57 ?_
  refine V_if_lt (tgt := 88) hC dX7_offerConsumption_59 (by decide) (fun b5 => ?_) (fun b5 => ?_)
  · replace h := h.1 b5
    refine V_sub (us := [some (ob g t), some (.int x1), some (.int x2), some (.int x3), none, none]) ⟨rfl, rfl, rfl, rfl, trivial⟩ ?_
    exact j_St_offerConsumption_88 hX hC t x1 x2 x3 ht h
  · replace h := h.2 b5
    refine V_iload hC rfl dX7_offerConsumption_62 ?_
    refine V_iload_n hC rfl dX7_offerConsumption_64 ?_
    refine V_icmp_eq (tgt := 88) hC dX7_offerConsumption_65 (by decide) (fun b4 => ?_) (fun b4 => ?_)
    · replace h := h.1 b4
      refine V_sub (us := [some (ob g t), some (.int x1), some (.int x2), some (.int x3), none, none]) ⟨rfl, rfl, rfl, rfl, trivial⟩ ?_
      exact j_St_offerConsumption_88 hX hC t x1 x2 x3 ht h
    · replace h := h.2 b4
      refine V_aload_n hC rfl dX7_offerConsumption_68 ?_
      refine V_aload_n hC rfl dX7_offerConsumption_69 ?_
      refine gf_7_0 hC ht tw_192 dX7_offerConsumption_70 ?_
      refine gfN_8_1 hC (ok_7_0 ht) tw_105 dX7_offerConsumption_73 ?_
      refine V_iconst (v := 1) hC (by decide) dX7_offerConsumption_76 ?_
      refine V_iload_n hC rfl dX7_offerConsumption_77 ?_
      refine V_calli (As := [.int 1, .int x2]) hC (c_Co_of X.2.1 g w fu _ (t + 7) 1 x2 M (ok_8_1 (ok_7_0 ht)) h) mw_X1_of (by decide) tw_677 (ok_8_1 (ok_7_0 ht)) (by decide) rfl rfl rfl (Nat.le_of_ble_eq_true rfl) ⟨Nat.zero_le _, Nat.zero_le _⟩ dX7_offerConsumption_78 (fun r2 M1 h => ?_)
      refine V_iload hC rfl dX7_offerConsumption_81 ?_
      refine V_iload_n hC rfl dX7_offerConsumption_83 ?_
      refine V_iadd hC dX7_offerConsumption_84 ?_
      refine V_callv (As := [.int r2, .int (x5 + x3)]) hC (c_St_offer X.2.1 g w fu _ t r2 (x5 + x3) M1 ht h) mw_X7_offer (by decide) tw_678 ht (by decide) rfl rfl rfl (Nat.le_of_ble_eq_true rfl) ⟨Nat.zero_le _, Nat.zero_le _⟩ dX7_offerConsumption_85 (fun M3 h => ?_)
      refine V_sub (us := [some (ob g t), some (.int x1), some (.int x2), some (.int x3), none, none]) ⟨rfl, rfl, rfl, rfl, trivial⟩ ?_
      exact j_St_offerConsumption_88 hX hC t x1 x2 x3 ht h
set_option maxRecDepth 100000 in
theorem c_St_offerConsumption (l : Launch) (g : GX) (w : WX) (fu : Nat) (post : Mm → Prop) (t : Nat) (x1 : Int32) (x2 : Int32) (x3 : Int32) (M : Mm) (ht : ok w t 7) (h : f_St_offerConsumption fu post t x1 x2 x3 M) : Met l yX7_offerConsumption [Cond.code yX7_offerConsumption cX7_offerConsumption 6 (none)] (rmC 2 0 0) (va_Pc [ob g t, .int x1, .int x2, .int x3] (Wb g w M)) (va_Qv post (Wb g w) (Af g)) 0 0 (Af g) := by
  refine Ct_v (by decide) rfl (fun v hv => by simp only [List.mem_cons, List.not_mem_nil, or_false] at hv; rcases hv with rfl | rfl | rfl | rfl <;> rfl) (Nat.le_of_ble_eq_true rfl) (Nat.le_refl _) ?_
  intro X hX _ hC
  unfold f_St_offerConsumption at h
  refine V_sub (us := [some (ob g t), some (.int x1), some (.int x2), some (.int x3), none, none]) ⟨rfl, rfl, rfl, rfl, trivial⟩ ?_
  refine V_aload_n hC rfl dX7_offerConsumption_0 ?_
  refine gf_7_0 hC ht tw_192 dX7_offerConsumption_1 ?_
  refine gfN_8_2 hC (ok_7_0 ht) tw_110 dX7_offerConsumption_4 ?_
  refine V_iload_n hC rfl dX7_offerConsumption_7 ?_
  refine V_calli (As := [.int x1]) hC (c_To_kindAt X.2.1 g w fu _ (t + 9) x1 M (ok_8_2 (ok_7_0 ht)) h) mw_X9_kindAt (by decide) tw_668 (ok_8_2 (ok_7_0 ht)) (by decide) rfl rfl rfl (Nat.le_of_ble_eq_true rfl) ⟨Nat.zero_le _, Nat.zero_le _⟩ dX7_offerConsumption_8 (fun r2 M1 h => ?_)
  refine V_istore hC (by decide) dX7_offerConsumption_11 ?_
  refine V_iload_n hC rfl dX7_offerConsumption_13 ?_
  refine V_iconst (v := 1) hC (by decide) dX7_offerConsumption_14 ?_
  refine V_iadd hC dX7_offerConsumption_15 ?_
  refine V_bipush (v := 96) hC (by decide) dX7_offerConsumption_16 ?_
  refine V_imul hC dX7_offerConsumption_18 ?_
  refine V_topi (fun y3 ey3 => ?_)
  replace h := h y3 ey3
  refine V_istore hC (by decide) dX7_offerConsumption_19 ?_
  refine V_iload hC rfl dX7_offerConsumption_21 ?_
  refine V_iload_n hC rfl dX7_offerConsumption_23 ?_
  refine V_icmp_ne (tgt := 57) hC dX7_offerConsumption_24 (by decide) (fun b8 => ?_) (fun b8 => ?_)
  · replace h := h.2 b8
    refine V_sub (us := [some (ob g t), some (.int x1), some (.int x2), some (.int x3), some (.int r2), some (.int y3)]) ⟨rfl, rfl, rfl, rfl, rfl, rfl, trivial⟩ ?_
    exact j_St_offerConsumption_57 hX hC t x1 x2 x3 r2 y3 ht h
  · replace h := h.1 b8
    refine V_aload_n hC rfl dX7_offerConsumption_27 ?_
    refine gf_7_6 hC ht tw_199 dX7_offerConsumption_28 ?_
    refine V_if_ne (tgt := 57) hC dX7_offerConsumption_31 (by decide) (fun b7 => ?_) (fun b7 => ?_)
    · replace h := h.2 b7
      refine V_sub (us := [some (ob g t), some (.int x1), some (.int x2), some (.int x3), some (.int r2), some (.int y3)]) ⟨rfl, rfl, rfl, rfl, rfl, rfl, trivial⟩ ?_
      exact j_St_offerConsumption_57 hX hC t x1 x2 x3 r2 y3 ht h
    · replace h := h.1 b7
      refine V_aload_n hC rfl dX7_offerConsumption_34 ?_
      refine V_aload_n hC rfl dX7_offerConsumption_35 ?_
      refine gf_7_0 hC ht tw_192 dX7_offerConsumption_36 ?_
      refine gfN_8_1 hC (ok_7_0 ht) tw_105 dX7_offerConsumption_39 ?_
      refine V_iconst (v := 0) hC (by decide) dX7_offerConsumption_42 ?_
      refine V_iload_n hC rfl dX7_offerConsumption_43 ?_
      refine V_calli (As := [.int 0, .int x2]) hC (c_Co_of X.2.1 g w fu _ (t + 7) 0 x2 M1 (ok_8_1 (ok_7_0 ht)) h) mw_X1_of (by decide) tw_677 (ok_8_1 (ok_7_0 ht)) (by decide) rfl rfl rfl (Nat.le_of_ble_eq_true rfl) ⟨Nat.zero_le _, Nat.zero_le _⟩ dX7_offerConsumption_44 (fun r5 M4 h => ?_)
      refine V_iload hC rfl dX7_offerConsumption_47 ?_
      refine V_iload_n hC rfl dX7_offerConsumption_49 ?_
      refine V_iadd hC dX7_offerConsumption_50 ?_
      refine V_callv (As := [.int r5, .int (y3 + x3)]) hC (c_St_offer X.2.1 g w fu _ t r5 (y3 + x3) M4 ht h) mw_X7_offer (by decide) tw_678 ht (by decide) rfl rfl rfl (Nat.le_of_ble_eq_true rfl) ⟨Nat.zero_le _, Nat.zero_le _⟩ dX7_offerConsumption_51 (fun M6 h => ?_)
      refine V_goto (tgt := 88) hC (by decide) dX7_offerConsumption_54 ?_
      refine V_sub (us := [some (ob g t), some (.int x1), some (.int x2), some (.int x3), none, none]) ⟨rfl, rfl, rfl, rfl, trivial⟩ ?_
      exact j_St_offerConsumption_88 hX hC t x1 x2 x3 ht h
def f_St_isEnd_61 (fu : Nat) (post : Int32 → Mm → Prop) : Nat → Nat → Int32 → Int32 → Int32 → Int32 → Int32 → Mm → Prop
  | 0, _, _, _, _, _, _, _ => False
  | kf + 1, t, x1, x3, x4, x5, x6, M =>
    ((x4 ≤ x6) → (((x1 + (M t 6)) ≤ x3) → post 1 M) ∧ (¬ ((x1 + (M t 6)) ≤ x3) → f_Au_isFinal fu (fun r2 M1 => ((r2 = 0) → post 0 M1) ∧ (¬ (r2 = 0) → post 1 M1)) (t + 2) x5 M)) ∧ (¬ (x4 ≤ x6) → f_To_kindAt fu (fun r6 M5 => f_Re_after fu (fun r8 M7 => ((0 ≤ r8) → ∀ y9, y9 = x6 + 1 → f_St_isEnd_61 fu post kf t x1 x3 x4 r8 y9 M7) ∧ (¬ (0 ≤ r8) → post 0 M7)) (t + 11) x5 r6 M5) (t + 9) x6 M)
def f_St_isEnd (fu : Nat) (post : Int32 → Mm → Prop) (t : Nat) (x1 : Int32) (x2 : Int32) (M : Mm) : Prop :=
  ∀ y1, y1 = (M (t + 9) 1) → (((M t 6) = 0) → ((x1 = y1) → f_Au_isFinal fu (fun r4 M3 => ((r4 = 0) → post 0 M3) ∧ (¬ (r4 = 0) → post 1 M3)) (t + 2) x2 M) ∧ (¬ (x1 = y1) → post 0 M)) ∧ (¬ ((M t 6) = 0) → ∀ y2, y2 = (if y1 < (x1 + (M t 6)) then y1 else (x1 + (M t 6))) → f_St_isEnd_61 fu post fu t x1 y1 y2 x2 x1 M)
set_option maxRecDepth 100000 in
theorem l_St_isEnd_61 {l : Launch} {X : CX} {g : GX} {w : WX} {fu : Nat} {post : Int32 → Mm → Prop} (hX : X.2.1 = l) (hC : Cx X g cX7_isEnd 7 RX7 (some .boolean) 2) : ∀ (kf : Nat) (t : Nat) (x1 : Int32) (x3 : Int32) (x4 : Int32) (x5 : Int32) (x6 : Int32) (M : Mm) (ht : ok w t 7) (h : f_St_isEnd_61 fu post kf t x1 x3 x4 x5 x6 M), V X g w 7 0 0 (QI X g w (fun r M => zb r ∧ post r M) 0 0) 61 [some (ob g t), some (.int x1), none, some (.int x3), some (.int x4), some (.int x5), some (.int x6)] [] M := by
  intro kf
  induction kf with
  | zero => intro t x1 x3 x4 x5 x6 M ht h; exact absurd h id
  | succ kf ih =>
    intro t x1 x3 x4 x5 x6 M ht h
    rw [f_St_isEnd_61] at h
    refine V_iload hC rfl dX7_isEnd_61 ?_
    refine V_iload hC rfl dX7_isEnd_63 ?_
    refine V_icmp_ge (tgt := 104) hC dX7_isEnd_65 (by decide) (fun b11 => ?_) (fun b11 => ?_)
    · replace h := h.1 b11
      refine V_iload_n hC rfl dX7_isEnd_104 ?_
      refine V_aload_n hC rfl dX7_isEnd_105 ?_
      refine gf_7_6 hC ht tw_199 dX7_isEnd_106 ?_
      refine V_iadd hC dX7_isEnd_109 ?_
      refine V_iload_n hC rfl dX7_isEnd_110 ?_
      refine V_icmp_le (tgt := 129) hC dX7_isEnd_111 (by decide) (fun b4 => ?_) (fun b4 => ?_)
      · replace h := h.1 b4
        refine V_iconst (v := 1) hC (by decide) dX7_isEnd_129 ?_
        refine V_goto (tgt := 134) hC (by decide) dX7_isEnd_130 ?_
        exact V_zret hC (Or.inr rfl) h dX7_isEnd_134
      · replace h := h.2 b4
        refine V_aload_n hC rfl dX7_isEnd_114 ?_
        refine gf_7_0 hC ht tw_192 dX7_isEnd_115 ?_
        refine gfN_8_0 hC (ok_7_0 ht) tw_101 dX7_isEnd_118 ?_
        refine V_iload hC rfl dX7_isEnd_121 ?_
        refine V_calli (As := [.int x5]) hC (c_Au_isFinal X.2.1 g w fu _ (t + 2) x5 M (ok_8_0 (ok_7_0 ht)) h) mw_X0_isFinal (by decide) tw_666 (ok_8_0 (ok_7_0 ht)) (by decide) rfl rfl rfl (Nat.le_of_ble_eq_true rfl) ⟨Nat.zero_le _, Nat.zero_le _⟩ dX7_isEnd_123 (fun r2 M1 h => ?_)
        obtain ⟨hzr2, h⟩ := h
        refine V_if_eq (tgt := 133) hC dX7_isEnd_126 (by decide) (fun b3 => ?_) (fun b3 => ?_)
        · replace h := h.1 b3
          refine V_iconst (v := 0) hC (by decide) dX7_isEnd_133 ?_
          exact V_zret hC (Or.inl rfl) h dX7_isEnd_134
        · replace h := h.2 b3
          refine V_iconst (v := 1) hC (by decide) dX7_isEnd_129 ?_
          refine V_goto (tgt := 134) hC (by decide) dX7_isEnd_130 ?_
          exact V_zret hC (Or.inr rfl) h dX7_isEnd_134
    · replace h := h.2 b11
      refine V_aload_n hC rfl dX7_isEnd_68 ?_
      refine gf_7_1 hC ht tw_193 dX7_isEnd_69 ?_
      refine V_iload hC rfl dX7_isEnd_72 ?_
      refine V_aload_n hC rfl dX7_isEnd_74 ?_
      refine gf_7_0 hC ht tw_192 dX7_isEnd_75 ?_
      refine gfN_8_2 hC (ok_7_0 ht) tw_110 dX7_isEnd_78 ?_
      refine V_iload hC rfl dX7_isEnd_81 ?_
      refine V_calli (As := [.int x6]) hC (c_To_kindAt X.2.1 g w fu _ (t + 9) x6 M (ok_8_2 (ok_7_0 ht)) h) mw_X9_kindAt (by decide) tw_668 (ok_8_2 (ok_7_0 ht)) (by decide) rfl rfl rfl (Nat.le_of_ble_eq_true rfl) ⟨Nat.zero_le _, Nat.zero_le _⟩ dX7_isEnd_83 (fun r6 M5 h => ?_)
      refine V_calli (As := [.int x5, .int r6]) hC (c_Re_after X.2.1 g w fu _ (t + 11) x5 r6 M5 (ok_7_1 ht) h) mw_X5_after (by decide) tw_669 (ok_7_1 ht) (by decide) rfl rfl rfl (Nat.le_of_ble_eq_true rfl) ⟨Nat.zero_le _, Nat.zero_le _⟩ dX7_isEnd_86 (fun r8 M7 h => ?_)
      refine V_istore hC (by decide) dX7_isEnd_89 ?_
      refine V_iload hC rfl dX7_isEnd_91 ?_
      refine V_if_ge (tgt := 98) hC dX7_isEnd_93 (by decide) (fun b10 => ?_) (fun b10 => ?_)
      · replace h := h.1 b10
        obtain ⟨y9, ey9⟩ : ∃ z, z = x6 + 1 := ⟨_, rfl⟩
        replace h := h y9 ey9
        refine V_iinc (v := y9) hC rfl (by rw [ey9]; rfl) (by decide) dX7_isEnd_98 ?_
        refine V_goto (tgt := 61) hC (by decide) dX7_isEnd_101 ?_
        refine V_sub (us := [some (ob g t), some (.int x1), none, some (.int x3), some (.int x4), some (.int r8), some (.int y9)]) ⟨rfl, rfl, rfl, rfl, rfl, rfl, trivial⟩ ?_
        exact ih t x1 x3 x4 r8 y9 M7 ht h
      · replace h := h.2 b10
        refine V_iconst (v := 0) hC (by decide) dX7_isEnd_96 ?_
        exact V_zret hC (Or.inl rfl) h dX7_isEnd_97
set_option maxRecDepth 100000 in
theorem c_St_isEnd (l : Launch) (g : GX) (w : WX) (fu : Nat) (post : Int32 → Mm → Prop) (t : Nat) (x1 : Int32) (x2 : Int32) (M : Mm) (ht : ok w t 7) (h : f_St_isEnd fu post t x1 x2 M) : Met l yX7_isEnd [Cond.code yX7_isEnd cX7_isEnd 7 (some .boolean)] (rmC 2 0 0) (va_Pc [ob g t, .int x1, .int x2] (Wb g w M)) (va_Qi (fun r M => zb r ∧ post r M) (Wb g w) (Af g)) 0 0 (Af g) := by
  refine Ct_i (by decide) rfl (fun v hv => by simp only [List.mem_cons, List.not_mem_nil, or_false] at hv; rcases hv with rfl | rfl | rfl <;> rfl) (Nat.le_of_ble_eq_true rfl) (Nat.le_refl _) ?_
  intro X hX _ hC
  unfold f_St_isEnd at h
  refine V_sub (us := [some (ob g t), some (.int x1), some (.int x2), none, none, none, none]) ⟨rfl, rfl, rfl, trivial⟩ ?_
  refine V_aload_n hC rfl dX7_isEnd_0 ?_
  refine gf_7_0 hC ht tw_192 dX7_isEnd_1 ?_
  refine gfN_8_2 hC (ok_7_0 ht) tw_110 dX7_isEnd_4 ?_
  refine gfN_9_1 hC (ok_8_2 (ok_7_0 ht)) tw_92 dX7_isEnd_7 ?_
  refine V_topi (fun y1 ey1 => ?_)
  replace h := h y1 ey1
  refine V_istore_n hC (by decide) dX7_isEnd_10 ?_
  refine V_aload_n hC rfl dX7_isEnd_11 ?_
  refine gf_7_6 hC ht tw_199 dX7_isEnd_12 ?_
  refine V_if_ne (tgt := 43) hC dX7_isEnd_15 (by decide) (fun b7 => ?_) (fun b7 => ?_)
  · replace h := h.2 b7
    refine V_iload_n hC rfl dX7_isEnd_43 ?_
    refine V_aload_n hC rfl dX7_isEnd_44 ?_
    refine gf_7_6 hC ht tw_199 dX7_isEnd_45 ?_
    refine V_iadd hC dX7_isEnd_48 ?_
    refine V_iload_n hC rfl dX7_isEnd_49 ?_
    refine V_min hC tw_667 tw_466 tw_17 tw_min (by decide) (Nat.le_of_ble_eq_true rfl) ⟨Nat.zero_le _, Nat.zero_le _⟩ dX7_isEnd_50 ?_
    refine V_topi (fun y2 ey2 => ?_)
    replace h := h y2 ey2
    refine V_istore hC (by decide) dX7_isEnd_53 ?_
    refine V_iload_n hC rfl dX7_isEnd_55 ?_
    refine V_istore hC (by decide) dX7_isEnd_56 ?_
    refine V_iload_n hC rfl dX7_isEnd_58 ?_
    refine V_istore hC (by decide) dX7_isEnd_59 ?_
    refine V_sub (us := [some (ob g t), some (.int x1), none, some (.int y1), some (.int y2), some (.int x2), some (.int x1)]) ⟨rfl, rfl, rfl, rfl, rfl, rfl, trivial⟩ ?_
    exact l_St_isEnd_61 hX hC fu t x1 y1 y2 x2 x1 M ht h
  · replace h := h.1 b7
    refine V_iload_n hC rfl dX7_isEnd_18 ?_
    refine V_iload_n hC rfl dX7_isEnd_19 ?_
    refine V_icmp_ne (tgt := 41) hC dX7_isEnd_20 (by decide) (fun b6 => ?_) (fun b6 => ?_)
    · replace h := h.2 b6
      refine V_iconst (v := 0) hC (by decide) dX7_isEnd_41 ?_
      exact V_zret hC (Or.inl rfl) h dX7_isEnd_42
    · replace h := h.1 b6
      refine V_aload_n hC rfl dX7_isEnd_23 ?_
      refine gf_7_0 hC ht tw_192 dX7_isEnd_24 ?_
      refine gfN_8_0 hC (ok_7_0 ht) tw_101 dX7_isEnd_27 ?_
      refine V_iload_n hC rfl dX7_isEnd_30 ?_
      refine V_calli (As := [.int x2]) hC (c_Au_isFinal X.2.1 g w fu _ (t + 2) x2 M (ok_8_0 (ok_7_0 ht)) h) mw_X0_isFinal (by decide) tw_666 (ok_8_0 (ok_7_0 ht)) (by decide) rfl rfl rfl (Nat.le_of_ble_eq_true rfl) ⟨Nat.zero_le _, Nat.zero_le _⟩ dX7_isEnd_31 (fun r4 M3 h => ?_)
      obtain ⟨hzr4, h⟩ := h
      refine V_if_eq (tgt := 41) hC dX7_isEnd_34 (by decide) (fun b5 => ?_) (fun b5 => ?_)
      · replace h := h.1 b5
        refine V_iconst (v := 0) hC (by decide) dX7_isEnd_41 ?_
        exact V_zret hC (Or.inl rfl) h dX7_isEnd_42
      · replace h := h.2 b5
        refine V_iconst (v := 1) hC (by decide) dX7_isEnd_37 ?_
        refine V_goto (tgt := 42) hC (by decide) dX7_isEnd_38 ?_
        exact V_zret hC (Or.inr rfl) h dX7_isEnd_42
def f_St_refresh_186 (fu : Nat) (post : Int32 → Mm → Prop) (t : Nat) (x5 : Int32) (kx0 : Int32) (M : Mm) : Prop :=
  f_St_store fu (fun M1 => ((kx0 = 0) → post 1 M1) ∧ (¬ (kx0 = 0) → post 0 M1)) t x5 (M t 7) (M t 8) (M t 9) M
def f_St_refresh_185 (fu : Nat) (post : Int32 → Mm → Prop) (t : Nat) (x5 : Int32) (M : Mm) : Prop :=
  f_St_refresh_186 fu post t x5 0 M
def f_St_refresh_125 (fu : Nat) (post : Int32 → Mm → Prop) (t : Nat) (x1 : Int32) (x2 : Int32) (M : Mm) : Prop :=
  ∀ y1, y1 = ((x1 * 96) + x2) → f_SR_at fu (fun r3 M2 => ((r3 = (M2 t 7)) → f_SR_at fu (fun r5 M4 => ((r5 = (M4 t 8)) → f_SR_at fu (fun r7 M6 => ((r7 = (M6 t 9)) → f_St_refresh_186 fu post t y1 1 M6) ∧ (¬ (r7 = (M6 t 9)) → f_St_refresh_185 fu post t y1 M6)) (t + 17) y1 M4) ∧ (¬ (r5 = (M4 t 8)) → f_St_refresh_185 fu post t y1 M4)) (t + 16) y1 M2) ∧ (¬ (r3 = (M2 t 7)) → f_St_refresh_185 fu post t y1 M2)) (t + 15) y1 M
def f_St_refresh_43 (fu : Nat) (post : Int32 → Mm → Prop) : Nat → Nat → Int32 → Int32 → Int32 → Mm → Prop
  | 0, _, _, _, _, _ => False
  | kf + 1, t, x1, x2, x4, M =>
    ((6 ≤ x4) → f_To_kindAt fu (fun r2 M1 => ((r2 < 0) → f_St_refresh_125 fu post t x1 x2 M1) ∧ (¬ (r2 < 0) → f_Co_of fu (fun r4 M3 => f_St_offer fu (fun M5 => f_St_refresh_125 fu post t x1 x2 M5) t r4 (((x1 + 1) * 96) + x2) M3) (t + 7) 2 r2 M1)) (t + 9) x1 M) ∧ (¬ (6 ≤ x4) → f_Re_after fu (fun r8 M7 => ((r8 < 0) → ∀ y9, y9 = x4 + 1 → f_St_refresh_43 fu post kf t x1 x2 y9 M7) ∧ (¬ (r8 < 0) → f_St_offerConsumption fu (fun M10 => ∀ y11, y11 = x4 + 1 → f_St_refresh_43 fu post kf t x1 x2 y11 M10) t x1 x4 r8 M7)) (t + 11) x2 x4 M)
def f_St_refresh_37 (fu : Nat) (post : Int32 → Mm → Prop) (t : Nat) (x1 : Int32) (x2 : Int32) (ka0 : Nat) (kx1 : Int32) (M : Mm) : Prop :=
  ∀ M1, M1 = up M ka0 9 kx1 → f_St_refresh_43 fu post fu t x1 x2 0 M1
def f_St_refresh_18 (fu : Nat) (post : Int32 → Mm → Prop) (t : Nat) (x1 : Int32) (x2 : Int32) (x3 : Int32) (ka0 : Nat) (kx1 : Int32) (M : Mm) : Prop :=
  ∀ M1, M1 = up M ka0 7 kx1 → ∀ M2, M2 = up M1 t 8 1000000 → ((x3 = 0) → f_St_refresh_37 fu post t x1 x2 t 0 M2) ∧ (¬ (x3 = 0) → f_St_refresh_37 fu post t x1 x2 t 1 M2)
def f_St_refresh (fu : Nat) (post : Int32 → Mm → Prop) (t : Nat) (x1 : Int32) (x2 : Int32) (M : Mm) : Prop :=
  f_St_isEnd fu (fun r2 M1 => ((r2 = 0) → f_St_refresh_18 fu post t x1 x2 r2 t 1000000 M1) ∧ (¬ (r2 = 0) → f_St_refresh_18 fu post t x1 x2 r2 t 0 M1)) t x1 x2 M
set_option maxRecDepth 100000 in
theorem j_St_refresh_186 {l : Launch} {X : CX} {g : GX} {w : WX} {fu : Nat} {post : Int32 → Mm → Prop} (hX : X.2.1 = l) (hC : Cx X g cX7_refresh 7 RX7 (some .boolean) 3) (t : Nat) (x5 : Int32) (kx0 : Int32) {M : Mm} (ht : ok w t 7) (h : f_St_refresh_186 fu post t x5 kx0 M) : V X g w 7 0 0 (QI X g w (fun r M => zb r ∧ post r M) 0 0) 186 [some (ob g t), none, none, none, none, some (.int x5), none] [.int kx0] M := by
  unfold f_St_refresh_186 at h
  refine V_istore hC (by decide) dX7_refresh_186 ?_
  refine V_aload_n hC rfl dX7_refresh_188 ?_
  refine V_iload hC rfl dX7_refresh_189 ?_
  refine V_aload_n hC rfl dX7_refresh_191 ?_
  refine gf_7_7 hC ht tw_200 dX7_refresh_192 ?_
  refine V_aload_n hC rfl dX7_refresh_195 ?_
  refine gf_7_8 hC ht tw_201 dX7_refresh_196 ?_
  refine V_aload_n hC rfl dX7_refresh_199 ?_
  refine gf_7_9 hC ht tw_202 dX7_refresh_200 ?_
  refine V_callv (As := [.int x5, .int (M t 7), .int (M t 8), .int (M t 9)]) hC (c_St_store X.2.1 g w fu _ t x5 (M t 7) (M t 8) (M t 9) M ht h) mw_X7_store (by decide) tw_649 ht (by decide) rfl rfl rfl (Nat.le_of_ble_eq_true rfl) ⟨Nat.zero_le _, Nat.zero_le _⟩ dX7_refresh_203 (fun M1 h => ?_)
  refine V_iload hC rfl dX7_refresh_206 ?_
  refine V_if_ne (tgt := 215) hC dX7_refresh_208 (by decide) (fun b2 => ?_) (fun b2 => ?_)
  · replace h := h.2 b2
    refine V_iconst (v := 0) hC (by decide) dX7_refresh_215 ?_
    exact V_zret hC (Or.inl rfl) h dX7_refresh_216
  · replace h := h.1 b2
    refine V_iconst (v := 1) hC (by decide) dX7_refresh_211 ?_
    refine V_goto (tgt := 216) hC (by decide) dX7_refresh_212 ?_
    exact V_zret hC (Or.inr rfl) h dX7_refresh_216
set_option maxRecDepth 100000 in
theorem j_St_refresh_185 {l : Launch} {X : CX} {g : GX} {w : WX} {fu : Nat} {post : Int32 → Mm → Prop} (hX : X.2.1 = l) (hC : Cx X g cX7_refresh 7 RX7 (some .boolean) 3) (t : Nat) (x5 : Int32) {M : Mm} (ht : ok w t 7) (h : f_St_refresh_185 fu post t x5 M) : V X g w 7 0 0 (QI X g w (fun r M => zb r ∧ post r M) 0 0) 185 [some (ob g t), none, none, none, none, some (.int x5), none] [] M := by
  unfold f_St_refresh_185 at h
  refine V_iconst (v := 0) hC (by decide) dX7_refresh_185 ?_
  refine V_sub (us := [some (ob g t), none, none, none, none, some (.int x5), none]) ⟨rfl, rfl, trivial⟩ ?_
  exact j_St_refresh_186 hX hC t x5 0 ht h
set_option maxRecDepth 100000 in
theorem j_St_refresh_125 {l : Launch} {X : CX} {g : GX} {w : WX} {fu : Nat} {post : Int32 → Mm → Prop} (hX : X.2.1 = l) (hC : Cx X g cX7_refresh 7 RX7 (some .boolean) 3) (t : Nat) (x1 : Int32) (x2 : Int32) {M : Mm} (ht : ok w t 7) (h : f_St_refresh_125 fu post t x1 x2 M) : V X g w 7 0 0 (QI X g w (fun r M => zb r ∧ post r M) 0 0) 125 [some (ob g t), some (.int x1), some (.int x2), none, none, none, none] [] M := by
  unfold f_St_refresh_125 at h
  refine V_iload_n hC rfl dX7_refresh_125 ?_
  refine V_bipush (v := 96) hC (by decide) dX7_refresh_126 ?_
  refine V_imul hC dX7_refresh_128 ?_
  refine V_iload_n hC rfl dX7_refresh_129 ?_
  refine V_iadd hC dX7_refresh_130 ?_
  refine V_topi (fun y1 ey1 => ?_)
  replace h := h y1 ey1
  refine V_istore hC (by decide) dX7_refresh_131 ?_
  refine V_aload_n hC rfl dX7_refresh_133 ?_
  refine gf_7_2 hC ht tw_194 dX7_refresh_134 ?_
  refine V_iload hC rfl dX7_refresh_137 ?_
  refine V_scalliN (As := [ob g (t + 15), .int y1]) hC (c_SR_at X.2.1 g w fu _ (t + 15) y1 M (ok_7_2 ht) h) mw_X10_at (by decide) tw_682 rfl rfl (Nat.le_of_ble_eq_true rfl) ⟨Nat.zero_le _, Nat.zero_le _⟩ dX7_refresh_139 (fun r3 M2 h => ?_)
  refine V_aload_n hC rfl dX7_refresh_142 ?_
  refine gf_7_7 hC ht tw_200 dX7_refresh_143 ?_
  refine V_icmp_ne (tgt := 185) hC dX7_refresh_146 (by decide) (fun b10 => ?_) (fun b10 => ?_)
  · replace h := h.2 b10
    refine V_sub (us := [some (ob g t), none, none, none, none, some (.int y1), none]) ⟨rfl, rfl, trivial⟩ ?_
    exact j_St_refresh_185 hX hC t y1 ht h
  · replace h := h.1 b10
    refine V_aload_n hC rfl dX7_refresh_149 ?_
    refine gf_7_3 hC ht tw_195 dX7_refresh_150 ?_
    refine V_iload hC rfl dX7_refresh_153 ?_
    refine V_scalliN (As := [ob g (t + 16), .int y1]) hC (c_SR_at X.2.1 g w fu _ (t + 16) y1 M2 (ok_7_3 ht) h) mw_X10_at (by decide) tw_682 rfl rfl (Nat.le_of_ble_eq_true rfl) ⟨Nat.zero_le _, Nat.zero_le _⟩ dX7_refresh_155 (fun r5 M4 h => ?_)
    refine V_aload_n hC rfl dX7_refresh_158 ?_
    refine gf_7_8 hC ht tw_201 dX7_refresh_159 ?_
    refine V_icmp_ne (tgt := 185) hC dX7_refresh_162 (by decide) (fun b9 => ?_) (fun b9 => ?_)
    · replace h := h.2 b9
      refine V_sub (us := [some (ob g t), none, none, none, none, some (.int y1), none]) ⟨rfl, rfl, trivial⟩ ?_
      exact j_St_refresh_185 hX hC t y1 ht h
    · replace h := h.1 b9
      refine V_aload_n hC rfl dX7_refresh_165 ?_
      refine gf_7_4 hC ht tw_196 dX7_refresh_166 ?_
      refine V_iload hC rfl dX7_refresh_169 ?_
      refine V_scalliN (As := [ob g (t + 17), .int y1]) hC (c_SR_at X.2.1 g w fu _ (t + 17) y1 M4 (ok_7_4 ht) h) mw_X10_at (by decide) tw_682 rfl rfl (Nat.le_of_ble_eq_true rfl) ⟨Nat.zero_le _, Nat.zero_le _⟩ dX7_refresh_171 (fun r7 M6 h => ?_)
      refine V_aload_n hC rfl dX7_refresh_174 ?_
      refine gf_7_9 hC ht tw_202 dX7_refresh_175 ?_
      refine V_icmp_ne (tgt := 185) hC dX7_refresh_178 (by decide) (fun b8 => ?_) (fun b8 => ?_)
      · replace h := h.2 b8
        refine V_sub (us := [some (ob g t), none, none, none, none, some (.int y1), none]) ⟨rfl, rfl, trivial⟩ ?_
        exact j_St_refresh_185 hX hC t y1 ht h
      · replace h := h.1 b8
        refine V_iconst (v := 1) hC (by decide) dX7_refresh_181 ?_
        refine V_goto (tgt := 186) hC (by decide) dX7_refresh_182 ?_
        refine V_sub (us := [some (ob g t), none, none, none, none, some (.int y1), none]) ⟨rfl, rfl, trivial⟩ ?_
        exact j_St_refresh_186 hX hC t y1 1 ht h
set_option maxRecDepth 100000 in
theorem l_St_refresh_43 {l : Launch} {X : CX} {g : GX} {w : WX} {fu : Nat} {post : Int32 → Mm → Prop} (hX : X.2.1 = l) (hC : Cx X g cX7_refresh 7 RX7 (some .boolean) 3) : ∀ (kf : Nat) (t : Nat) (x1 : Int32) (x2 : Int32) (x4 : Int32) (M : Mm) (ht : ok w t 7) (h : f_St_refresh_43 fu post kf t x1 x2 x4 M), V X g w 7 0 0 (QI X g w (fun r M => zb r ∧ post r M) 0 0) 43 [some (ob g t), some (.int x1), some (.int x2), none, some (.int x4), none, none] [] M := by
  intro kf
  induction kf with
  | zero => intro t x1 x2 x4 M ht h; exact absurd h id
  | succ kf ih =>
    intro t x1 x2 x4 M ht h
    rw [f_St_refresh_43] at h
    refine V_iload hC rfl dX7_refresh_43 ?_
    refine V_bipush (v := 6) hC (by decide) dX7_refresh_45 ?_
    refine V_icmp_ge (tgt := 82) hC dX7_refresh_47 (by decide) (fun b13 => ?_) (fun b13 => ?_)
    · replace h := h.1 b13
      refine V_aload_n hC rfl dX7_refresh_82 ?_
      refine gf_7_0 hC ht tw_192 dX7_refresh_83 ?_
      refine gfN_8_2 hC (ok_7_0 ht) tw_110 dX7_refresh_86 ?_
      refine V_iload_n hC rfl dX7_refresh_89 ?_
      refine V_calli (As := [.int x1]) hC (c_To_kindAt X.2.1 g w fu _ (t + 9) x1 M (ok_8_2 (ok_7_0 ht)) h) mw_X9_kindAt (by decide) tw_668 (ok_8_2 (ok_7_0 ht)) (by decide) rfl rfl rfl (Nat.le_of_ble_eq_true rfl) ⟨Nat.zero_le _, Nat.zero_le _⟩ dX7_refresh_90 (fun r2 M1 h => ?_)
      refine V_istore hC (by decide) dX7_refresh_93 ?_
      refine V_iload hC rfl dX7_refresh_95 ?_
      refine V_if_lt (tgt := 125) hC dX7_refresh_97 (by decide) (fun b6 => ?_) (fun b6 => ?_)
      · replace h := h.1 b6
        refine V_sub (us := [some (ob g t), some (.int x1), some (.int x2), none, none, none, none]) ⟨rfl, rfl, rfl, trivial⟩ ?_
        exact j_St_refresh_125 hX hC t x1 x2 ht h
      · replace h := h.2 b6
        refine V_aload_n hC rfl dX7_refresh_100 ?_
        refine V_aload_n hC rfl dX7_refresh_101 ?_
        refine gf_7_0 hC ht tw_192 dX7_refresh_102 ?_
        refine gfN_8_1 hC (ok_7_0 ht) tw_105 dX7_refresh_105 ?_
        refine V_iconst (v := 2) hC (by decide) dX7_refresh_108 ?_
        refine V_iload hC rfl dX7_refresh_109 ?_
        refine V_calli (As := [.int 2, .int r2]) hC (c_Co_of X.2.1 g w fu _ (t + 7) 2 r2 M1 (ok_8_1 (ok_7_0 ht)) h) mw_X1_of (by decide) tw_677 (ok_8_1 (ok_7_0 ht)) (by decide) rfl rfl rfl (Nat.le_of_ble_eq_true rfl) ⟨Nat.zero_le _, Nat.zero_le _⟩ dX7_refresh_111 (fun r4 M3 h => ?_)
        refine V_iload_n hC rfl dX7_refresh_114 ?_
        refine V_iconst (v := 1) hC (by decide) dX7_refresh_115 ?_
        refine V_iadd hC dX7_refresh_116 ?_
        refine V_bipush (v := 96) hC (by decide) dX7_refresh_117 ?_
        refine V_imul hC dX7_refresh_119 ?_
        refine V_iload_n hC rfl dX7_refresh_120 ?_
        refine V_iadd hC dX7_refresh_121 ?_
        refine V_callv (As := [.int r4, .int (((x1 + 1) * 96) + x2)]) hC (c_St_offer X.2.1 g w fu _ t r4 (((x1 + 1) * 96) + x2) M3 ht h) mw_X7_offer (by decide) tw_678 ht (by decide) rfl rfl rfl (Nat.le_of_ble_eq_true rfl) ⟨Nat.zero_le _, Nat.zero_le _⟩ dX7_refresh_122 (fun M5 h => ?_)
        refine V_sub (us := [some (ob g t), some (.int x1), some (.int x2), none, none, none, none]) ⟨rfl, rfl, rfl, trivial⟩ ?_
        exact j_St_refresh_125 hX hC t x1 x2 ht h
    · replace h := h.2 b13
      refine V_aload_n hC rfl dX7_refresh_50 ?_
      refine gf_7_1 hC ht tw_193 dX7_refresh_51 ?_
      refine V_iload_n hC rfl dX7_refresh_54 ?_
      refine V_iload hC rfl dX7_refresh_55 ?_
      refine V_calli (As := [.int x2, .int x4]) hC (c_Re_after X.2.1 g w fu _ (t + 11) x2 x4 M (ok_7_1 ht) h) mw_X5_after (by decide) tw_669 (ok_7_1 ht) (by decide) rfl rfl rfl (Nat.le_of_ble_eq_true rfl) ⟨Nat.zero_le _, Nat.zero_le _⟩ dX7_refresh_57 (fun r8 M7 h => ?_)
      refine V_istore hC (by decide) dX7_refresh_60 ?_
      refine V_iload hC rfl dX7_refresh_62 ?_
      refine V_if_lt (tgt := 76) hC dX7_refresh_64 (by decide) (fun b12 => ?_) (fun b12 => ?_)
      · replace h := h.1 b12
        obtain ⟨y9, ey9⟩ : ∃ z, z = x4 + 1 := ⟨_, rfl⟩
        replace h := h y9 ey9
        refine V_iinc (v := y9) hC rfl (by rw [ey9]; rfl) (by decide) dX7_refresh_76 ?_
        refine V_goto (tgt := 43) hC (by decide) dX7_refresh_79 ?_
        refine V_sub (us := [some (ob g t), some (.int x1), some (.int x2), none, some (.int y9), none, none]) ⟨rfl, rfl, rfl, rfl, trivial⟩ ?_
        exact ih t x1 x2 y9 M7 ht h
      · replace h := h.2 b12
        refine V_aload_n hC rfl dX7_refresh_67 ?_
        refine V_iload_n hC rfl dX7_refresh_68 ?_
        refine V_iload hC rfl dX7_refresh_69 ?_
        refine V_iload hC rfl dX7_refresh_71 ?_
        refine V_callv (As := [.int x1, .int x4, .int r8]) hC (c_St_offerConsumption X.2.1 g w fu _ t x1 x4 r8 M7 ht h) mw_X7_offerConsumption (by decide) tw_673 ht (by decide) rfl rfl rfl (Nat.le_of_ble_eq_true rfl) ⟨Nat.zero_le _, Nat.zero_le _⟩ dX7_refresh_73 (fun M10 h => ?_)
        obtain ⟨y11, ey11⟩ : ∃ z, z = x4 + 1 := ⟨_, rfl⟩
        replace h := h y11 ey11
        refine V_iinc (v := y11) hC rfl (by rw [ey11]; rfl) (by decide) dX7_refresh_76 ?_
        refine V_goto (tgt := 43) hC (by decide) dX7_refresh_79 ?_
        refine V_sub (us := [some (ob g t), some (.int x1), some (.int x2), none, some (.int y11), none, none]) ⟨rfl, rfl, rfl, rfl, trivial⟩ ?_
        exact ih t x1 x2 y11 M10 ht h
set_option maxRecDepth 100000 in
theorem j_St_refresh_37 {l : Launch} {X : CX} {g : GX} {w : WX} {fu : Nat} {post : Int32 → Mm → Prop} (hX : X.2.1 = l) (hC : Cx X g cX7_refresh 7 RX7 (some .boolean) 3) (t : Nat) (x1 : Int32) (x2 : Int32) (ka0 : Nat) (kx1 : Int32) {M : Mm} (ht : ok w t 7) (hka0 : ok w ka0 7) (h : f_St_refresh_37 fu post t x1 x2 ka0 kx1 M) : V X g w 7 0 0 (QI X g w (fun r M => zb r ∧ post r M) 0 0) 37 [some (ob g t), some (.int x1), some (.int x2), none, none, none, none] [.int kx1, ob g ka0] M := by
  unfold f_St_refresh_37 at h
  refine pf_7_9 hC hka0 tw_202 dX7_refresh_37 ?_
  obtain ⟨M1, eM1⟩ : ∃ z, z = up M ka0 9 kx1 := ⟨_, rfl⟩
  replace h := h M1 eM1
  refine V_mem eM1 ?_
  refine V_iconst (v := 0) hC (by decide) dX7_refresh_40 ?_
  refine V_istore hC (by decide) dX7_refresh_41 ?_
  refine V_sub (us := [some (ob g t), some (.int x1), some (.int x2), none, some (.int 0), none, none]) ⟨rfl, rfl, rfl, rfl, trivial⟩ ?_
  exact l_St_refresh_43 hX hC fu t x1 x2 0 M1 ht h
set_option maxRecDepth 100000 in
theorem j_St_refresh_18 {l : Launch} {X : CX} {g : GX} {w : WX} {fu : Nat} {post : Int32 → Mm → Prop} (hX : X.2.1 = l) (hC : Cx X g cX7_refresh 7 RX7 (some .boolean) 3) (t : Nat) (x1 : Int32) (x2 : Int32) (x3 : Int32) (ka0 : Nat) (kx1 : Int32) {M : Mm} (ht : ok w t 7) (hka0 : ok w ka0 7) (h : f_St_refresh_18 fu post t x1 x2 x3 ka0 kx1 M) : V X g w 7 0 0 (QI X g w (fun r M => zb r ∧ post r M) 0 0) 18 [some (ob g t), some (.int x1), some (.int x2), some (.int x3), none, none, none] [.int kx1, ob g ka0] M := by
  unfold f_St_refresh_18 at h
  refine pf_7_7 hC hka0 tw_200 dX7_refresh_18 ?_
  obtain ⟨M1, eM1⟩ : ∃ z, z = up M ka0 7 kx1 := ⟨_, rfl⟩
  replace h := h M1 eM1
  refine V_mem eM1 ?_
  refine V_aload_n hC rfl dX7_refresh_21 ?_
  refine V_ldc hC tw_648 dX7_refresh_22 ?_
  refine pf_7_8 hC ht tw_201 dX7_refresh_24 ?_
  obtain ⟨M2, eM2⟩ : ∃ z, z = up M1 t 8 1000000 := ⟨_, rfl⟩
  replace h := h M2 eM2
  refine V_mem eM2 ?_
  refine V_aload_n hC rfl dX7_refresh_27 ?_
  refine V_iload_n hC rfl dX7_refresh_28 ?_
  refine V_if_eq (tgt := 36) hC dX7_refresh_29 (by decide) (fun b3 => ?_) (fun b3 => ?_)
  · replace h := h.1 b3
    refine V_iconst (v := 0) hC (by decide) dX7_refresh_36 ?_
    refine V_sub (us := [some (ob g t), some (.int x1), some (.int x2), none, none, none, none]) ⟨rfl, rfl, rfl, trivial⟩ ?_
    exact j_St_refresh_37 hX hC t x1 x2 t 0 ht ht h
  · replace h := h.2 b3
    refine V_iconst (v := 1) hC (by decide) dX7_refresh_32 ?_
    refine V_goto (tgt := 37) hC (by decide) dX7_refresh_33 ?_
    refine V_sub (us := [some (ob g t), some (.int x1), some (.int x2), none, none, none, none]) ⟨rfl, rfl, rfl, trivial⟩ ?_
    exact j_St_refresh_37 hX hC t x1 x2 t 1 ht ht h
set_option maxRecDepth 100000 in
theorem c_St_refresh (l : Launch) (g : GX) (w : WX) (fu : Nat) (post : Int32 → Mm → Prop) (t : Nat) (x1 : Int32) (x2 : Int32) (M : Mm) (ht : ok w t 7) (h : f_St_refresh fu post t x1 x2 M) : Met l yX7_refresh [Cond.code yX7_refresh cX7_refresh 7 (some .boolean)] (rmC 3 0 0) (va_Pc [ob g t, .int x1, .int x2] (Wb g w M)) (va_Qi (fun r M => zb r ∧ post r M) (Wb g w) (Af g)) 0 0 (Af g) := by
  refine Ct_i (by decide) rfl (fun v hv => by simp only [List.mem_cons, List.not_mem_nil, or_false] at hv; rcases hv with rfl | rfl | rfl <;> rfl) (Nat.le_of_ble_eq_true rfl) (Nat.le_refl _) ?_
  intro X hX _ hC
  unfold f_St_refresh at h
  refine V_sub (us := [some (ob g t), some (.int x1), some (.int x2), none, none, none, none]) ⟨rfl, rfl, rfl, trivial⟩ ?_
  refine V_aload_n hC rfl dX7_refresh_0 ?_
  refine V_iload_n hC rfl dX7_refresh_1 ?_
  refine V_iload_n hC rfl dX7_refresh_2 ?_
  refine V_calli (As := [.int x1, .int x2]) hC (c_St_isEnd X.2.1 g w fu _ t x1 x2 M ht h) mw_X7_isEnd (by decide) tw_662 ht (by decide) rfl rfl rfl (Nat.le_of_ble_eq_true rfl) ⟨Nat.zero_le _, Nat.zero_le _⟩ dX7_refresh_3 (fun r2 M1 h => ?_)
  obtain ⟨hzr2, h⟩ := h
  refine V_istore_n hC (by decide) dX7_refresh_6 ?_
  refine V_aload_n hC rfl dX7_refresh_7 ?_
  refine V_iload_n hC rfl dX7_refresh_8 ?_
  refine V_if_eq (tgt := 16) hC dX7_refresh_9 (by decide) (fun b3 => ?_) (fun b3 => ?_)
  · replace h := h.1 b3
    refine V_ldc hC tw_648 dX7_refresh_16 ?_
    refine V_sub (us := [some (ob g t), some (.int x1), some (.int x2), some (.int r2), none, none, none]) ⟨rfl, rfl, rfl, rfl, trivial⟩ ?_
    exact j_St_refresh_18 hX hC t x1 x2 r2 t 1000000 ht ht h
  · replace h := h.2 b3
    refine V_iconst (v := 0) hC (by decide) dX7_refresh_12 ?_
    refine V_goto (tgt := 18) hC (by decide) dX7_refresh_13 ?_
    refine V_sub (us := [some (ob g t), some (.int x1), some (.int x2), some (.int r2), none, none, none]) ⟨rfl, rfl, rfl, rfl, trivial⟩ ?_
    exact j_St_refresh_18 hX hC t x1 x2 r2 t 0 ht ht h
def f_St_settleLevel_57 (fu : Nat) (post : Mm → Prop) (K33 : Nat → Int32 → Int32 → Int32 → Mm → Prop) : Nat → Nat → Int32 → Int32 → Int32 → Int32 → Mm → Prop
  | 0, _, _, _, _, _, _ => False
  | kf + 1, t, x1, x2, x3, x4, M =>
    ((x4 < 0) → ∀ y1, y1 = x3 + 1 → K33 t x1 x2 y1 M) ∧ (¬ (x4 < 0) → f_Re_configurationAt fu (fun r3 M2 => f_St_refresh fu (fun r5 M4 => ((r5 = 0) → ∀ y6, y6 = x4 + (-1) → f_St_settleLevel_57 fu post K33 kf t x1 x2 x3 y6 M4) ∧ (¬ (r5 = 0) → ∀ y7, y7 = x4 + (-1) → f_St_settleLevel_57 fu post K33 kf t x1 1 x3 y7 M4)) t x1 r3 M2) (t + 11) x4 M)
def f_St_settleLevel_33 (fu : Nat) (post : Mm → Prop) : Nat → Nat → Int32 → Int32 → Int32 → Mm → Prop
  | 0, _, _, _, _, _ => False
  | kf + 1, t, x1, x2, x3, M =>
    ((x2 = 0) → post M) ∧ (¬ (x2 = 0) → ((1000 ≤ x3) → post M) ∧ (¬ (1000 ≤ x3) → ∀ y1, y1 = ((M (t + 11) 3) - 1) → f_St_settleLevel_57 fu post (f_St_settleLevel_33 fu post kf) fu t x1 0 x3 y1 M))
def f_St_settleLevel_2 (fu : Nat) (post : Mm → Prop) : Nat → Nat → Int32 → Int32 → Mm → Prop
  | 0, _, _, _, _ => False
  | kf + 1, t, x1, x2, M =>
    ((96 ≤ x2) → f_St_settleLevel_33 fu post fu t x1 1 0 M) ∧ (¬ (96 ≤ x2) → f_St_store fu (fun M1 => ∀ y2, y2 = x2 + 1 → f_St_settleLevel_2 fu post kf t x1 y2 M1) t ((x1 * 96) + x2) 1000000 1000000 0 M)
def f_St_settleLevel (fu : Nat) (post : Mm → Prop) (t : Nat) (x1 : Int32) (M : Mm) : Prop :=
  f_St_settleLevel_2 fu post fu t x1 0 M
set_option maxRecDepth 100000 in
theorem l_St_settleLevel_57 {l : Launch} {X : CX} {g : GX} {w : WX} {fu : Nat} {post : Mm → Prop} (hX : X.2.1 = l) (hC : Cx X g cX7_settleLevel 5 RX7 (none) 4) {K33 : Nat → Int32 → Int32 → Int32 → Mm → Prop} (hK33 : ∀ (t : Nat) (x1 : Int32) (x2 : Int32) (x3 : Int32) (M : Mm), ok w t 7 → K33 t x1 x2 x3 M → V X g w 5 0 0 (QV X g w post 0 0) 33 [some (ob g t), some (.int x1), some (.int x2), some (.int x3), none] [] M) : ∀ (kf : Nat) (t : Nat) (x1 : Int32) (x2 : Int32) (x3 : Int32) (x4 : Int32) (M : Mm) (ht : ok w t 7) (h : f_St_settleLevel_57 fu post K33 kf t x1 x2 x3 x4 M), V X g w 5 0 0 (QV X g w post 0 0) 57 [some (ob g t), some (.int x1), some (.int x2), some (.int x3), some (.int x4)] [] M := by
  intro kf
  induction kf with
  | zero => intro t x1 x2 x3 x4 M ht h; exact absurd h id
  | succ kf ih =>
    intro t x1 x2 x3 x4 M ht h
    rw [f_St_settleLevel_57] at h
    refine V_iload hC rfl dX7_settleLevel_57 ?_
    refine V_if_lt (tgt := 87) hC dX7_settleLevel_59 (by decide) (fun b9 => ?_) (fun b9 => ?_)
    · replace h := h.1 b9
      obtain ⟨y1, ey1⟩ : ∃ z, z = x3 + 1 := ⟨_, rfl⟩
      replace h := h y1 ey1
      refine V_iinc (v := y1) hC rfl (by rw [ey1]; rfl) (by decide) dX7_settleLevel_87 ?_
      refine V_goto (tgt := 33) hC (by decide) dX7_settleLevel_90 ?_
      refine V_sub (us := [some (ob g t), some (.int x1), some (.int x2), some (.int y1), none]) ⟨rfl, rfl, rfl, rfl, trivial⟩ ?_
      exact hK33 t x1 x2 y1 M ht h
    · replace h := h.2 b9
      refine V_aload_n hC rfl dX7_settleLevel_62 ?_
      refine V_iload_n hC rfl dX7_settleLevel_63 ?_
      refine V_aload_n hC rfl dX7_settleLevel_64 ?_
      refine gf_7_1 hC ht tw_193 dX7_settleLevel_65 ?_
      refine V_iload hC rfl dX7_settleLevel_68 ?_
      refine V_calli (As := [.int x4]) hC (c_Re_configurationAt X.2.1 g w fu _ (t + 11) x4 M (ok_7_1 ht) h) mw_X5_configurationAt (by decide) tw_654 (ok_7_1 ht) (by decide) rfl rfl rfl (Nat.le_of_ble_eq_true rfl) ⟨Nat.zero_le _, Nat.zero_le _⟩ dX7_settleLevel_70 (fun r3 M2 h => ?_)
      refine V_calli (As := [.int x1, .int r3]) hC (c_St_refresh X.2.1 g w fu _ t x1 r3 M2 ht h) mw_X7_refresh (by decide) tw_658 ht (by decide) rfl rfl rfl (Nat.le_of_ble_eq_true rfl) ⟨Nat.zero_le _, Nat.zero_le _⟩ dX7_settleLevel_73 (fun r5 M4 h => ?_)
      obtain ⟨hzr5, h⟩ := h
      refine V_if_eq (tgt := 81) hC dX7_settleLevel_76 (by decide) (fun b8 => ?_) (fun b8 => ?_)
      · replace h := h.1 b8
        obtain ⟨y6, ey6⟩ : ∃ z, z = x4 + (-1) := ⟨_, rfl⟩
        replace h := h y6 ey6
        refine V_iinc (v := y6) hC rfl (by rw [ey6]; rfl) (by decide) dX7_settleLevel_81 ?_
        refine V_goto (tgt := 57) hC (by decide) dX7_settleLevel_84 ?_
        refine V_sub (us := [some (ob g t), some (.int x1), some (.int x2), some (.int x3), some (.int y6)]) ⟨rfl, rfl, rfl, rfl, rfl, trivial⟩ ?_
        exact ih t x1 x2 x3 y6 M4 ht h
      · replace h := h.2 b8
        refine V_iconst (v := 1) hC (by decide) dX7_settleLevel_79 ?_
        refine V_istore_n hC (by decide) dX7_settleLevel_80 ?_
        obtain ⟨y7, ey7⟩ : ∃ z, z = x4 + (-1) := ⟨_, rfl⟩
        replace h := h y7 ey7
        refine V_iinc (v := y7) hC rfl (by rw [ey7]; rfl) (by decide) dX7_settleLevel_81 ?_
        refine V_goto (tgt := 57) hC (by decide) dX7_settleLevel_84 ?_
        refine V_sub (us := [some (ob g t), some (.int x1), some (.int 1), some (.int x3), some (.int y7)]) ⟨rfl, rfl, rfl, rfl, rfl, trivial⟩ ?_
        exact ih t x1 1 x3 y7 M4 ht h
set_option maxRecDepth 100000 in
theorem l_St_settleLevel_33 {l : Launch} {X : CX} {g : GX} {w : WX} {fu : Nat} {post : Mm → Prop} (hX : X.2.1 = l) (hC : Cx X g cX7_settleLevel 5 RX7 (none) 4) : ∀ (kf : Nat) (t : Nat) (x1 : Int32) (x2 : Int32) (x3 : Int32) (M : Mm) (ht : ok w t 7) (h : f_St_settleLevel_33 fu post kf t x1 x2 x3 M), V X g w 5 0 0 (QV X g w post 0 0) 33 [some (ob g t), some (.int x1), some (.int x2), some (.int x3), none] [] M := by
  intro kf
  induction kf with
  | zero => intro t x1 x2 x3 M ht h; exact absurd h id
  | succ kf ih =>
    intro t x1 x2 x3 M ht h
    rw [f_St_settleLevel_33] at h
    refine V_iload_n hC rfl dX7_settleLevel_33 ?_
    refine V_if_eq (tgt := 93) hC dX7_settleLevel_34 (by decide) (fun b3 => ?_) (fun b3 => ?_)
    · replace h := h.1 b3
      exact V_vret hC h dX7_settleLevel_93
    · replace h := h.2 b3
      refine V_iload_n hC rfl dX7_settleLevel_37 ?_
      refine V_sipush (v := 1000) hC (by decide) dX7_settleLevel_38 ?_
      refine V_icmp_ge (tgt := 93) hC dX7_settleLevel_41 (by decide) (fun b2 => ?_) (fun b2 => ?_)
      · replace h := h.1 b2
        exact V_vret hC h dX7_settleLevel_93
      · replace h := h.2 b2
        refine V_iconst (v := 0) hC (by decide) dX7_settleLevel_44 ?_
        refine V_istore_n hC (by decide) dX7_settleLevel_45 ?_
        refine V_aload_n hC rfl dX7_settleLevel_46 ?_
        refine gf_7_1 hC ht tw_193 dX7_settleLevel_47 ?_
        refine gfN_5_3 hC (ok_7_1 ht) tw_182 dX7_settleLevel_50 ?_
        refine V_iconst (v := 1) hC (by decide) dX7_settleLevel_53 ?_
        refine V_isub hC dX7_settleLevel_54 ?_
        refine V_topi (fun y1 ey1 => ?_)
        replace h := h y1 ey1
        refine V_istore hC (by decide) dX7_settleLevel_55 ?_
        refine V_sub (us := [some (ob g t), some (.int x1), some (.int 0), some (.int x3), some (.int y1)]) ⟨rfl, rfl, rfl, rfl, rfl, trivial⟩ ?_
        exact l_St_settleLevel_57 hX hC ih fu t x1 0 x3 y1 M ht h
set_option maxRecDepth 100000 in
theorem l_St_settleLevel_2 {l : Launch} {X : CX} {g : GX} {w : WX} {fu : Nat} {post : Mm → Prop} (hX : X.2.1 = l) (hC : Cx X g cX7_settleLevel 5 RX7 (none) 4) : ∀ (kf : Nat) (t : Nat) (x1 : Int32) (x2 : Int32) (M : Mm) (ht : ok w t 7) (h : f_St_settleLevel_2 fu post kf t x1 x2 M), V X g w 5 0 0 (QV X g w post 0 0) 2 [some (ob g t), some (.int x1), some (.int x2), none, none] [] M := by
  intro kf
  induction kf with
  | zero => intro t x1 x2 M ht h; exact absurd h id
  | succ kf ih =>
    intro t x1 x2 M ht h
    rw [f_St_settleLevel_2] at h
    refine V_iload_n hC rfl dX7_settleLevel_2 ?_
    refine V_bipush (v := 96) hC (by decide) dX7_settleLevel_3 ?_
    refine V_icmp_ge (tgt := 29) hC dX7_settleLevel_5 (by decide) (fun b3 => ?_) (fun b3 => ?_)
    · replace h := h.1 b3
      refine V_iconst (v := 1) hC (by decide) dX7_settleLevel_29 ?_
      refine V_istore_n hC (by decide) dX7_settleLevel_30 ?_
      refine V_iconst (v := 0) hC (by decide) dX7_settleLevel_31 ?_
      refine V_istore_n hC (by decide) dX7_settleLevel_32 ?_
      refine V_sub (us := [some (ob g t), some (.int x1), some (.int 1), some (.int 0), none]) ⟨rfl, rfl, rfl, rfl, trivial⟩ ?_
      exact l_St_settleLevel_33 hX hC fu t x1 1 0 M ht h
    · replace h := h.2 b3
      refine V_aload_n hC rfl dX7_settleLevel_8 ?_
      refine V_iload_n hC rfl dX7_settleLevel_9 ?_
      refine V_bipush (v := 96) hC (by decide) dX7_settleLevel_10 ?_
      refine V_imul hC dX7_settleLevel_12 ?_
      refine V_iload_n hC rfl dX7_settleLevel_13 ?_
      refine V_iadd hC dX7_settleLevel_14 ?_
      refine V_ldc hC tw_648 dX7_settleLevel_15 ?_
      refine V_ldc hC tw_648 dX7_settleLevel_17 ?_
      refine V_iconst (v := 0) hC (by decide) dX7_settleLevel_19 ?_
      refine V_callv (As := [.int ((x1 * 96) + x2), .int 1000000, .int 1000000, .int 0]) hC (c_St_store X.2.1 g w fu _ t ((x1 * 96) + x2) 1000000 1000000 0 M ht h) mw_X7_store (by decide) tw_649 ht (by decide) rfl rfl rfl (Nat.le_of_ble_eq_true rfl) ⟨Nat.zero_le _, Nat.zero_le _⟩ dX7_settleLevel_20 (fun M1 h => ?_)
      obtain ⟨y2, ey2⟩ : ∃ z, z = x2 + 1 := ⟨_, rfl⟩
      replace h := h y2 ey2
      refine V_iinc (v := y2) hC rfl (by rw [ey2]; rfl) (by decide) dX7_settleLevel_23 ?_
      refine V_goto (tgt := 2) hC (by decide) dX7_settleLevel_26 ?_
      refine V_sub (us := [some (ob g t), some (.int x1), some (.int y2), none, none]) ⟨rfl, rfl, rfl, trivial⟩ ?_
      exact ih t x1 y2 M1 ht h
set_option maxRecDepth 100000 in
theorem c_St_settleLevel (l : Launch) (g : GX) (w : WX) (fu : Nat) (post : Mm → Prop) (t : Nat) (x1 : Int32) (M : Mm) (ht : ok w t 7) (h : f_St_settleLevel fu post t x1 M) : Met l yX7_settleLevel [Cond.code yX7_settleLevel cX7_settleLevel 5 (none)] (rmC 4 0 0) (va_Pc [ob g t, .int x1] (Wb g w M)) (va_Qv post (Wb g w) (Af g)) 0 0 (Af g) := by
  refine Ct_v (by decide) rfl (fun v hv => by simp only [List.mem_cons, List.not_mem_nil, or_false] at hv; rcases hv with rfl | rfl <;> rfl) (Nat.le_of_ble_eq_true rfl) (Nat.le_refl _) ?_
  intro X hX _ hC
  unfold f_St_settleLevel at h
  refine V_sub (us := [some (ob g t), some (.int x1), none, none, none]) ⟨rfl, rfl, trivial⟩ ?_
  refine V_iconst (v := 0) hC (by decide) dX7_settleLevel_0 ?_
  refine V_istore_n hC (by decide) dX7_settleLevel_1 ?_
  refine V_sub (us := [some (ob g t), some (.int x1), some (.int 0), none, none]) ⟨rfl, rfl, rfl, trivial⟩ ?_
  exact l_St_settleLevel_2 hX hC fu t x1 0 M ht h
def f_Re_add (fu : Nat) (post : Mm → Prop) (t : Nat) (x1 : Int32) (M : Mm) : Prop :=
  f_SR_at fu (fun r2 M1 => ((r2 = 0) → f_SR_put fu (fun M3 => f_SR_put fu (fun M4 => ∀ M5, M5 = up M4 t 3 ((M4 t 3) + 1) → post M5) (t + 2) (M3 t 3) x1 M3) (t + 3) x1 1 M1) ∧ (¬ (r2 = 0) → post M1)) (t + 3) x1 M
set_option maxRecDepth 100000 in
theorem c_Re_add (l : Launch) (g : GX) (w : WX) (fu : Nat) (post : Mm → Prop) (t : Nat) (x1 : Int32) (M : Mm) (ht : ok w t 5) (h : f_Re_add fu post t x1 M) : Met l yX5_add [Cond.code yX5_add cX5_add 2 (none)] (rmC 1 0 0) (va_Pc [ob g t, .int x1] (Wb g w M)) (va_Qv post (Wb g w) (Af g)) 0 0 (Af g) := by
  refine Ct_v (by decide) rfl (fun v hv => by simp only [List.mem_cons, List.not_mem_nil, or_false] at hv; rcases hv with rfl | rfl <;> rfl) (Nat.le_of_ble_eq_true rfl) (Nat.le_refl _) ?_
  intro X hX _ hC
  unfold f_Re_add at h
  refine V_sub (us := [some (ob g t), some (.int x1)]) ⟨rfl, rfl, trivial⟩ ?_
  refine V_aload_n hC rfl dX5_add_0 ?_
  refine gf_5_2 hC ht tw_180 dX5_add_1 ?_
  refine V_iload_n hC rfl dX5_add_4 ?_
  refine V_scalliN (As := [ob g (t + 3), .int x1]) hC (c_SR_at X.2.1 g w fu _ (t + 3) x1 M (ok_5_2 ht) h) mw_X10_at (by decide) tw_641 rfl rfl (Nat.le_of_ble_eq_true rfl) ⟨Nat.zero_le _, Nat.zero_le _⟩ dX5_add_5 (fun r2 M1 h => ?_)
  refine V_if_ne (tgt := 42) hC dX5_add_8 (by decide) (fun b6 => ?_) (fun b6 => ?_)
  · replace h := h.2 b6
    exact V_vret hC h dX5_add_42
  · replace h := h.1 b6
    refine V_aload_n hC rfl dX5_add_11 ?_
    refine gf_5_2 hC ht tw_180 dX5_add_12 ?_
    refine V_iload_n hC rfl dX5_add_15 ?_
    refine V_iconst (v := 1) hC (by decide) dX5_add_16 ?_
    refine V_scallvN (As := [ob g (t + 3), .int x1, .int 1]) hC (c_SR_put X.2.1 g w fu _ (t + 3) x1 1 M1 (ok_5_2 ht) h) mw_X10_put (by decide) tw_642 rfl rfl (Nat.le_of_ble_eq_true rfl) ⟨Nat.zero_le _, Nat.zero_le _⟩ dX5_add_17 (fun M3 h => ?_)
    refine V_aload_n hC rfl dX5_add_20 ?_
    refine gf_5_1 hC ht tw_179 dX5_add_21 ?_
    refine V_aload_n hC rfl dX5_add_24 ?_
    refine gf_5_3 hC ht tw_181 dX5_add_25 ?_
    refine V_iload_n hC rfl dX5_add_28 ?_
    refine V_scallvN (As := [ob g (t + 2), .int (M3 t 3), .int x1]) hC (c_SR_put X.2.1 g w fu _ (t + 2) (M3 t 3) x1 M3 (ok_5_1 ht) h) mw_X10_put (by decide) tw_642 rfl rfl (Nat.le_of_ble_eq_true rfl) ⟨Nat.zero_le _, Nat.zero_le _⟩ dX5_add_29 (fun M4 h => ?_)
    refine V_aload_n hC rfl dX5_add_32 ?_
    refine V_dup hC rfl dX5_add_33 ?_
    refine gf_5_3 hC ht tw_181 dX5_add_34 ?_
    refine V_iconst (v := 1) hC (by decide) dX5_add_37 ?_
    refine V_iadd hC dX5_add_38 ?_
    refine pf_5_3 hC ht tw_181 dX5_add_39 ?_
    obtain ⟨M5, eM5⟩ : ∃ z, z = up M4 t 3 ((M4 t 3) + 1) := ⟨_, rfl⟩
    replace h := h M5 eM5
    refine V_mem eM5 ?_
    exact V_vret hC h dX5_add_42
def f_Re_explore_46 (fu : Nat) (post : Mm → Prop) (K20 : Nat → Nat → Int32 → Mm → Prop) : Nat → Nat → Nat → Int32 → Int32 → Int32 → Mm → Prop
  | 0, _, _, _, _, _, _ => False
  | kf + 1, t, a1, x2, x3, x4, M =>
    ((6 ≤ x4) → ∀ y1, y1 = x2 + 1 → K20 t a1 y1 M) ∧ (¬ (6 ≤ x4) → f_Au_after fu (fun r3 M2 => f_SR_put fu (fun M4 => ((r3 < 0) → ∀ y5, y5 = x4 + 1 → f_Re_explore_46 fu post K20 kf t a1 x2 x3 y5 M4) ∧ (¬ (r3 < 0) → f_Re_add fu (fun M6 => ∀ y7, y7 = x4 + 1 → f_Re_explore_46 fu post K20 kf t a1 x2 x3 y7 M6) t r3 M4)) (t + 1) ((x3 * 6) + x4) r3 M2) a1 x3 x4 M)
def f_Re_explore_20 (fu : Nat) (post : Mm → Prop) : Nat → Nat → Nat → Int32 → Mm → Prop
  | 0, _, _, _, _ => False
  | kf + 1, t, a1, x2, M =>
    (((M t 3) ≤ x2) → post M) ∧ (¬ ((M t 3) ≤ x2) → ((96 ≤ x2) → post M) ∧ (¬ (96 ≤ x2) → f_SR_at fu (fun r2 M1 => f_Re_explore_46 fu post (f_Re_explore_20 fu post kf) fu t a1 x2 r2 0 M1) (t + 2) x2 M))
def f_Re_explore (fu : Nat) (post : Mm → Prop) (t : Nat) (a1 : Nat) (M : Mm) : Prop :=
  f_SR_fill fu (fun M1 => ∀ M2, M2 = up M1 t 3 0 → f_Re_add fu (fun M3 => f_Re_explore_20 fu post fu t a1 0 M3) t 1 M2) (t + 3) 0 M
set_option maxRecDepth 100000 in
theorem l_Re_explore_46 {l : Launch} {X : CX} {g : GX} {w : WX} {fu : Nat} {post : Mm → Prop} (hX : X.2.1 = l) (hC : Cx X g cX5_explore 6 RX5 (none) 2) {K20 : Nat → Nat → Int32 → Mm → Prop} (hK20 : ∀ (t : Nat) (a1 : Nat) (x2 : Int32) (M : Mm), ok w t 5 → ok w a1 0 → K20 t a1 x2 M → V X g w 6 0 0 (QV X g w post 0 0) 20 [some (ob g t), some (ob g a1), some (.int x2), none, none, none] [] M) : ∀ (kf : Nat) (t : Nat) (a1 : Nat) (x2 : Int32) (x3 : Int32) (x4 : Int32) (M : Mm) (ht : ok w t 5) (ha1 : ok w a1 0) (h : f_Re_explore_46 fu post K20 kf t a1 x2 x3 x4 M), V X g w 6 0 0 (QV X g w post 0 0) 46 [some (ob g t), some (ob g a1), some (.int x2), some (.int x3), some (.int x4), none] [] M := by
  intro kf
  induction kf with
  | zero => intro t a1 x2 x3 x4 M ht ha1 h; exact absurd h id
  | succ kf ih =>
    intro t a1 x2 x3 x4 M ht ha1 h
    rw [f_Re_explore_46] at h
    refine V_iload hC rfl dX5_explore_46 ?_
    refine V_bipush (v := 6) hC (by decide) dX5_explore_48 ?_
    refine V_icmp_ge (tgt := 95) hC dX5_explore_50 (by decide) (fun b9 => ?_) (fun b9 => ?_)
    · replace h := h.1 b9
      obtain ⟨y1, ey1⟩ : ∃ z, z = x2 + 1 := ⟨_, rfl⟩
      replace h := h y1 ey1
      refine V_iinc (v := y1) hC rfl (by rw [ey1]; rfl) (by decide) dX5_explore_95 ?_
      refine V_goto (tgt := 20) hC (by decide) dX5_explore_98 ?_
      refine V_sub (us := [some (ob g t), some (ob g a1), some (.int y1), none, none, none]) ⟨rfl, rfl, rfl, trivial⟩ ?_
      exact hK20 t a1 y1 M ht ha1 h
    · replace h := h.2 b9
      refine V_aload_n hC rfl dX5_explore_53 ?_
      refine V_iload_n hC rfl dX5_explore_54 ?_
      refine V_iload hC rfl dX5_explore_55 ?_
      refine V_calli (As := [.int x3, .int x4]) hC (c_Au_after X.2.1 g w fu _ a1 x3 x4 M ha1 h) mw_X0_after (by decide) tw_643 ha1 (by decide) rfl rfl rfl (Nat.le_of_ble_eq_true rfl) ⟨Nat.zero_le _, Nat.zero_le _⟩ dX5_explore_57 (fun r3 M2 h => ?_)
      refine V_istore hC (by decide) dX5_explore_60 ?_
      refine V_aload_n hC rfl dX5_explore_62 ?_
      refine gf_5_0 hC ht tw_178 dX5_explore_63 ?_
      refine V_iload_n hC rfl dX5_explore_66 ?_
      refine V_bipush (v := 6) hC (by decide) dX5_explore_67 ?_
      refine V_imul hC dX5_explore_69 ?_
      refine V_iload hC rfl dX5_explore_70 ?_
      refine V_iadd hC dX5_explore_72 ?_
      refine V_iload hC rfl dX5_explore_73 ?_
      refine V_scallvN (As := [ob g (t + 1), .int ((x3 * 6) + x4), .int r3]) hC (c_SR_put X.2.1 g w fu _ (t + 1) ((x3 * 6) + x4) r3 M2 (ok_5_0 ht) h) mw_X10_put (by decide) tw_642 rfl rfl (Nat.le_of_ble_eq_true rfl) ⟨Nat.zero_le _, Nat.zero_le _⟩ dX5_explore_75 (fun M4 h => ?_)
      refine V_iload hC rfl dX5_explore_78 ?_
      refine V_if_lt (tgt := 89) hC dX5_explore_80 (by decide) (fun b8 => ?_) (fun b8 => ?_)
      · replace h := h.1 b8
        obtain ⟨y5, ey5⟩ : ∃ z, z = x4 + 1 := ⟨_, rfl⟩
        replace h := h y5 ey5
        refine V_iinc (v := y5) hC rfl (by rw [ey5]; rfl) (by decide) dX5_explore_89 ?_
        refine V_goto (tgt := 46) hC (by decide) dX5_explore_92 ?_
        refine V_sub (us := [some (ob g t), some (ob g a1), some (.int x2), some (.int x3), some (.int y5), none]) ⟨rfl, rfl, rfl, rfl, rfl, trivial⟩ ?_
        exact ih t a1 x2 x3 y5 M4 ht ha1 h
      · replace h := h.2 b8
        refine V_aload_n hC rfl dX5_explore_83 ?_
        refine V_iload hC rfl dX5_explore_84 ?_
        refine V_callv (As := [.int r3]) hC (c_Re_add X.2.1 g w fu _ t r3 M4 ht h) mw_X5_add (by decide) tw_637 ht (by decide) rfl rfl rfl (Nat.le_of_ble_eq_true rfl) ⟨Nat.zero_le _, Nat.zero_le _⟩ dX5_explore_86 (fun M6 h => ?_)
        obtain ⟨y7, ey7⟩ : ∃ z, z = x4 + 1 := ⟨_, rfl⟩
        replace h := h y7 ey7
        refine V_iinc (v := y7) hC rfl (by rw [ey7]; rfl) (by decide) dX5_explore_89 ?_
        refine V_goto (tgt := 46) hC (by decide) dX5_explore_92 ?_
        refine V_sub (us := [some (ob g t), some (ob g a1), some (.int x2), some (.int x3), some (.int y7), none]) ⟨rfl, rfl, rfl, rfl, rfl, trivial⟩ ?_
        exact ih t a1 x2 x3 y7 M6 ht ha1 h
set_option maxRecDepth 100000 in
theorem l_Re_explore_20 {l : Launch} {X : CX} {g : GX} {w : WX} {fu : Nat} {post : Mm → Prop} (hX : X.2.1 = l) (hC : Cx X g cX5_explore 6 RX5 (none) 2) : ∀ (kf : Nat) (t : Nat) (a1 : Nat) (x2 : Int32) (M : Mm) (ht : ok w t 5) (ha1 : ok w a1 0) (h : f_Re_explore_20 fu post kf t a1 x2 M), V X g w 6 0 0 (QV X g w post 0 0) 20 [some (ob g t), some (ob g a1), some (.int x2), none, none, none] [] M := by
  intro kf
  induction kf with
  | zero => intro t a1 x2 M ht ha1 h; exact absurd h id
  | succ kf ih =>
    intro t a1 x2 M ht ha1 h
    rw [f_Re_explore_20] at h
    refine V_iload_n hC rfl dX5_explore_20 ?_
    refine V_aload_n hC rfl dX5_explore_21 ?_
    refine gf_5_3 hC ht tw_181 dX5_explore_22 ?_
    refine V_icmp_ge (tgt := 101) hC dX5_explore_25 (by decide) (fun b4 => ?_) (fun b4 => ?_)
    · replace h := h.1 b4
      exact V_vret hC h dX5_explore_101
    · replace h := h.2 b4
      refine V_iload_n hC rfl dX5_explore_28 ?_
      refine V_bipush (v := 96) hC (by decide) dX5_explore_29 ?_
      refine V_icmp_ge (tgt := 101) hC dX5_explore_31 (by decide) (fun b3 => ?_) (fun b3 => ?_)
      · replace h := h.1 b3
        exact V_vret hC h dX5_explore_101
      · replace h := h.2 b3
        refine V_aload_n hC rfl dX5_explore_34 ?_
        refine gf_5_1 hC ht tw_179 dX5_explore_35 ?_
        refine V_iload_n hC rfl dX5_explore_38 ?_
        refine V_scalliN (As := [ob g (t + 2), .int x2]) hC (c_SR_at X.2.1 g w fu _ (t + 2) x2 M (ok_5_1 ht) h) mw_X10_at (by decide) tw_641 rfl rfl (Nat.le_of_ble_eq_true rfl) ⟨Nat.zero_le _, Nat.zero_le _⟩ dX5_explore_39 (fun r2 M1 h => ?_)
        refine V_istore_n hC (by decide) dX5_explore_42 ?_
        refine V_iconst (v := 0) hC (by decide) dX5_explore_43 ?_
        refine V_istore hC (by decide) dX5_explore_44 ?_
        refine V_sub (us := [some (ob g t), some (ob g a1), some (.int x2), some (.int r2), some (.int 0), none]) ⟨rfl, rfl, rfl, rfl, rfl, trivial⟩ ?_
        exact l_Re_explore_46 hX hC ih fu t a1 x2 r2 0 M1 ht ha1 h
set_option maxRecDepth 100000 in
theorem c_Re_explore (l : Launch) (g : GX) (w : WX) (fu : Nat) (post : Mm → Prop) (t : Nat) (a1 : Nat) (M : Mm) (ht : ok w t 5) (ha1 : ok w a1 0) (h : f_Re_explore fu post t a1 M) : Met l yX5_explore [Cond.code yX5_explore cX5_explore 6 (none)] (rmC 2 0 0) (va_Pc [ob g t, ob g a1] (Wb g w M)) (va_Qv post (Wb g w) (Af g)) 0 0 (Af g) := by
  refine Ct_v (by decide) rfl (fun v hv => by simp only [List.mem_cons, List.not_mem_nil, or_false] at hv; rcases hv with rfl | rfl <;> rfl) (Nat.le_of_ble_eq_true rfl) (Nat.le_refl _) ?_
  intro X hX _ hC
  unfold f_Re_explore at h
  refine V_sub (us := [some (ob g t), some (ob g a1), none, none, none, none]) ⟨rfl, rfl, trivial⟩ ?_
  refine V_aload_n hC rfl dX5_explore_0 ?_
  refine gf_5_2 hC ht tw_180 dX5_explore_1 ?_
  refine V_iconst (v := 0) hC (by decide) dX5_explore_4 ?_
  refine V_scallvN (As := [ob g (t + 3), .int 0]) hC (c_SR_fill X.2.1 g w fu _ (t + 3) 0 M (ok_5_2 ht) h) mw_X10_fill (by decide) tw_636 rfl rfl (Nat.le_of_ble_eq_true rfl) ⟨Nat.zero_le _, Nat.zero_le _⟩ dX5_explore_5 (fun M1 h => ?_)
  refine V_aload_n hC rfl dX5_explore_8 ?_
  refine V_iconst (v := 0) hC (by decide) dX5_explore_9 ?_
  refine pf_5_3 hC ht tw_181 dX5_explore_10 ?_
  obtain ⟨M2, eM2⟩ : ∃ z, z = up M1 t 3 0 := ⟨_, rfl⟩
  replace h := h M2 eM2
  refine V_mem eM2 ?_
  refine V_aload_n hC rfl dX5_explore_13 ?_
  refine V_iconst (v := 1) hC (by decide) dX5_explore_14 ?_
  refine V_callv (As := [.int 1]) hC (c_Re_add X.2.1 g w fu _ t 1 M2 ht h) mw_X5_add (by decide) tw_637 ht (by decide) rfl rfl rfl (Nat.le_of_ble_eq_true rfl) ⟨Nat.zero_le _, Nat.zero_le _⟩ dX5_explore_15 (fun M3 h => ?_)
  refine V_iconst (v := 0) hC (by decide) dX5_explore_18 ?_
  refine V_istore_n hC (by decide) dX5_explore_19 ?_
  refine V_sub (us := [some (ob g t), some (ob g a1), some (.int 0), none, none, none]) ⟨rfl, rfl, rfl, trivial⟩ ?_
  exact l_Re_explore_20 hX hC fu t a1 0 M3 ht ha1 h
def f_St_solve_54 (fu : Nat) (post : Mm → Prop) : Nat → Nat → Int32 → Mm → Prop
  | 0, _, _, _ => False
  | kf + 1, t, x3, M =>
    ((x3 < 0) → ∀ M1, M1 = up M t 5 1 → post M1) ∧ (¬ (x3 < 0) → f_St_settleLevel fu (fun M2 => ∀ y3, y3 = x3 + (-1) → f_St_solve_54 fu post kf t y3 M2) t x3 M)
def f_St_solve_16 (fu : Nat) (post : Mm → Prop) (t : Nat) (a1 : Nat) (x2 : Int32) (M : Mm) : Prop :=
  ∀ M1, M1 = up M t 6 x2 → f_Si_copyFrom fu (fun M2 => f_Re_explore fu (fun M3 => ∀ y4, y4 = (M3 (t + 9) 1) → f_St_solve_54 fu post fu t y4 M3) (t + 11) (t + 2) M2) (t + 1) a1 M1
def f_St_solve (fu : Nat) (post : Mm → Prop) (t : Nat) (a1 : Nat) (x2 : Int32) (M : Mm) : Prop :=
  (((M t 5) = 0) → f_St_solve_16 fu post t a1 x2 M) ∧ (¬ ((M t 5) = 0) → (((M t 6) = x2) → post M) ∧ (¬ ((M t 6) = x2) → f_St_solve_16 fu post t a1 x2 M))
set_option maxRecDepth 100000 in
theorem l_St_solve_54 {l : Launch} {X : CX} {g : GX} {w : WX} {fu : Nat} {post : Mm → Prop} (hX : X.2.1 = l) (hC : Cx X g cX7_solve 4 RX7 (none) 5) : ∀ (kf : Nat) (t : Nat) (x3 : Int32) (M : Mm) (ht : ok w t 7) (h : f_St_solve_54 fu post kf t x3 M), V X g w 4 0 0 (QV X g w post 0 0) 54 [some (ob g t), none, none, some (.int x3)] [] M := by
  intro kf
  induction kf with
  | zero => intro t x3 M ht h; exact absurd h id
  | succ kf ih =>
    intro t x3 M ht h
    rw [f_St_solve_54] at h
    refine V_iload_n hC rfl dX7_solve_54 ?_
    refine V_if_lt (tgt := 69) hC dX7_solve_55 (by decide) (fun b4 => ?_) (fun b4 => ?_)
    · replace h := h.1 b4
      refine V_aload_n hC rfl dX7_solve_69 ?_
      refine V_iconst (v := 1) hC (by decide) dX7_solve_70 ?_
      refine pf_7_5 hC ht (by decide) tw_197 dX7_solve_71 ?_
      obtain ⟨M1, eM1⟩ : ∃ z, z = up M t 5 1 := ⟨_, rfl⟩
      replace h := h M1 eM1
      refine V_mem eM1 ?_
      exact V_vret hC h dX7_solve_74
    · replace h := h.2 b4
      refine V_aload_n hC rfl dX7_solve_58 ?_
      refine V_iload_n hC rfl dX7_solve_59 ?_
      refine V_callv (As := [.int x3]) hC (c_St_settleLevel X.2.1 g w fu _ t x3 M ht h) mw_X7_settleLevel (by decide) tw_644 ht (by decide) rfl rfl rfl (Nat.le_of_ble_eq_true rfl) ⟨Nat.zero_le _, Nat.zero_le _⟩ dX7_solve_60 (fun M2 h => ?_)
      obtain ⟨y3, ey3⟩ : ∃ z, z = x3 + (-1) := ⟨_, rfl⟩
      replace h := h y3 ey3
      refine V_iinc (v := y3) hC rfl (by rw [ey3]; rfl) (by decide) dX7_solve_63 ?_
      refine V_goto (tgt := 54) hC (by decide) dX7_solve_66 ?_
      refine V_sub (us := [some (ob g t), none, none, some (.int y3)]) ⟨rfl, rfl, trivial⟩ ?_
      exact ih t y3 M2 ht h
set_option maxRecDepth 100000 in
theorem j_St_solve_16 {l : Launch} {X : CX} {g : GX} {w : WX} {fu : Nat} {post : Mm → Prop} (hX : X.2.1 = l) (hC : Cx X g cX7_solve 4 RX7 (none) 5) (t : Nat) (a1 : Nat) (x2 : Int32) {M : Mm} (ht : ok w t 7) (ha1 : ok w a1 8) (h : f_St_solve_16 fu post t a1 x2 M) : V X g w 4 0 0 (QV X g w post 0 0) 16 [some (ob g t), some (ob g a1), some (.int x2), none] [] M := by
  unfold f_St_solve_16 at h
  refine V_aload_n hC rfl dX7_solve_16 ?_
  refine V_iload_n hC rfl dX7_solve_17 ?_
  refine pf_7_6 hC ht tw_199 dX7_solve_18 ?_
  obtain ⟨M1, eM1⟩ : ∃ z, z = up M t 6 x2 := ⟨_, rfl⟩
  replace h := h M1 eM1
  refine V_mem eM1 ?_
  refine V_aload_n hC rfl dX7_solve_21 ?_
  refine gf_7_0 hC ht tw_192 dX7_solve_22 ?_
  refine V_aload_n hC rfl dX7_solve_25 ?_
  refine V_callv (As := [ob g a1]) hC (c_Si_copyFrom X.2.1 g w fu _ (t + 1) a1 M1 (ok_7_0 ht) ha1 h) mw_X8_copyFrom (by decide) tw_631 (ok_7_0 ht) (by decide) rfl rfl rfl (Nat.le_of_ble_eq_true rfl) ⟨Nat.zero_le _, Nat.zero_le _⟩ dX7_solve_26 (fun M2 h => ?_)
  refine V_aload_n hC rfl dX7_solve_29 ?_
  refine gf_7_1 hC ht tw_193 dX7_solve_30 ?_
  refine V_aload_n hC rfl dX7_solve_33 ?_
  refine gf_7_0 hC ht tw_192 dX7_solve_34 ?_
  refine gfN_8_0 hC (ok_7_0 ht) tw_101 dX7_solve_37 ?_
  refine V_callv (As := [ob g (t + 2)]) hC (c_Re_explore X.2.1 g w fu _ (t + 11) (t + 2) M2 (ok_7_1 ht) (ok_8_0 (ok_7_0 ht)) h) mw_X5_explore (by decide) tw_632 (ok_7_1 ht) (by decide) rfl rfl rfl (Nat.le_of_ble_eq_true rfl) ⟨Nat.zero_le _, Nat.zero_le _⟩ dX7_solve_40 (fun M3 h => ?_)
  refine V_aload_n hC rfl dX7_solve_43 ?_
  refine gf_7_0 hC ht tw_192 dX7_solve_44 ?_
  refine gfN_8_2 hC (ok_7_0 ht) tw_110 dX7_solve_47 ?_
  refine gfN_9_1 hC (ok_8_2 (ok_7_0 ht)) tw_92 dX7_solve_50 ?_
  refine V_topi (fun y4 ey4 => ?_)
  replace h := h y4 ey4
  refine V_istore_n hC (by decide) dX7_solve_53 ?_
  refine V_sub (us := [some (ob g t), none, none, some (.int y4)]) ⟨rfl, rfl, trivial⟩ ?_
  exact l_St_solve_54 hX hC fu t y4 M3 ht h
set_option maxRecDepth 100000 in
theorem c_St_solve (l : Launch) (g : GX) (w : WX) (fu : Nat) (post : Mm → Prop) (t : Nat) (a1 : Nat) (x2 : Int32) (M : Mm) (ht : ok w t 7) (ha1 : ok w a1 8) (h : f_St_solve fu post t a1 x2 M) : Met l yX7_solve [Cond.code yX7_solve cX7_solve 4 (none)] (rmC 5 0 0) (va_Pc [ob g t, ob g a1, .int x2] (Wb g w M)) (va_Qv post (Wb g w) (Af g)) 0 0 (Af g) := by
  refine Ct_v (by decide) rfl (fun v hv => by simp only [List.mem_cons, List.not_mem_nil, or_false] at hv; rcases hv with rfl | rfl | rfl <;> rfl) (Nat.le_of_ble_eq_true rfl) (Nat.le_refl _) ?_
  intro X hX _ hC
  unfold f_St_solve at h
  refine V_sub (us := [some (ob g t), some (ob g a1), some (.int x2), none]) ⟨rfl, rfl, rfl, trivial⟩ ?_
  refine V_aload_n hC rfl dX7_solve_0 ?_
  refine gf_7_5 hC ht tw_197 dX7_solve_1 ?_
  refine V_if_eq (tgt := 16) hC dX7_solve_4 (by decide) (fun b2 => ?_) (fun b2 => ?_)
  · replace h := h.1 b2
    refine V_sub (us := [some (ob g t), some (ob g a1), some (.int x2), none]) ⟨rfl, rfl, rfl, trivial⟩ ?_
    exact j_St_solve_16 hX hC t a1 x2 ht ha1 h
  · replace h := h.2 b2
    refine V_aload_n hC rfl dX7_solve_7 ?_
    refine gf_7_6 hC ht tw_199 dX7_solve_8 ?_
    refine V_iload_n hC rfl dX7_solve_11 ?_
    refine V_icmp_ne (tgt := 16) hC dX7_solve_12 (by decide) (fun b1 => ?_) (fun b1 => ?_)
    · replace h := h.2 b1
      refine V_sub (us := [some (ob g t), some (ob g a1), some (.int x2), none]) ⟨rfl, rfl, rfl, trivial⟩ ?_
      exact j_St_solve_16 hX hC t a1 x2 ht ha1 h
    · replace h := h.1 b1
      exact V_vret hC h dX7_solve_15
