def f_SR_put (fu : Nat) (post : Mm → Prop) (a0 : Nat) (x1 : Int32) (x2 : Int32) (M : Mm) : Prop :=
  ((x1 < 0) → post M) ∧ (¬ (x1 < 0) → (((nI (ln a0)) ≤ x1) → post M) ∧ (¬ ((nI (ln a0)) ≤ x1) → vp_in x1 (ln a0) ∧ (∀ M2, M2 = up M a0 x1.toNatClampNeg x2 → post M2)))
set_option maxRecDepth 100000 in
theorem c_SR_put (l : Launch) (g : GX) (w : WX) (fu : Nat) (post : Mm → Prop) (a0 : Nat) (x1 : Int32) (x2 : Int32) (M : Mm) (ha0 : ok w a0 20) (h : f_SR_put fu post a0 x1 x2 M) : Met l yX10_put [Cond.code yX10_put cX10_put 3 (none)] (rmC 0 0 0) (va_Pc [ob g a0, .int x1, .int x2] (Wb g w M)) (va_Qv post (Wb g w) (Af g)) 0 0 (Af g) := by
  refine Ct_v (by decide) rfl (fun v hv => by simp only [List.mem_cons, List.not_mem_nil, or_false] at hv; rcases hv with rfl | rfl | rfl <;> rfl) (Nat.le_of_ble_eq_true rfl) (Nat.le_refl _) ?_
  intro X hX _ hC
  unfold f_SR_put at h
  refine V_sub (us := [some (ob g a0), some (.int x1), some (.int x2)]) ⟨rfl, rfl, rfl, trivial⟩ ?_
  refine V_iload_n hC rfl dX10_put_0 ?_
  refine V_if_lt (tgt := 14) hC dX10_put_1 (by decide) (fun b4 => ?_) (fun b4 => ?_)
  · replace h := h.1 b4
    exact V_vret hC h dX10_put_14
  · replace h := h.2 b4
    refine V_iload_n hC rfl dX10_put_4 ?_
    refine V_aload_n hC rfl dX10_put_5 ?_
    refine V_alen hC ha0 rfl dX10_put_6 ?_
    refine V_icmp_ge (tgt := 14) hC dX10_put_7 (by decide) (fun b3 => ?_) (fun b3 => ?_)
    · replace h := h.1 b3
      exact V_vret hC h dX10_put_14
    · replace h := h.2 b3
      refine V_aload_n hC rfl dX10_put_10 ?_
      refine V_iload_n hC rfl dX10_put_11 ?_
      refine V_iload_n hC rfl dX10_put_12 ?_
      obtain ⟨q1, h⟩ := h
      refine V_iast hC ha0 q1 dX10_put_13 ?_
      obtain ⟨M2, eM2⟩ : ∃ z, z = up M a0 x1.toNatClampNeg x2 := ⟨_, rfl⟩
      replace h := h M2 eM2
      refine V_mem eM2 ?_
      exact V_vret hC h dX10_put_14
def f_Gt_add (fu : Nat) (post : Mm → Prop) (t : Nat) (x1 : Int32) (M : Mm) : Prop :=
  f_SR_put fu (fun M1 => ∀ M2, M2 = up M1 t 2 ((M1 t 2) + 1) → post M2) (t + 1) (M t 2) x1 M
set_option maxRecDepth 100000 in
theorem c_Gt_add (l : Launch) (g : GX) (w : WX) (fu : Nat) (post : Mm → Prop) (t : Nat) (x1 : Int32) (M : Mm) (ht : ok w t 3) (h : f_Gt_add fu post t x1 M) : Met l yX3_add [Cond.code yX3_add cX3_add 2 (none)] (rmC 1 0 0) (va_Pc [ob g t, .int x1] (Wb g w M)) (va_Qv post (Wb g w) (Af g)) 0 0 (Af g) := by
  refine Ct_v (by decide) rfl (fun v hv => by simp only [List.mem_cons, List.not_mem_nil, or_false] at hv; rcases hv with rfl | rfl <;> rfl) (Nat.le_of_ble_eq_true rfl) (Nat.le_refl _) ?_
  intro X hX _ hC
  unfold f_Gt_add at h
  refine V_sub (us := [some (ob g t), some (.int x1)]) ⟨rfl, rfl, trivial⟩ ?_
  refine V_aload_n hC rfl dX3_add_0 ?_
  refine gf_3_0 hC ht tw_146 dX3_add_1 ?_
  refine V_aload_n hC rfl dX3_add_4 ?_
  refine gf_3_2 hC ht tw_149 dX3_add_5 ?_
  refine V_iload_n hC rfl dX3_add_8 ?_
  refine V_scallvN (As := [ob g (t + 1), .int (M t 2), .int x1]) hC (c_SR_put X.2.1 g w fu _ (t + 1) (M t 2) x1 M (ok_3_0 ht) h) mw_X10_put (by decide) tw_298 rfl rfl (Nat.le_of_ble_eq_true rfl) ⟨Nat.zero_le _, Nat.zero_le _⟩ dX3_add_9 (fun M1 h => ?_)
  refine V_aload_n hC rfl dX3_add_12 ?_
  refine V_dup hC rfl dX3_add_13 ?_
  refine gf_3_2 hC ht tw_149 dX3_add_14 ?_
  refine V_iconst (v := 1) hC (by decide) dX3_add_17 ?_
  refine V_iadd hC dX3_add_18 ?_
  refine pf_3_2 hC ht tw_149 dX3_add_19 ?_
  obtain ⟨M2, eM2⟩ : ∃ z, z = up M1 t 2 ((M1 t 2) + 1) := ⟨_, rfl⟩
  replace h := h M2 eM2
  refine V_mem eM2 ?_
  exact V_vret hC h dX3_add_22
def f_SR_appendCharacter (fu : Nat) (post : Int32 → Mm → Prop) (t : Nat) (x1 : Int32) (M : Mm) : Prop :=
  ((x1 < 0) → post (-1) M) ∧ (¬ (x1 < 0) → ((x1 ≤ 255) → (((M (t + 93) 2) < 150) → f_Gt_add fu (fun M1 => post (M1 (t + 93) 2) M1) (t + 93) x1 M) ∧ (¬ ((M (t + 93) 2) < 150) → post (-3) M)) ∧ (¬ (x1 ≤ 255) → post (-1) M))
set_option maxRecDepth 100000 in
theorem c_SR_appendCharacter (l : Launch) (g : GX) (w : WX) (fu : Nat) (post : Int32 → Mm → Prop) (t : Nat) (x1 : Int32) (M : Mm) (ht : ok w t 10) (h : f_SR_appendCharacter fu post t x1 M) : Met l yX10_appendCharacter [Cond.code yX10_appendCharacter cX10_appendCharacter 2 (some .int)] (rmC 2 0 0) (va_Pc [ob g t, .int x1] (Wb g w M)) (va_Qi post (Wb g w) (Af g)) 0 0 (Af g) := by
  refine Ct_i (by decide) rfl (fun v hv => by simp only [List.mem_cons, List.not_mem_nil, or_false] at hv; rcases hv with rfl | rfl <;> rfl) (Nat.le_of_ble_eq_true rfl) (Nat.le_refl _) ?_
  intro X hX _ hC
  unfold f_SR_appendCharacter at h
  refine V_sub (us := [some (ob g t), some (.int x1)]) ⟨rfl, rfl, trivial⟩ ?_
  refine V_iload_n hC rfl dX10_appendCharacter_0 ?_
  refine V_if_lt (tgt := 11) hC dX10_appendCharacter_1 (by decide) (fun b4 => ?_) (fun b4 => ?_)
  · replace h := h.1 b4
    refine V_iconst (v := (-1)) hC (by decide) dX10_appendCharacter_11 ?_
    exact V_iret hC h dX10_appendCharacter_12
  · replace h := h.2 b4
    refine V_iload_n hC rfl dX10_appendCharacter_4 ?_
    refine V_sipush (v := 255) hC (by decide) dX10_appendCharacter_5 ?_
    refine V_icmp_le (tgt := 13) hC dX10_appendCharacter_8 (by decide) (fun b3 => ?_) (fun b3 => ?_)
    · replace h := h.1 b3
      refine V_aload_n hC rfl dX10_appendCharacter_13 ?_
      refine gf_10_2 hC ht tw_270 dX10_appendCharacter_14 ?_
      refine gfN_3_2 hC (ok_10_2 ht) tw_150 dX10_appendCharacter_17 ?_
      refine V_sipush (v := 150) hC (by decide) dX10_appendCharacter_20 ?_
      refine V_icmp_lt (tgt := 29) hC dX10_appendCharacter_23 (by decide) (fun b2 => ?_) (fun b2 => ?_)
      · replace h := h.1 b2
        refine V_aload_n hC rfl dX10_appendCharacter_29 ?_
        refine gf_10_2 hC ht tw_270 dX10_appendCharacter_30 ?_
        refine V_iload_n hC rfl dX10_appendCharacter_33 ?_
        refine V_callv (As := [.int x1]) hC (c_Gt_add X.2.1 g w fu _ (t + 93) x1 M (ok_10_2 ht) h) mw_X3_add (by decide) tw_294 (ok_10_2 ht) (by decide) rfl rfl rfl (Nat.le_of_ble_eq_true rfl) ⟨Nat.zero_le _, Nat.zero_le _⟩ dX10_appendCharacter_34 (fun M1 h => ?_)
        refine V_aload_n hC rfl dX10_appendCharacter_37 ?_
        refine gf_10_2 hC ht tw_270 dX10_appendCharacter_38 ?_
        refine gfN_3_2 hC (ok_10_2 ht) tw_150 dX10_appendCharacter_41 ?_
        exact V_iret hC h dX10_appendCharacter_44
      · replace h := h.2 b2
        refine V_bipush (v := (-3)) hC (by decide) dX10_appendCharacter_26 ?_
        exact V_iret hC h dX10_appendCharacter_28
    · replace h := h.2 b3
      refine V_iconst (v := (-1)) hC (by decide) dX10_appendCharacter_11 ?_
      exact V_iret hC h dX10_appendCharacter_12
def f_SR_clearText (fu : Nat) (post : Int32 → Mm → Prop) (t : Nat) (M : Mm) : Prop :=
  ∀ y1, y1 = (M (t + 93) 2) → ∀ M2, M2 = up M (t + 93) 2 0 → post y1 M2
set_option maxRecDepth 100000 in
theorem c_SR_clearText (l : Launch) (g : GX) (w : WX) (fu : Nat) (post : Int32 → Mm → Prop) (t : Nat) (M : Mm) (ht : ok w t 10) (h : f_SR_clearText fu post t M) : Met l yX10_clearText [Cond.code yX10_clearText cX10_clearText 2 (some .int)] (rmC 0 0 0) (va_Pc [ob g t] (Wb g w M)) (va_Qi post (Wb g w) (Af g)) 0 0 (Af g) := by
  refine Ct_i (by decide) rfl (fun v hv => by simp only [List.mem_cons, List.not_mem_nil, or_false] at hv; rcases hv with rfl <;> rfl) (Nat.le_of_ble_eq_true rfl) (Nat.le_refl _) ?_
  intro X hX _ hC
  unfold f_SR_clearText at h
  refine V_sub (us := [some (ob g t), none]) ⟨rfl, trivial⟩ ?_
  refine V_aload_n hC rfl dX10_clearText_0 ?_
  refine gf_10_2 hC ht tw_270 dX10_clearText_1 ?_
  refine gfN_3_2 hC (ok_10_2 ht) tw_150 dX10_clearText_4 ?_
  refine V_topi (fun y1 ey1 => ?_)
  replace h := h y1 ey1
  refine V_istore_n hC (by decide) dX10_clearText_7 ?_
  refine V_aload_n hC rfl dX10_clearText_8 ?_
  refine gf_10_2 hC ht tw_270 dX10_clearText_9 ?_
  refine V_iconst (v := 0) hC (by decide) dX10_clearText_12 ?_
  refine pfN_3_2 hC (ok_10_2 ht) tw_150 dX10_clearText_13 ?_
  obtain ⟨M2, eM2⟩ : ∃ z, z = up M (t + 93) 2 0 := ⟨_, rfl⟩
  replace h := h M2 eM2
  refine V_mem eM2 ?_
  refine V_iload_n hC rfl dX10_clearText_16 ?_
  exact V_iret hC h dX10_clearText_17
def f_SR_at (fu : Nat) (post : Int32 → Mm → Prop) (a0 : Nat) (x1 : Int32) (M : Mm) : Prop :=
  ((x1 < 0) → post (-1) M) ∧ (¬ (x1 < 0) → (((nI (ln a0)) ≤ x1) → post (-1) M) ∧ (¬ ((nI (ln a0)) ≤ x1) → vp_in x1 (ln a0) ∧ post (M a0 x1.toNatClampNeg) M))
set_option maxRecDepth 100000 in
theorem c_SR_at (l : Launch) (g : GX) (w : WX) (fu : Nat) (post : Int32 → Mm → Prop) (a0 : Nat) (x1 : Int32) (M : Mm) (ha0 : ok w a0 20) (h : f_SR_at fu post a0 x1 M) : Met l yX10_at [Cond.code yX10_at cX10_at 2 (some .int)] (rmC 0 0 0) (va_Pc [ob g a0, .int x1] (Wb g w M)) (va_Qi post (Wb g w) (Af g)) 0 0 (Af g) := by
  refine Ct_i (by decide) rfl (fun v hv => by simp only [List.mem_cons, List.not_mem_nil, or_false] at hv; rcases hv with rfl | rfl <;> rfl) (Nat.le_of_ble_eq_true rfl) (Nat.le_refl _) ?_
  intro X hX _ hC
  unfold f_SR_at at h
  refine V_sub (us := [some (ob g a0), some (.int x1)]) ⟨rfl, rfl, trivial⟩ ?_
  refine V_iload_n hC rfl dX10_at_0 ?_
  refine V_if_lt (tgt := 16) hC dX10_at_1 (by decide) (fun b3 => ?_) (fun b3 => ?_)
  · replace h := h.1 b3
    refine V_iconst (v := (-1)) hC (by decide) dX10_at_16 ?_
    exact V_iret hC h dX10_at_17
  · replace h := h.2 b3
    refine V_iload_n hC rfl dX10_at_4 ?_
    refine V_aload_n hC rfl dX10_at_5 ?_
    refine V_alen hC ha0 rfl dX10_at_6 ?_
    refine V_icmp_ge (tgt := 16) hC dX10_at_7 (by decide) (fun b2 => ?_) (fun b2 => ?_)
    · replace h := h.1 b2
      refine V_iconst (v := (-1)) hC (by decide) dX10_at_16 ?_
      exact V_iret hC h dX10_at_17
    · replace h := h.2 b2
      refine V_aload_n hC rfl dX10_at_10 ?_
      refine V_iload_n hC rfl dX10_at_11 ?_
      obtain ⟨q1, h⟩ := h
      refine V_iald hC ha0 q1 dX10_at_12 ?_
      refine V_goto (tgt := 17) hC (by decide) dX10_at_13 ?_
      exact V_iret hC h dX10_at_17
def f_Gt_isLetter (fu : Nat) (post : Int32 → Mm → Prop) (x0 : Int32) (M : Mm) : Prop :=
  ((x0 < 97) → post 0 M) ∧ (¬ (x0 < 97) → ((122 < x0) → post 0 M) ∧ (¬ (122 < x0) → post 1 M))
set_option maxRecDepth 100000 in
theorem c_Gt_isLetter (l : Launch) (g : GX) (w : WX) (fu : Nat) (post : Int32 → Mm → Prop) (x0 : Int32) (M : Mm) (h : f_Gt_isLetter fu post x0 M) : Met l yX3_isLetter [Cond.code yX3_isLetter cX3_isLetter 1 (some .boolean)] (rmC 0 0 0) (va_Pc [.int x0] (Wb g w M)) (va_Qi (fun r M => zb r ∧ post r M) (Wb g w) (Af g)) 0 0 (Af g) := by
  refine Ct_i (by decide) rfl (fun v hv => by simp only [List.mem_cons, List.not_mem_nil, or_false] at hv; rcases hv with rfl <;> rfl) (Nat.le_of_ble_eq_true rfl) (Nat.le_refl _) ?_
  intro X hX _ hC
  unfold f_Gt_isLetter at h
  refine V_sub (us := [some (.int x0)]) ⟨rfl, trivial⟩ ?_
  refine V_iload_n hC rfl dX3_isLetter_0 ?_
  refine V_bipush (v := 97) hC (by decide) dX3_isLetter_1 ?_
  refine V_icmp_lt (tgt := 16) hC dX3_isLetter_3 (by decide) (fun b2 => ?_) (fun b2 => ?_)
  · replace h := h.1 b2
    refine V_iconst (v := 0) hC (by decide) dX3_isLetter_16 ?_
    exact V_zret hC (Or.inl rfl) h dX3_isLetter_17
  · replace h := h.2 b2
    refine V_iload_n hC rfl dX3_isLetter_6 ?_
    refine V_bipush (v := 122) hC (by decide) dX3_isLetter_7 ?_
    refine V_icmp_gt (tgt := 16) hC dX3_isLetter_9 (by decide) (fun b1 => ?_) (fun b1 => ?_)
    · replace h := h.1 b1
      refine V_iconst (v := 0) hC (by decide) dX3_isLetter_16 ?_
      exact V_zret hC (Or.inl rfl) h dX3_isLetter_17
    · replace h := h.2 b1
      refine V_iconst (v := 1) hC (by decide) dX3_isLetter_12 ?_
      refine V_goto (tgt := 17) hC (by decide) dX3_isLetter_13 ?_
      exact V_zret hC (Or.inr rfl) h dX3_isLetter_17
def f_Gt_nextLexeme_97 (fu : Nat) (post : Mm → Prop) (t : Nat) (M : Mm) : Prop :=
  (((M t 4) = (M t 3)) → (((M t 2) ≤ (M t 4)) → post M) ∧ (¬ ((M t 2) ≤ (M t 4)) → ∀ M1, M1 = up M t 4 ((M t 4) + 1) → post M1)) ∧ (¬ ((M t 4) = (M t 3)) → post M)
def f_Gt_nextLexeme_56 (fu : Nat) (post : Mm → Prop) : Nat → Nat → Mm → Prop
  | 0, _, _ => False
  | kf + 1, t, M =>
    (((M t 2) ≤ (M t 4)) → f_Gt_nextLexeme_97 fu post t M) ∧ (¬ ((M t 2) ≤ (M t 4)) → f_SR_at fu (fun r2 M1 => f_Gt_isLetter fu (fun r4 M3 => ((r4 = 0) → f_Gt_nextLexeme_97 fu post t M3) ∧ (¬ (r4 = 0) → ∀ M5, M5 = up M3 t 4 ((M3 t 4) + 1) → f_Gt_nextLexeme_56 fu post kf t M5)) r2 M1) (t + 1) (M t 4) M)
def f_Gt_nextLexeme_48 (fu : Nat) (post : Mm → Prop) (t : Nat) (M : Mm) : Prop :=
  ∀ M1, M1 = up M t 4 (M t 3) → f_Gt_nextLexeme_56 fu post fu t M1
def f_Gt_nextLexeme_8 (fu : Nat) (post : Mm → Prop) : Nat → Nat → Mm → Prop
  | 0, _, _ => False
  | kf + 1, t, M =>
    (((M t 2) ≤ (M t 3)) → f_Gt_nextLexeme_48 fu post t M) ∧ (¬ ((M t 2) ≤ (M t 3)) → f_SR_at fu (fun r2 M1 => ((r2 = 32) → ∀ M3, M3 = up M1 t 3 ((M1 t 3) + 1) → f_Gt_nextLexeme_8 fu post kf t M3) ∧ (¬ (r2 = 32) → f_Gt_nextLexeme_48 fu post t M1)) (t + 1) (M t 3) M)
def f_Gt_nextLexeme (fu : Nat) (post : Mm → Prop) (t : Nat) (M : Mm) : Prop :=
  ∀ M1, M1 = up M t 3 (M t 4) → f_Gt_nextLexeme_8 fu post fu t M1
set_option maxRecDepth 100000 in
theorem j_Gt_nextLexeme_97 {l : Launch} {X : CX} {g : GX} {w : WX} {fu : Nat} {post : Mm → Prop} (hX : X.2.1 = l) (hC : Cx X g cX3_nextLexeme 1 RX3 (none) 1) (t : Nat) {M : Mm} (ht : ok w t 3) (h : f_Gt_nextLexeme_97 fu post t M) : V X g w 1 0 0 (QV X g w post 0 0) 97 [some (ob g t)] [] M := by
  unfold f_Gt_nextLexeme_97 at h
  refine V_aload_n hC rfl dX3_nextLexeme_97 ?_
  refine gf_3_4 hC ht tw_152 dX3_nextLexeme_98 ?_
  refine V_aload_n hC rfl dX3_nextLexeme_101 ?_
  refine gf_3_3 hC ht tw_151 dX3_nextLexeme_102 ?_
  refine V_icmp_ne (tgt := 129) hC dX3_nextLexeme_105 (by decide) (fun b3 => ?_) (fun b3 => ?_)
  · replace h := h.2 b3
    exact V_vret hC h dX3_nextLexeme_129
  · replace h := h.1 b3
    refine V_aload_n hC rfl dX3_nextLexeme_108 ?_
    refine gf_3_4 hC ht tw_152 dX3_nextLexeme_109 ?_
    refine V_aload_n hC rfl dX3_nextLexeme_112 ?_
    refine gf_3_2 hC ht tw_149 dX3_nextLexeme_113 ?_
    refine V_icmp_ge (tgt := 129) hC dX3_nextLexeme_116 (by decide) (fun b2 => ?_) (fun b2 => ?_)
    · replace h := h.1 b2
      exact V_vret hC h dX3_nextLexeme_129
    · replace h := h.2 b2
      refine V_aload_n hC rfl dX3_nextLexeme_119 ?_
      refine V_dup hC rfl dX3_nextLexeme_120 ?_
      refine gf_3_4 hC ht tw_152 dX3_nextLexeme_121 ?_
      refine V_iconst (v := 1) hC (by decide) dX3_nextLexeme_124 ?_
      refine V_iadd hC dX3_nextLexeme_125 ?_
      refine pf_3_4 hC ht tw_152 dX3_nextLexeme_126 ?_
      obtain ⟨M1, eM1⟩ : ∃ z, z = up M t 4 ((M t 4) + 1) := ⟨_, rfl⟩
      replace h := h M1 eM1
      refine V_mem eM1 ?_
      exact V_vret hC h dX3_nextLexeme_129
set_option maxRecDepth 100000 in
theorem l_Gt_nextLexeme_56 {l : Launch} {X : CX} {g : GX} {w : WX} {fu : Nat} {post : Mm → Prop} (hX : X.2.1 = l) (hC : Cx X g cX3_nextLexeme 1 RX3 (none) 1) : ∀ (kf : Nat) (t : Nat) (M : Mm) (ht : ok w t 3) (h : f_Gt_nextLexeme_56 fu post kf t M), V X g w 1 0 0 (QV X g w post 0 0) 56 [some (ob g t)] [] M := by
  intro kf
  induction kf with
  | zero => intro t M ht h; exact absurd h id
  | succ kf ih =>
    intro t M ht h
    rw [f_Gt_nextLexeme_56] at h
    refine V_aload_n hC rfl dX3_nextLexeme_56 ?_
    refine gf_3_4 hC ht tw_152 dX3_nextLexeme_57 ?_
    refine V_aload_n hC rfl dX3_nextLexeme_60 ?_
    refine gf_3_2 hC ht tw_149 dX3_nextLexeme_61 ?_
    refine V_icmp_ge (tgt := 97) hC dX3_nextLexeme_64 (by decide) (fun b7 => ?_) (fun b7 => ?_)
    · replace h := h.1 b7
      refine V_sub (us := [some (ob g t)]) ⟨rfl, trivial⟩ ?_
      exact j_Gt_nextLexeme_97 hX hC t ht h
    · replace h := h.2 b7
      refine V_aload_n hC rfl dX3_nextLexeme_67 ?_
      refine gf_3_0 hC ht tw_146 dX3_nextLexeme_68 ?_
      refine V_aload_n hC rfl dX3_nextLexeme_71 ?_
      refine gf_3_4 hC ht tw_152 dX3_nextLexeme_72 ?_
      refine V_scalliN (As := [ob g (t + 1), .int (M t 4)]) hC (c_SR_at X.2.1 g w fu _ (t + 1) (M t 4) M (ok_3_0 ht) h) mw_X10_at (by decide) tw_315 rfl rfl (Nat.le_of_ble_eq_true rfl) ⟨Nat.zero_le _, Nat.zero_le _⟩ dX3_nextLexeme_75 (fun r2 M1 h => ?_)
      refine V_scalli (As := [.int r2]) hC (c_Gt_isLetter X.2.1 g w fu _ r2 M1 h) mw_X3_isLetter (by decide) tw_318 rfl rfl (Nat.le_of_ble_eq_true rfl) ⟨Nat.zero_le _, Nat.zero_le _⟩ dX3_nextLexeme_78 (fun r4 M3 h => ?_)
      obtain ⟨hzr4, h⟩ := h
      refine V_if_eq (tgt := 97) hC dX3_nextLexeme_81 (by decide) (fun b6 => ?_) (fun b6 => ?_)
      · replace h := h.1 b6
        refine V_sub (us := [some (ob g t)]) ⟨rfl, trivial⟩ ?_
        exact j_Gt_nextLexeme_97 hX hC t ht h
      · replace h := h.2 b6
        refine V_aload_n hC rfl dX3_nextLexeme_84 ?_
        refine V_dup hC rfl dX3_nextLexeme_85 ?_
        refine gf_3_4 hC ht tw_152 dX3_nextLexeme_86 ?_
        refine V_iconst (v := 1) hC (by decide) dX3_nextLexeme_89 ?_
        refine V_iadd hC dX3_nextLexeme_90 ?_
        refine pf_3_4 hC ht tw_152 dX3_nextLexeme_91 ?_
        obtain ⟨M5, eM5⟩ : ∃ z, z = up M3 t 4 ((M3 t 4) + 1) := ⟨_, rfl⟩
        replace h := h M5 eM5
        refine V_mem eM5 ?_
        refine V_goto (tgt := 56) hC (by decide) dX3_nextLexeme_94 ?_
        refine V_sub (us := [some (ob g t)]) ⟨rfl, trivial⟩ ?_
        exact ih t M5 ht h
set_option maxRecDepth 100000 in
theorem j_Gt_nextLexeme_48 {l : Launch} {X : CX} {g : GX} {w : WX} {fu : Nat} {post : Mm → Prop} (hX : X.2.1 = l) (hC : Cx X g cX3_nextLexeme 1 RX3 (none) 1) (t : Nat) {M : Mm} (ht : ok w t 3) (h : f_Gt_nextLexeme_48 fu post t M) : V X g w 1 0 0 (QV X g w post 0 0) 48 [some (ob g t)] [] M := by
  unfold f_Gt_nextLexeme_48 at h
  refine V_aload_n hC rfl dX3_nextLexeme_48 ?_
  refine V_aload_n hC rfl dX3_nextLexeme_49 ?_
  refine gf_3_3 hC ht tw_151 dX3_nextLexeme_50 ?_
  refine pf_3_4 hC ht tw_152 dX3_nextLexeme_53 ?_
  obtain ⟨M1, eM1⟩ : ∃ z, z = up M t 4 (M t 3) := ⟨_, rfl⟩
  replace h := h M1 eM1
  refine V_mem eM1 ?_
  refine V_sub (us := [some (ob g t)]) ⟨rfl, trivial⟩ ?_
  exact l_Gt_nextLexeme_56 hX hC fu t M1 ht h
set_option maxRecDepth 100000 in
theorem l_Gt_nextLexeme_8 {l : Launch} {X : CX} {g : GX} {w : WX} {fu : Nat} {post : Mm → Prop} (hX : X.2.1 = l) (hC : Cx X g cX3_nextLexeme 1 RX3 (none) 1) : ∀ (kf : Nat) (t : Nat) (M : Mm) (ht : ok w t 3) (h : f_Gt_nextLexeme_8 fu post kf t M), V X g w 1 0 0 (QV X g w post 0 0) 8 [some (ob g t)] [] M := by
  intro kf
  induction kf with
  | zero => intro t M ht h; exact absurd h id
  | succ kf ih =>
    intro t M ht h
    rw [f_Gt_nextLexeme_8] at h
    refine V_aload_n hC rfl dX3_nextLexeme_8 ?_
    refine gf_3_3 hC ht tw_151 dX3_nextLexeme_9 ?_
    refine V_aload_n hC rfl dX3_nextLexeme_12 ?_
    refine gf_3_2 hC ht tw_149 dX3_nextLexeme_13 ?_
    refine V_icmp_ge (tgt := 48) hC dX3_nextLexeme_16 (by decide) (fun b5 => ?_) (fun b5 => ?_)
    · replace h := h.1 b5
      refine V_sub (us := [some (ob g t)]) ⟨rfl, trivial⟩ ?_
      exact j_Gt_nextLexeme_48 hX hC t ht h
    · replace h := h.2 b5
      refine V_aload_n hC rfl dX3_nextLexeme_19 ?_
      refine gf_3_0 hC ht tw_146 dX3_nextLexeme_20 ?_
      refine V_aload_n hC rfl dX3_nextLexeme_23 ?_
      refine gf_3_3 hC ht tw_151 dX3_nextLexeme_24 ?_
      refine V_scalliN (As := [ob g (t + 1), .int (M t 3)]) hC (c_SR_at X.2.1 g w fu _ (t + 1) (M t 3) M (ok_3_0 ht) h) mw_X10_at (by decide) tw_315 rfl rfl (Nat.le_of_ble_eq_true rfl) ⟨Nat.zero_le _, Nat.zero_le _⟩ dX3_nextLexeme_27 (fun r2 M1 h => ?_)
      refine V_bipush (v := 32) hC (by decide) dX3_nextLexeme_30 ?_
      refine V_icmp_ne (tgt := 48) hC dX3_nextLexeme_32 (by decide) (fun b4 => ?_) (fun b4 => ?_)
      · replace h := h.2 b4
        refine V_sub (us := [some (ob g t)]) ⟨rfl, trivial⟩ ?_
        exact j_Gt_nextLexeme_48 hX hC t ht h
      · replace h := h.1 b4
        refine V_aload_n hC rfl dX3_nextLexeme_35 ?_
        refine V_dup hC rfl dX3_nextLexeme_36 ?_
        refine gf_3_3 hC ht tw_151 dX3_nextLexeme_37 ?_
        refine V_iconst (v := 1) hC (by decide) dX3_nextLexeme_40 ?_
        refine V_iadd hC dX3_nextLexeme_41 ?_
        refine pf_3_3 hC ht tw_151 dX3_nextLexeme_42 ?_
        obtain ⟨M3, eM3⟩ : ∃ z, z = up M1 t 3 ((M1 t 3) + 1) := ⟨_, rfl⟩
        replace h := h M3 eM3
        refine V_mem eM3 ?_
        refine V_goto (tgt := 8) hC (by decide) dX3_nextLexeme_45 ?_
        refine V_sub (us := [some (ob g t)]) ⟨rfl, trivial⟩ ?_
        exact ih t M3 ht h
set_option maxRecDepth 100000 in
theorem c_Gt_nextLexeme (l : Launch) (g : GX) (w : WX) (fu : Nat) (post : Mm → Prop) (t : Nat) (M : Mm) (ht : ok w t 3) (h : f_Gt_nextLexeme fu post t M) : Met l yX3_nextLexeme [Cond.code yX3_nextLexeme cX3_nextLexeme 1 (none)] (rmC 1 0 0) (va_Pc [ob g t] (Wb g w M)) (va_Qv post (Wb g w) (Af g)) 0 0 (Af g) := by
  refine Ct_v (by decide) rfl (fun v hv => by simp only [List.mem_cons, List.not_mem_nil, or_false] at hv; rcases hv with rfl <;> rfl) (Nat.le_of_ble_eq_true rfl) (Nat.le_refl _) ?_
  intro X hX _ hC
  unfold f_Gt_nextLexeme at h
  refine V_sub (us := [some (ob g t)]) ⟨rfl, trivial⟩ ?_
  refine V_aload_n hC rfl dX3_nextLexeme_0 ?_
  refine V_aload_n hC rfl dX3_nextLexeme_1 ?_
  refine gf_3_4 hC ht tw_152 dX3_nextLexeme_2 ?_
  refine pf_3_3 hC ht tw_151 dX3_nextLexeme_5 ?_
  obtain ⟨M1, eM1⟩ : ∃ z, z = up M t 3 (M t 4) := ⟨_, rfl⟩
  replace h := h M1 eM1
  refine V_mem eM1 ?_
  refine V_sub (us := [some (ob g t)]) ⟨rfl, trivial⟩ ?_
  exact l_Gt_nextLexeme_8 hX hC fu t M1 ht h
def f_Gt_takeWord_20 (fu : Nat) (post : Int32 → Mm → Prop) : Nat → Nat → Nat → Int32 → Mm → Prop
  | 0, _, _, _, _ => False
  | kf + 1, t, a1, x2, M =>
    (((nI (lenS.getD a1 0)) ≤ x2) → f_Gt_nextLexeme fu (fun M1 => post 1 M1) t M) ∧ (¬ ((nI (lenS.getD a1 0)) ≤ x2) → f_SR_at fu (fun r3 M2 => vp_in x2 (lenS.getD a1 0) ∧ ((r3 = (sch a1 x2.toNatClampNeg)) → ∀ y5, y5 = x2 + 1 → f_Gt_takeWord_20 fu post kf t a1 y5 M2) ∧ (¬ (r3 = (sch a1 x2.toNatClampNeg)) → post 0 M2)) (t + 1) ((M t 3) + x2) M)
def f_Gt_takeWord (fu : Nat) (post : Int32 → Mm → Prop) (t : Nat) (a1 : Nat) (M : Mm) : Prop :=
  ((((M t 4) - (M t 3)) = (nI (lenS.getD a1 0))) → f_Gt_takeWord_20 fu post fu t a1 0 M) ∧ (¬ (((M t 4) - (M t 3)) = (nI (lenS.getD a1 0))) → post 0 M)
set_option maxRecDepth 100000 in
theorem l_Gt_takeWord_20 {l : Launch} {X : CX} {g : GX} {w : WX} {fu : Nat} {post : Int32 → Mm → Prop} (hX : X.2.1 = l) (hC : Cx X g cX3_takeWord 3 RX3 (some .boolean) 4) : ∀ (kf : Nat) (t : Nat) (a1 : Nat) (x2 : Int32) (M : Mm) (ht : ok w t 3) (ha1 : a1 < 7) (h : f_Gt_takeWord_20 fu post kf t a1 x2 M), V X g w 3 0 0 (QI X g w (fun r M => zb r ∧ post r M) 0 0) 20 [some (ob g t), some (.ref (g.2.2.2.2.1 a1)), some (.int x2)] [] M := by
  intro kf
  induction kf with
  | zero => intro t a1 x2 M ht ha1 h; exact absurd h id
  | succ kf ih =>
    intro t a1 x2 M ht ha1 h
    rw [f_Gt_takeWord_20] at h
    refine V_iload_n hC rfl dX3_takeWord_20 ?_
    refine V_aload_n hC rfl dX3_takeWord_21 ?_
    refine V_slen hC ha1 tw_330 (by decide) (Nat.le_of_ble_eq_true rfl) ⟨Nat.zero_le _, Nat.zero_le _⟩ dX3_takeWord_22 ?_
    refine V_icmp_ge (tgt := 57) hC dX3_takeWord_25 (by decide) (fun b7 => ?_) (fun b7 => ?_)
    · replace h := h.1 b7
      refine V_aload_n hC rfl dX3_takeWord_57 ?_
      refine V_callv (As := []) hC (c_Gt_nextLexeme X.2.1 g w fu _ t M ht h) mw_X3_nextLexeme (by decide) tw_311 ht (by decide) rfl rfl rfl (Nat.le_of_ble_eq_true rfl) ⟨Nat.zero_le _, Nat.zero_le _⟩ dX3_takeWord_58 (fun M1 h => ?_)
      refine V_iconst (v := 1) hC (by decide) dX3_takeWord_61 ?_
      exact V_zret hC (Or.inr rfl) h dX3_takeWord_62
    · replace h := h.2 b7
      refine V_aload_n hC rfl dX3_takeWord_28 ?_
      refine gf_3_0 hC ht tw_146 dX3_takeWord_29 ?_
      refine V_aload_n hC rfl dX3_takeWord_32 ?_
      refine gf_3_3 hC ht tw_151 dX3_takeWord_33 ?_
      refine V_iload_n hC rfl dX3_takeWord_36 ?_
      refine V_iadd hC dX3_takeWord_37 ?_
      refine V_scalliN (As := [ob g (t + 1), .int ((M t 3) + x2)]) hC (c_SR_at X.2.1 g w fu _ (t + 1) ((M t 3) + x2) M (ok_3_0 ht) h) mw_X10_at (by decide) tw_315 rfl rfl (Nat.le_of_ble_eq_true rfl) ⟨Nat.zero_le _, Nat.zero_le _⟩ dX3_takeWord_38 (fun r3 M2 h => ?_)
      refine V_aload_n hC rfl dX3_takeWord_41 ?_
      refine V_iload_n hC rfl dX3_takeWord_42 ?_
      obtain ⟨q4, h⟩ := h
      refine V_scha hC ha1 q4 tw_340 (by decide) (Nat.le_of_ble_eq_true rfl) ⟨Nat.zero_le _, Nat.zero_le _⟩ dX3_takeWord_43 ?_
      refine V_icmp_eq (tgt := 51) hC dX3_takeWord_46 (by decide) (fun b6 => ?_) (fun b6 => ?_)
      · replace h := h.1 b6
        obtain ⟨y5, ey5⟩ : ∃ z, z = x2 + 1 := ⟨_, rfl⟩
        replace h := h y5 ey5
        refine V_iinc (v := y5) hC rfl (by rw [ey5]; rfl) (by decide) dX3_takeWord_51 ?_
        refine V_goto (tgt := 20) hC (by decide) dX3_takeWord_54 ?_
        refine V_sub (us := [some (ob g t), some (.ref (g.2.2.2.2.1 a1)), some (.int y5)]) ⟨rfl, rfl, rfl, trivial⟩ ?_
        exact ih t a1 y5 M2 ht ha1 h
      · replace h := h.2 b6
        refine V_iconst (v := 0) hC (by decide) dX3_takeWord_49 ?_
        exact V_zret hC (Or.inl rfl) h dX3_takeWord_50
set_option maxRecDepth 100000 in
theorem c_Gt_takeWord (l : Launch) (g : GX) (w : WX) (fu : Nat) (post : Int32 → Mm → Prop) (t : Nat) (a1 : Nat) (M : Mm) (ht : ok w t 3) (ha1 : a1 < 7) (h : f_Gt_takeWord fu post t a1 M) : Met l yX3_takeWord [Cond.code yX3_takeWord cX3_takeWord 3 (some .boolean)] (rmC 4 0 0) (va_Pc [ob g t, .ref (g.2.2.2.2.1 a1)] (Wb g w M)) (va_Qi (fun r M => zb r ∧ post r M) (Wb g w) (Af g)) 0 0 (Af g) := by
  refine Ct_i (by decide) rfl (fun v hv => by simp only [List.mem_cons, List.not_mem_nil, or_false] at hv; rcases hv with rfl | rfl <;> rfl) (Nat.le_of_ble_eq_true rfl) (Nat.le_refl _) ?_
  intro X hX _ hC
  unfold f_Gt_takeWord at h
  refine V_sub (us := [some (ob g t), some (.ref (g.2.2.2.2.1 a1)), none]) ⟨rfl, rfl, trivial⟩ ?_
  refine V_aload_n hC rfl dX3_takeWord_0 ?_
  refine gf_3_4 hC ht tw_152 dX3_takeWord_1 ?_
  refine V_aload_n hC rfl dX3_takeWord_4 ?_
  refine gf_3_3 hC ht tw_151 dX3_takeWord_5 ?_
  refine V_isub hC dX3_takeWord_8 ?_
  refine V_aload_n hC rfl dX3_takeWord_9 ?_
  refine V_slen hC ha1 tw_330 (by decide) (Nat.le_of_ble_eq_true rfl) ⟨Nat.zero_le _, Nat.zero_le _⟩ dX3_takeWord_10 ?_
  refine V_icmp_eq (tgt := 18) hC dX3_takeWord_13 (by decide) (fun b1 => ?_) (fun b1 => ?_)
  · replace h := h.1 b1
    refine V_iconst (v := 0) hC (by decide) dX3_takeWord_18 ?_
    refine V_istore_n hC (by decide) dX3_takeWord_19 ?_
    refine V_sub (us := [some (ob g t), some (.ref (g.2.2.2.2.1 a1)), some (.int 0)]) ⟨rfl, rfl, rfl, trivial⟩ ?_
    exact l_Gt_takeWord_20 hX hC fu t a1 0 M ht ha1 h
  · replace h := h.2 b1
    refine V_iconst (v := 0) hC (by decide) dX3_takeWord_16 ?_
    exact V_zret hC (Or.inl rfl) h dX3_takeWord_17
def f_Gt_takeDigit_31 (fu : Nat) (post : Int32 → Mm → Prop) (t : Nat) (x1 : Int32) (x2 : Int32) (kx0 : Int32) (M : Mm) : Prop :=
  ((kx0 < x1) → post (-1) M) ∧ (¬ (kx0 < x1) → ((kx0 ≤ x2) → f_Gt_nextLexeme fu (fun M1 => post kx0 M1) t M) ∧ (¬ (kx0 ≤ x2) → post (-1) M))
def f_Gt_takeDigit (fu : Nat) (post : Int32 → Mm → Prop) (t : Nat) (x1 : Int32) (x2 : Int32) (M : Mm) : Prop :=
  ((((M t 4) - (M t 3)) = 1) → f_SR_at fu (fun r2 M1 => f_Gt_takeDigit_31 fu post t x1 x2 (r2 - 48) M1) (t + 1) (M t 3) M) ∧ (¬ (((M t 4) - (M t 3)) = 1) → f_Gt_takeDigit_31 fu post t x1 x2 (-1) M)
set_option maxRecDepth 100000 in
theorem j_Gt_takeDigit_31 {l : Launch} {X : CX} {g : GX} {w : WX} {fu : Nat} {post : Int32 → Mm → Prop} (hX : X.2.1 = l) (hC : Cx X g cX3_takeDigit 4 RX3 (some .int) 2) (t : Nat) (x1 : Int32) (x2 : Int32) (kx0 : Int32) {M : Mm} (ht : ok w t 3) (h : f_Gt_takeDigit_31 fu post t x1 x2 kx0 M) : V X g w 4 0 0 (QI X g w post 0 0) 31 [some (ob g t), some (.int x1), some (.int x2), none] [.int kx0] M := by
  unfold f_Gt_takeDigit_31 at h
  refine V_istore_n hC (by decide) dX3_takeDigit_31 ?_
  refine V_iload_n hC rfl dX3_takeDigit_32 ?_
  refine V_iload_n hC rfl dX3_takeDigit_33 ?_
  refine V_icmp_lt (tgt := 42) hC dX3_takeDigit_34 (by decide) (fun b3 => ?_) (fun b3 => ?_)
  · replace h := h.1 b3
    refine V_iconst (v := (-1)) hC (by decide) dX3_takeDigit_42 ?_
    exact V_iret hC h dX3_takeDigit_43
  · replace h := h.2 b3
    refine V_iload_n hC rfl dX3_takeDigit_37 ?_
    refine V_iload_n hC rfl dX3_takeDigit_38 ?_
    refine V_icmp_le (tgt := 44) hC dX3_takeDigit_39 (by decide) (fun b2 => ?_) (fun b2 => ?_)
    · replace h := h.1 b2
      refine V_aload_n hC rfl dX3_takeDigit_44 ?_
      refine V_callv (As := []) hC (c_Gt_nextLexeme X.2.1 g w fu _ t M ht h) mw_X3_nextLexeme (by decide) tw_311 ht (by decide) rfl rfl rfl (Nat.le_of_ble_eq_true rfl) ⟨Nat.zero_le _, Nat.zero_le _⟩ dX3_takeDigit_45 (fun M1 h => ?_)
      refine V_iload_n hC rfl dX3_takeDigit_48 ?_
      exact V_iret hC h dX3_takeDigit_49
    · replace h := h.2 b2
      refine V_iconst (v := (-1)) hC (by decide) dX3_takeDigit_42 ?_
      exact V_iret hC h dX3_takeDigit_43
set_option maxRecDepth 100000 in
theorem c_Gt_takeDigit (l : Launch) (g : GX) (w : WX) (fu : Nat) (post : Int32 → Mm → Prop) (t : Nat) (x1 : Int32) (x2 : Int32) (M : Mm) (ht : ok w t 3) (h : f_Gt_takeDigit fu post t x1 x2 M) : Met l yX3_takeDigit [Cond.code yX3_takeDigit cX3_takeDigit 4 (some .int)] (rmC 2 0 0) (va_Pc [ob g t, .int x1, .int x2] (Wb g w M)) (va_Qi post (Wb g w) (Af g)) 0 0 (Af g) := by
  refine Ct_i (by decide) rfl (fun v hv => by simp only [List.mem_cons, List.not_mem_nil, or_false] at hv; rcases hv with rfl | rfl | rfl <;> rfl) (Nat.le_of_ble_eq_true rfl) (Nat.le_refl _) ?_
  intro X hX _ hC
  unfold f_Gt_takeDigit at h
  refine V_sub (us := [some (ob g t), some (.int x1), some (.int x2), none]) ⟨rfl, rfl, rfl, trivial⟩ ?_
  refine V_aload_n hC rfl dX3_takeDigit_0 ?_
  refine gf_3_4 hC ht tw_152 dX3_takeDigit_1 ?_
  refine V_aload_n hC rfl dX3_takeDigit_4 ?_
  refine gf_3_3 hC ht tw_151 dX3_takeDigit_5 ?_
  refine V_isub hC dX3_takeDigit_8 ?_
  refine V_iconst (v := 1) hC (by decide) dX3_takeDigit_9 ?_
  refine V_icmp_ne (tgt := 30) hC dX3_takeDigit_10 (by decide) (fun b3 => ?_) (fun b3 => ?_)
  · replace h := h.2 b3
    refine V_iconst (v := (-1)) hC (by decide) dX3_takeDigit_30 ?_
    refine V_sub (us := [some (ob g t), some (.int x1), some (.int x2), none]) ⟨rfl, rfl, rfl, trivial⟩ ?_
    exact j_Gt_takeDigit_31 hX hC t x1 x2 (-1) ht h
  · replace h := h.1 b3
    refine V_aload_n hC rfl dX3_takeDigit_13 ?_
    refine gf_3_0 hC ht tw_146 dX3_takeDigit_14 ?_
    refine V_aload_n hC rfl dX3_takeDigit_17 ?_
    refine gf_3_3 hC ht tw_151 dX3_takeDigit_18 ?_
    refine V_scalliN (As := [ob g (t + 1), .int (M t 3)]) hC (c_SR_at X.2.1 g w fu _ (t + 1) (M t 3) M (ok_3_0 ht) h) mw_X10_at (by decide) tw_315 rfl rfl (Nat.le_of_ble_eq_true rfl) ⟨Nat.zero_le _, Nat.zero_le _⟩ dX3_takeDigit_21 (fun r2 M1 h => ?_)
    refine V_bipush (v := 48) hC (by decide) dX3_takeDigit_24 ?_
    refine V_isub hC dX3_takeDigit_26 ?_
    refine V_goto (tgt := 31) hC (by decide) dX3_takeDigit_27 ?_
    refine V_sub (us := [some (ob g t), some (.int x1), some (.int x2), none]) ⟨rfl, rfl, rfl, trivial⟩ ?_
    exact j_Gt_takeDigit_31 hX hC t x1 x2 (r2 - 48) ht h
def f_Co_change (fu : Nat) (post : Mm → Prop) (t : Nat) (x1 : Int32) (x2 : Int32) (x3 : Int32) (M : Mm) : Prop :=
  f_SR_put fu (fun M1 => post M1) (t + 1) ((x1 * 6) + x2) x3 M
set_option maxRecDepth 100000 in
theorem c_Co_change (l : Launch) (g : GX) (w : WX) (fu : Nat) (post : Mm → Prop) (t : Nat) (x1 : Int32) (x2 : Int32) (x3 : Int32) (M : Mm) (ht : ok w t 1) (h : f_Co_change fu post t x1 x2 x3 M) : Met l yX1_change [Cond.code yX1_change cX1_change 4 (none)] (rmC 1 0 0) (va_Pc [ob g t, .int x1, .int x2, .int x3] (Wb g w M)) (va_Qv post (Wb g w) (Af g)) 0 0 (Af g) := by
  refine Ct_v (by decide) rfl (fun v hv => by simp only [List.mem_cons, List.not_mem_nil, or_false] at hv; rcases hv with rfl | rfl | rfl | rfl <;> rfl) (Nat.le_of_ble_eq_true rfl) (Nat.le_refl _) ?_
  intro X hX _ hC
  unfold f_Co_change at h
  refine V_sub (us := [some (ob g t), some (.int x1), some (.int x2), some (.int x3)]) ⟨rfl, rfl, rfl, rfl, trivial⟩ ?_
  refine V_aload_n hC rfl dX1_change_0 ?_
  refine gf_1_0 hC ht tw_77 dX1_change_1 ?_
  refine V_iload_n hC rfl dX1_change_4 ?_
  refine V_bipush (v := 6) hC (by decide) dX1_change_5 ?_
  refine V_imul hC dX1_change_7 ?_
  refine V_iload_n hC rfl dX1_change_8 ?_
  refine V_iadd hC dX1_change_9 ?_
  refine V_iload_n hC rfl dX1_change_10 ?_
  refine V_scallvN (As := [ob g (t + 1), .int ((x1 * 6) + x2), .int x3]) hC (c_SR_put X.2.1 g w fu _ (t + 1) ((x1 * 6) + x2) x3 M (ok_1_0 ht) h) mw_X10_put (by decide) tw_74 rfl rfl (Nat.le_of_ble_eq_true rfl) ⟨Nat.zero_le _, Nat.zero_le _⟩ dX1_change_11 (fun M1 h => ?_)
  exact V_vret hC h dX1_change_14
def f_SR_isKind (fu : Nat) (post : Int32 → Mm → Prop) (x0 : Int32) (M : Mm) : Prop :=
  ((x0 < 0) → post 0 M) ∧ (¬ (x0 < 0) → ((6 ≤ x0) → post 0 M) ∧ (¬ (6 ≤ x0) → post 1 M))
set_option maxRecDepth 100000 in
theorem c_SR_isKind (l : Launch) (g : GX) (w : WX) (fu : Nat) (post : Int32 → Mm → Prop) (x0 : Int32) (M : Mm) (h : f_SR_isKind fu post x0 M) : Met l yX10_isKind [Cond.code yX10_isKind cX10_isKind 1 (some .boolean)] (rmC 0 0 0) (va_Pc [.int x0] (Wb g w M)) (va_Qi (fun r M => zb r ∧ post r M) (Wb g w) (Af g)) 0 0 (Af g) := by
  refine Ct_i (by decide) rfl (fun v hv => by simp only [List.mem_cons, List.not_mem_nil, or_false] at hv; rcases hv with rfl <;> rfl) (Nat.le_of_ble_eq_true rfl) (Nat.le_refl _) ?_
  intro X hX _ hC
  unfold f_SR_isKind at h
  refine V_sub (us := [some (.int x0)]) ⟨rfl, trivial⟩ ?_
  refine V_iload_n hC rfl dX10_isKind_0 ?_
  refine V_if_lt (tgt := 14) hC dX10_isKind_1 (by decide) (fun b2 => ?_) (fun b2 => ?_)
  · replace h := h.1 b2
    refine V_iconst (v := 0) hC (by decide) dX10_isKind_14 ?_
    exact V_zret hC (Or.inl rfl) h dX10_isKind_15
  · replace h := h.2 b2
    refine V_iload_n hC rfl dX10_isKind_4 ?_
    refine V_bipush (v := 6) hC (by decide) dX10_isKind_5 ?_
    refine V_icmp_ge (tgt := 14) hC dX10_isKind_7 (by decide) (fun b1 => ?_) (fun b1 => ?_)
    · replace h := h.1 b1
      refine V_iconst (v := 0) hC (by decide) dX10_isKind_14 ?_
      exact V_zret hC (Or.inl rfl) h dX10_isKind_15
    · replace h := h.2 b1
      refine V_iconst (v := 1) hC (by decide) dX10_isKind_10 ?_
      refine V_goto (tgt := 15) hC (by decide) dX10_isKind_11 ?_
      exact V_zret hC (Or.inr rfl) h dX10_isKind_15
def f_Gt_kindHere_31 (fu : Nat) (post : Int32 → Mm → Prop) (kx0 : Int32) (M : Mm) : Prop :=
  f_SR_isKind fu (fun r2 M1 => ((r2 = 0) → post (-1) M1) ∧ (¬ (r2 = 0) → post kx0 M1)) kx0 M
def f_Gt_kindHere (fu : Nat) (post : Int32 → Mm → Prop) (t : Nat) (M : Mm) : Prop :=
  ((((M t 4) - (M t 3)) = 1) → f_SR_at fu (fun r2 M1 => f_Gt_kindHere_31 fu post (r2 - 97) M1) (t + 1) (M t 3) M) ∧ (¬ (((M t 4) - (M t 3)) = 1) → f_Gt_kindHere_31 fu post (-1) M)
set_option maxRecDepth 100000 in
theorem j_Gt_kindHere_31 {l : Launch} {X : CX} {g : GX} {w : WX} {fu : Nat} {post : Int32 → Mm → Prop} (hX : X.2.1 = l) (hC : Cx X g cX3_kindHere 2 RX3 (some .int) 1) (kx0 : Int32) {M : Mm} (h : f_Gt_kindHere_31 fu post kx0 M) : V X g w 2 0 0 (QI X g w post 0 0) 31 [none, none] [.int kx0] M := by
  unfold f_Gt_kindHere_31 at h
  refine V_istore_n hC (by decide) dX3_kindHere_31 ?_
  refine V_iload_n hC rfl dX3_kindHere_32 ?_
  refine V_scalliN (As := [.int kx0]) hC (c_SR_isKind X.2.1 g w fu _ kx0 M h) mw_X10_isKind (by decide) tw_412 rfl rfl (Nat.le_of_ble_eq_true rfl) ⟨Nat.zero_le _, Nat.zero_le _⟩ dX3_kindHere_33 (fun r2 M1 h => ?_)
  obtain ⟨hzr2, h⟩ := h
  refine V_if_eq (tgt := 43) hC dX3_kindHere_36 (by decide) (fun b3 => ?_) (fun b3 => ?_)
  · replace h := h.1 b3
    refine V_iconst (v := (-1)) hC (by decide) dX3_kindHere_43 ?_
    exact V_iret hC h dX3_kindHere_44
  · replace h := h.2 b3
    refine V_iload_n hC rfl dX3_kindHere_39 ?_
    refine V_goto (tgt := 44) hC (by decide) dX3_kindHere_40 ?_
    exact V_iret hC h dX3_kindHere_44
set_option maxRecDepth 100000 in
theorem c_Gt_kindHere (l : Launch) (g : GX) (w : WX) (fu : Nat) (post : Int32 → Mm → Prop) (t : Nat) (M : Mm) (ht : ok w t 3) (h : f_Gt_kindHere fu post t M) : Met l yX3_kindHere [Cond.code yX3_kindHere cX3_kindHere 2 (some .int)] (rmC 1 0 0) (va_Pc [ob g t] (Wb g w M)) (va_Qi post (Wb g w) (Af g)) 0 0 (Af g) := by
  refine Ct_i (by decide) rfl (fun v hv => by simp only [List.mem_cons, List.not_mem_nil, or_false] at hv; rcases hv with rfl <;> rfl) (Nat.le_of_ble_eq_true rfl) (Nat.le_refl _) ?_
  intro X hX _ hC
  unfold f_Gt_kindHere at h
  refine V_sub (us := [some (ob g t), none]) ⟨rfl, trivial⟩ ?_
  refine V_aload_n hC rfl dX3_kindHere_0 ?_
  refine gf_3_4 hC ht tw_152 dX3_kindHere_1 ?_
  refine V_aload_n hC rfl dX3_kindHere_4 ?_
  refine gf_3_3 hC ht tw_151 dX3_kindHere_5 ?_
  refine V_isub hC dX3_kindHere_8 ?_
  refine V_iconst (v := 1) hC (by decide) dX3_kindHere_9 ?_
  refine V_icmp_ne (tgt := 30) hC dX3_kindHere_10 (by decide) (fun b3 => ?_) (fun b3 => ?_)
  · replace h := h.2 b3
    refine V_iconst (v := (-1)) hC (by decide) dX3_kindHere_30 ?_
    refine V_sub (us := [none, none]) trivial ?_
    exact j_Gt_kindHere_31 hX hC (-1) h
  · replace h := h.1 b3
    refine V_aload_n hC rfl dX3_kindHere_13 ?_
    refine gf_3_0 hC ht tw_146 dX3_kindHere_14 ?_
    refine V_aload_n hC rfl dX3_kindHere_17 ?_
    refine gf_3_3 hC ht tw_151 dX3_kindHere_18 ?_
    refine V_scalliN (As := [ob g (t + 1), .int (M t 3)]) hC (c_SR_at X.2.1 g w fu _ (t + 1) (M t 3) M (ok_3_0 ht) h) mw_X10_at (by decide) tw_315 rfl rfl (Nat.le_of_ble_eq_true rfl) ⟨Nat.zero_le _, Nat.zero_le _⟩ dX3_kindHere_21 (fun r2 M1 h => ?_)
    refine V_bipush (v := 97) hC (by decide) dX3_kindHere_24 ?_
    refine V_isub hC dX3_kindHere_26 ?_
    refine V_goto (tgt := 31) hC (by decide) dX3_kindHere_27 ?_
    refine V_sub (us := [none, none]) trivial ?_
    exact j_Gt_kindHere_31 hX hC (r2 - 97) h
def f_Gt_readCosts_17 (fu : Nat) (post : Int32 → Mm → Prop) : Nat → Nat → Int32 → Int32 → Mm → Prop
  | 0, _, _, _, _ => False
  | kf + 1, t, x1, x2, M =>
    ((x2 < 1) → post 1 M) ∧ (¬ (x2 < 1) → f_Gt_takeDigit fu (fun r2 M1 => ((0 ≤ r2) → f_Co_change fu (fun M3 => ∀ y4, y4 = x2 + (-1) → f_Gt_readCosts_17 fu post kf t x1 y4 M3) (t + 8) x2 x1 r2 M1) ∧ (¬ (0 ≤ r2) → post 0 M1)) t 1 9 M)
def f_Gt_readCosts (fu : Nat) (post : Int32 → Mm → Prop) (t : Nat) (M : Mm) : Prop :=
  f_Gt_kindHere fu (fun r2 M1 => ((0 ≤ r2) → f_Gt_nextLexeme fu (fun M3 => f_Gt_readCosts_17 fu post fu t r2 3 M3) t M1) ∧ (¬ (0 ≤ r2) → post 0 M1)) t M
set_option maxRecDepth 100000 in
theorem l_Gt_readCosts_17 {l : Launch} {X : CX} {g : GX} {w : WX} {fu : Nat} {post : Int32 → Mm → Prop} (hX : X.2.1 = l) (hC : Cx X g cX3_readCosts 4 RX3 (some .boolean) 3) : ∀ (kf : Nat) (t : Nat) (x1 : Int32) (x2 : Int32) (M : Mm) (ht : ok w t 3) (h : f_Gt_readCosts_17 fu post kf t x1 x2 M), V X g w 4 0 0 (QI X g w (fun r M => zb r ∧ post r M) 0 0) 17 [some (ob g t), some (.int x1), some (.int x2), none] [] M := by
  intro kf
  induction kf with
  | zero => intro t x1 x2 M ht h; exact absurd h id
  | succ kf ih =>
    intro t x1 x2 M ht h
    rw [f_Gt_readCosts_17] at h
    refine V_iload_n hC rfl dX3_readCosts_17 ?_
    refine V_iconst (v := 1) hC (by decide) dX3_readCosts_18 ?_
    refine V_icmp_lt (tgt := 55) hC dX3_readCosts_19 (by decide) (fun b6 => ?_) (fun b6 => ?_)
    · replace h := h.1 b6
      refine V_iconst (v := 1) hC (by decide) dX3_readCosts_55 ?_
      exact V_zret hC (Or.inr rfl) h dX3_readCosts_56
    · replace h := h.2 b6
      refine V_aload_n hC rfl dX3_readCosts_22 ?_
      refine V_iconst (v := 1) hC (by decide) dX3_readCosts_23 ?_
      refine V_bipush (v := 9) hC (by decide) dX3_readCosts_24 ?_
      refine V_calli (As := [.int 1, .int 9]) hC (c_Gt_takeDigit X.2.1 g w fu _ t 1 9 M ht h) mw_X3_takeDigit (by decide) tw_378 ht (by decide) rfl rfl rfl (Nat.le_of_ble_eq_true rfl) ⟨Nat.zero_le _, Nat.zero_le _⟩ dX3_readCosts_26 (fun r2 M1 h => ?_)
      refine V_istore_n hC (by decide) dX3_readCosts_29 ?_
      refine V_iload_n hC rfl dX3_readCosts_30 ?_
      refine V_if_ge (tgt := 36) hC dX3_readCosts_31 (by decide) (fun b5 => ?_) (fun b5 => ?_)
      · replace h := h.1 b5
        refine V_aload_n hC rfl dX3_readCosts_36 ?_
        refine gf_3_1 hC ht tw_147 dX3_readCosts_37 ?_
        refine gfN_8_1 hC (ok_3_1 ht) tw_104 dX3_readCosts_40 ?_
        refine V_iload_n hC rfl dX3_readCosts_43 ?_
        refine V_iload_n hC rfl dX3_readCosts_44 ?_
        refine V_iload_n hC rfl dX3_readCosts_45 ?_
        refine V_callv (As := [.int x2, .int x1, .int r2]) hC (c_Co_change X.2.1 g w fu _ (t + 8) x2 x1 r2 M1 (ok_8_1 (ok_3_1 ht)) h) mw_X1_change (by decide) tw_431 (ok_8_1 (ok_3_1 ht)) (by decide) rfl rfl rfl (Nat.le_of_ble_eq_true rfl) ⟨Nat.zero_le _, Nat.zero_le _⟩ dX3_readCosts_46 (fun M3 h => ?_)
        obtain ⟨y4, ey4⟩ : ∃ z, z = x2 + (-1) := ⟨_, rfl⟩
        replace h := h y4 ey4
        refine V_iinc (v := y4) hC rfl (by rw [ey4]; rfl) (by decide) dX3_readCosts_49 ?_
        refine V_goto (tgt := 17) hC (by decide) dX3_readCosts_52 ?_
        refine V_sub (us := [some (ob g t), some (.int x1), some (.int y4), none]) ⟨rfl, rfl, rfl, trivial⟩ ?_
        exact ih t x1 y4 M3 ht h
      · replace h := h.2 b5
        refine V_iconst (v := 0) hC (by decide) dX3_readCosts_34 ?_
        exact V_zret hC (Or.inl rfl) h dX3_readCosts_35
set_option maxRecDepth 100000 in
theorem c_Gt_readCosts (l : Launch) (g : GX) (w : WX) (fu : Nat) (post : Int32 → Mm → Prop) (t : Nat) (M : Mm) (ht : ok w t 3) (h : f_Gt_readCosts fu post t M) : Met l yX3_readCosts [Cond.code yX3_readCosts cX3_readCosts 4 (some .boolean)] (rmC 3 0 0) (va_Pc [ob g t] (Wb g w M)) (va_Qi (fun r M => zb r ∧ post r M) (Wb g w) (Af g)) 0 0 (Af g) := by
  refine Ct_i (by decide) rfl (fun v hv => by simp only [List.mem_cons, List.not_mem_nil, or_false] at hv; rcases hv with rfl <;> rfl) (Nat.le_of_ble_eq_true rfl) (Nat.le_refl _) ?_
  intro X hX _ hC
  unfold f_Gt_readCosts at h
  refine V_sub (us := [some (ob g t), none, none, none]) ⟨rfl, trivial⟩ ?_
  refine V_aload_n hC rfl dX3_readCosts_0 ?_
  refine V_calli (As := []) hC (c_Gt_kindHere X.2.1 g w fu _ t M ht h) mw_X3_kindHere (by decide) tw_408 ht (by decide) rfl rfl rfl (Nat.le_of_ble_eq_true rfl) ⟨Nat.zero_le _, Nat.zero_le _⟩ dX3_readCosts_1 (fun r2 M1 h => ?_)
  refine V_istore_n hC (by decide) dX3_readCosts_4 ?_
  refine V_iload_n hC rfl dX3_readCosts_5 ?_
  refine V_if_ge (tgt := 11) hC dX3_readCosts_6 (by decide) (fun b4 => ?_) (fun b4 => ?_)
  · replace h := h.1 b4
    refine V_aload_n hC rfl dX3_readCosts_11 ?_
    refine V_callv (As := []) hC (c_Gt_nextLexeme X.2.1 g w fu _ t M1 ht h) mw_X3_nextLexeme (by decide) tw_311 ht (by decide) rfl rfl rfl (Nat.le_of_ble_eq_true rfl) ⟨Nat.zero_le _, Nat.zero_le _⟩ dX3_readCosts_12 (fun M3 h => ?_)
    refine V_iconst (v := 3) hC (by decide) dX3_readCosts_15 ?_
    refine V_istore_n hC (by decide) dX3_readCosts_16 ?_
    refine V_sub (us := [some (ob g t), some (.int r2), some (.int 3), none]) ⟨rfl, rfl, rfl, trivial⟩ ?_
    exact l_Gt_readCosts_17 hX hC fu t r2 3 M3 ht h
  · replace h := h.2 b4
    refine V_iconst (v := 0) hC (by decide) dX3_readCosts_9 ?_
    exact V_zret hC (Or.inl rfl) h dX3_readCosts_10
def f_Au_addRule (fu : Nat) (post : Mm → Prop) (t : Nat) (x1 : Int32) (x2 : Int32) (x3 : Int32) (x4 : Int32) (x5 : Int32) (M : Mm) : Prop :=
  ∀ y1, y1 = ((x2 * 6) + x3) → f_SR_put fu (fun M2 => f_SR_put fu (fun M3 => f_SR_put fu (fun M4 => post M4) (t + 4) y1 x5 M3) (t + 3) y1 x4 M2) (t + 2) y1 x1 M
set_option maxRecDepth 100000 in
theorem c_Au_addRule (l : Launch) (g : GX) (w : WX) (fu : Nat) (post : Mm → Prop) (t : Nat) (x1 : Int32) (x2 : Int32) (x3 : Int32) (x4 : Int32) (x5 : Int32) (M : Mm) (ht : ok w t 0) (h : f_Au_addRule fu post t x1 x2 x3 x4 x5 M) : Met l yX0_addRule [Cond.code yX0_addRule cX0_addRule 7 (none)] (rmC 1 0 0) (va_Pc [ob g t, .int x1, .int x2, .int x3, .int x4, .int x5] (Wb g w M)) (va_Qv post (Wb g w) (Af g)) 0 0 (Af g) := by
  refine Ct_v (by decide) rfl (fun v hv => by simp only [List.mem_cons, List.not_mem_nil, or_false] at hv; rcases hv with rfl | rfl | rfl | rfl | rfl | rfl <;> rfl) (Nat.le_of_ble_eq_true rfl) (Nat.le_refl _) ?_
  intro X hX _ hC
  unfold f_Au_addRule at h
  refine V_sub (us := [some (ob g t), some (.int x1), some (.int x2), some (.int x3), some (.int x4), some (.int x5), none]) ⟨rfl, rfl, rfl, rfl, rfl, rfl, trivial⟩ ?_
  refine V_iload_n hC rfl dX0_addRule_0 ?_
  refine V_bipush (v := 6) hC (by decide) dX0_addRule_1 ?_
  refine V_imul hC dX0_addRule_3 ?_
  refine V_iload_n hC rfl dX0_addRule_4 ?_
  refine V_iadd hC dX0_addRule_5 ?_
  refine V_topi (fun y1 ey1 => ?_)
  replace h := h y1 ey1
  refine V_istore hC (by decide) dX0_addRule_6 ?_
  refine V_aload_n hC rfl dX0_addRule_8 ?_
  refine gf_0_1 hC ht tw_39 dX0_addRule_9 ?_
  refine V_iload hC rfl dX0_addRule_12 ?_
  refine V_iload_n hC rfl dX0_addRule_14 ?_
  refine V_scallvN (As := [ob g (t + 2), .int y1, .int x1]) hC (c_SR_put X.2.1 g w fu _ (t + 2) y1 x1 M (ok_0_1 ht) h) mw_X10_put (by decide) tw_267 rfl rfl (Nat.le_of_ble_eq_true rfl) ⟨Nat.zero_le _, Nat.zero_le _⟩ dX0_addRule_15 (fun M2 h => ?_)
  refine V_aload_n hC rfl dX0_addRule_18 ?_
  refine gf_0_2 hC ht tw_40 dX0_addRule_19 ?_
  refine V_iload hC rfl dX0_addRule_22 ?_
  refine V_iload hC rfl dX0_addRule_24 ?_
  refine V_scallvN (As := [ob g (t + 3), .int y1, .int x4]) hC (c_SR_put X.2.1 g w fu _ (t + 3) y1 x4 M2 (ok_0_2 ht) h) mw_X10_put (by decide) tw_267 rfl rfl (Nat.le_of_ble_eq_true rfl) ⟨Nat.zero_le _, Nat.zero_le _⟩ dX0_addRule_26 (fun M3 h => ?_)
  refine V_aload_n hC rfl dX0_addRule_29 ?_
  refine gf_0_3 hC ht tw_41 dX0_addRule_30 ?_
  refine V_iload hC rfl dX0_addRule_33 ?_
  refine V_iload hC rfl dX0_addRule_35 ?_
  refine V_scallvN (As := [ob g (t + 4), .int y1, .int x5]) hC (c_SR_put X.2.1 g w fu _ (t + 4) y1 x5 M3 (ok_0_3 ht) h) mw_X10_put (by decide) tw_267 rfl rfl (Nat.le_of_ble_eq_true rfl) ⟨Nat.zero_le _, Nat.zero_le _⟩ dX0_addRule_37 (fun M4 h => ?_)
  exact V_vret hC h dX0_addRule_40
def f_Au_hasRule (fu : Nat) (post : Int32 → Mm → Prop) (t : Nat) (x1 : Int32) (x2 : Int32) (M : Mm) : Prop :=
  f_SR_at fu (fun r2 M1 => ((r2 = 0) → post 0 M1) ∧ (¬ (r2 = 0) → post 1 M1)) (t + 2) ((x1 * 6) + x2) M
set_option maxRecDepth 100000 in
theorem c_Au_hasRule (l : Launch) (g : GX) (w : WX) (fu : Nat) (post : Int32 → Mm → Prop) (t : Nat) (x1 : Int32) (x2 : Int32) (M : Mm) (ht : ok w t 0) (h : f_Au_hasRule fu post t x1 x2 M) : Met l yX0_hasRule [Cond.code yX0_hasRule cX0_hasRule 3 (some .boolean)] (rmC 1 0 0) (va_Pc [ob g t, .int x1, .int x2] (Wb g w M)) (va_Qi (fun r M => zb r ∧ post r M) (Wb g w) (Af g)) 0 0 (Af g) := by
  refine Ct_i (by decide) rfl (fun v hv => by simp only [List.mem_cons, List.not_mem_nil, or_false] at hv; rcases hv with rfl | rfl | rfl <;> rfl) (Nat.le_of_ble_eq_true rfl) (Nat.le_refl _) ?_
  intro X hX _ hC
  unfold f_Au_hasRule at h
  refine V_sub (us := [some (ob g t), some (.int x1), some (.int x2)]) ⟨rfl, rfl, rfl, trivial⟩ ?_
  refine V_aload_n hC rfl dX0_hasRule_0 ?_
  refine gf_0_1 hC ht tw_39 dX0_hasRule_1 ?_
  refine V_iload_n hC rfl dX0_hasRule_4 ?_
  refine V_bipush (v := 6) hC (by decide) dX0_hasRule_5 ?_
  refine V_imul hC dX0_hasRule_7 ?_
  refine V_iload_n hC rfl dX0_hasRule_8 ?_
  refine V_iadd hC dX0_hasRule_9 ?_
  refine V_scalliN (As := [ob g (t + 2), .int ((x1 * 6) + x2)]) hC (c_SR_at X.2.1 g w fu _ (t + 2) ((x1 * 6) + x2) M (ok_0_1 ht) h) mw_X10_at (by decide) tw_419 rfl rfl (Nat.le_of_ble_eq_true rfl) ⟨Nat.zero_le _, Nat.zero_le _⟩ dX0_hasRule_10 (fun r2 M1 h => ?_)
  refine V_if_eq (tgt := 20) hC dX0_hasRule_13 (by decide) (fun b3 => ?_) (fun b3 => ?_)
  · replace h := h.1 b3
    refine V_iconst (v := 0) hC (by decide) dX0_hasRule_20 ?_
    exact V_zret hC (Or.inl rfl) h dX0_hasRule_21
  · replace h := h.2 b3
    refine V_iconst (v := 1) hC (by decide) dX0_hasRule_16 ?_
    refine V_goto (tgt := 21) hC (by decide) dX0_hasRule_17 ?_
    exact V_zret hC (Or.inr rfl) h dX0_hasRule_21
def f_Gt_readRule_95 (fu : Nat) (post : Int32 → Mm → Prop) (t : Nat) (x1 : Int32) (x2 : Int32) (x3 : Int32) (x4 : Int32) (kx0 : Int32) (M : Mm) : Prop :=
  ((0 ≤ kx0) → f_Au_addRule fu (fun M1 => post 1 M1) (t + 3) x1 x2 x3 x4 kx0 M) ∧ (¬ (0 ≤ kx0) → post 0 M)
def f_Gt_readRule (fu : Nat) (post : Int32 → Mm → Prop) (t : Nat) (x1 : Int32) (M : Mm) : Prop :=
  f_Gt_takeDigit fu (fun r2 M1 => ((0 ≤ r2) → f_Gt_kindHere fu (fun r4 M3 => ((r4 < 0) → post 0 M3) ∧ (¬ (r4 < 0) → f_Au_hasRule fu (fun r6 M5 => ((r6 = 0) → f_Gt_nextLexeme fu (fun M7 => f_Gt_takeDigit fu (fun r9 M8 => ((0 ≤ r9) → ((x1 = 1) → f_Gt_readRule_95 fu post t x1 r2 r4 r9 0 M8) ∧ (¬ (x1 = 1) → f_Gt_takeDigit fu (fun r11 M10 => f_Gt_readRule_95 fu post t x1 r2 r4 r9 r11 M10) t 0 1 M8)) ∧ (¬ (0 ≤ r9) → post 0 M8)) t 0 ((M7 (t + 3) 4) - 1) M7) t M5) ∧ (¬ (r6 = 0) → post 0 M5)) (t + 3) r2 r4 M3)) t M1) ∧ (¬ (0 ≤ r2) → post 0 M1)) t 0 ((M (t + 3) 4) - 1) M
set_option maxRecDepth 100000 in
theorem j_Gt_readRule_95 {l : Launch} {X : CX} {g : GX} {w : WX} {fu : Nat} {post : Int32 → Mm → Prop} (hX : X.2.1 = l) (hC : Cx X g cX3_readRule 6 RX3 (some .boolean) 3) (t : Nat) (x1 : Int32) (x2 : Int32) (x3 : Int32) (x4 : Int32) (kx0 : Int32) {M : Mm} (ht : ok w t 3) (h : f_Gt_readRule_95 fu post t x1 x2 x3 x4 kx0 M) : V X g w 6 0 0 (QI X g w (fun r M => zb r ∧ post r M) 0 0) 95 [some (ob g t), some (.int x1), some (.int x2), some (.int x3), some (.int x4), none] [.int kx0] M := by
  unfold f_Gt_readRule_95 at h
  refine V_istore hC (by decide) dX3_readRule_95 ?_
  refine V_iload hC rfl dX3_readRule_97 ?_
  refine V_if_ge (tgt := 104) hC dX3_readRule_99 (by decide) (fun b2 => ?_) (fun b2 => ?_)
  · replace h := h.1 b2
    refine V_aload_n hC rfl dX3_readRule_104 ?_
    refine gf_3_1 hC ht tw_147 dX3_readRule_105 ?_
    refine gfN_8_0 hC (ok_3_1 ht) tw_102 dX3_readRule_108 ?_
    refine V_iload_n hC rfl dX3_readRule_111 ?_
    refine V_iload_n hC rfl dX3_readRule_112 ?_
    refine V_iload_n hC rfl dX3_readRule_113 ?_
    refine V_iload hC rfl dX3_readRule_114 ?_
    refine V_iload hC rfl dX3_readRule_116 ?_
    refine V_callv (As := [.int x1, .int x2, .int x3, .int x4, .int kx0]) hC (c_Au_addRule X.2.1 g w fu _ (t + 3) x1 x2 x3 x4 kx0 M (ok_8_0 (ok_3_1 ht)) h) mw_X0_addRule (by decide) tw_420 (ok_8_0 (ok_3_1 ht)) (by decide) rfl rfl rfl (Nat.le_of_ble_eq_true rfl) ⟨Nat.zero_le _, Nat.zero_le _⟩ dX3_readRule_118 (fun M1 h => ?_)
    refine V_iconst (v := 1) hC (by decide) dX3_readRule_121 ?_
    exact V_zret hC (Or.inr rfl) h dX3_readRule_122
  · replace h := h.2 b2
    refine V_iconst (v := 0) hC (by decide) dX3_readRule_102 ?_
    exact V_zret hC (Or.inl rfl) h dX3_readRule_103
set_option maxRecDepth 100000 in
theorem c_Gt_readRule (l : Launch) (g : GX) (w : WX) (fu : Nat) (post : Int32 → Mm → Prop) (t : Nat) (x1 : Int32) (M : Mm) (ht : ok w t 3) (h : f_Gt_readRule fu post t x1 M) : Met l yX3_readRule [Cond.code yX3_readRule cX3_readRule 6 (some .boolean)] (rmC 3 0 0) (va_Pc [ob g t, .int x1] (Wb g w M)) (va_Qi (fun r M => zb r ∧ post r M) (Wb g w) (Af g)) 0 0 (Af g) := by
  refine Ct_i (by decide) rfl (fun v hv => by simp only [List.mem_cons, List.not_mem_nil, or_false] at hv; rcases hv with rfl | rfl <;> rfl) (Nat.le_of_ble_eq_true rfl) (Nat.le_refl _) ?_
  intro X hX _ hC
  unfold f_Gt_readRule at h
  refine V_sub (us := [some (ob g t), some (.int x1), none, none, none, none]) ⟨rfl, rfl, trivial⟩ ?_
  refine V_aload_n hC rfl dX3_readRule_0 ?_
  refine V_iconst (v := 0) hC (by decide) dX3_readRule_1 ?_
  refine V_aload_n hC rfl dX3_readRule_2 ?_
  refine gf_3_1 hC ht tw_147 dX3_readRule_3 ?_
  refine gfN_8_0 hC (ok_3_1 ht) tw_102 dX3_readRule_6 ?_
  refine gfN_0_4 hC (ok_8_0 (ok_3_1 ht)) tw_43 dX3_readRule_9 ?_
  refine V_iconst (v := 1) hC (by decide) dX3_readRule_12 ?_
  refine V_isub hC dX3_readRule_13 ?_
  refine V_calli (As := [.int 0, .int ((M (t + 3) 4) - 1)]) hC (c_Gt_takeDigit X.2.1 g w fu _ t 0 ((M (t + 3) 4) - 1) M ht h) mw_X3_takeDigit (by decide) tw_378 ht (by decide) rfl rfl rfl (Nat.le_of_ble_eq_true rfl) ⟨Nat.zero_le _, Nat.zero_le _⟩ dX3_readRule_14 (fun r2 M1 h => ?_)
  refine V_istore_n hC (by decide) dX3_readRule_17 ?_
  refine V_iload_n hC rfl dX3_readRule_18 ?_
  refine V_if_ge (tgt := 24) hC dX3_readRule_19 (by decide) (fun b16 => ?_) (fun b16 => ?_)
  · replace h := h.1 b16
    refine V_aload_n hC rfl dX3_readRule_24 ?_
    refine V_calli (As := []) hC (c_Gt_kindHere X.2.1 g w fu _ t M1 ht h) mw_X3_kindHere (by decide) tw_408 ht (by decide) rfl rfl rfl (Nat.le_of_ble_eq_true rfl) ⟨Nat.zero_le _, Nat.zero_le _⟩ dX3_readRule_25 (fun r4 M3 h => ?_)
    refine V_istore_n hC (by decide) dX3_readRule_28 ?_
    refine V_iload_n hC rfl dX3_readRule_29 ?_
    refine V_if_lt (tgt := 48) hC dX3_readRule_30 (by decide) (fun b15 => ?_) (fun b15 => ?_)
    · replace h := h.1 b15
      refine V_iconst (v := 0) hC (by decide) dX3_readRule_48 ?_
      exact V_zret hC (Or.inl rfl) h dX3_readRule_49
    · replace h := h.2 b15
      refine V_aload_n hC rfl dX3_readRule_33 ?_
      refine gf_3_1 hC ht tw_147 dX3_readRule_34 ?_
      refine gfN_8_0 hC (ok_3_1 ht) tw_102 dX3_readRule_37 ?_
      refine V_iload_n hC rfl dX3_readRule_40 ?_
      refine V_iload_n hC rfl dX3_readRule_41 ?_
      refine V_calli (As := [.int r2, .int r4]) hC (c_Au_hasRule X.2.1 g w fu _ (t + 3) r2 r4 M3 (ok_8_0 (ok_3_1 ht)) h) mw_X0_hasRule (by decide) tw_415 (ok_8_0 (ok_3_1 ht)) (by decide) rfl rfl rfl (Nat.le_of_ble_eq_true rfl) ⟨Nat.zero_le _, Nat.zero_le _⟩ dX3_readRule_42 (fun r6 M5 h => ?_)
      obtain ⟨hzr6, h⟩ := h
      refine V_if_eq (tgt := 50) hC dX3_readRule_45 (by decide) (fun b14 => ?_) (fun b14 => ?_)
      · replace h := h.1 b14
        refine V_aload_n hC rfl dX3_readRule_50 ?_
        refine V_callv (As := []) hC (c_Gt_nextLexeme X.2.1 g w fu _ t M5 ht h) mw_X3_nextLexeme (by decide) tw_311 ht (by decide) rfl rfl rfl (Nat.le_of_ble_eq_true rfl) ⟨Nat.zero_le _, Nat.zero_le _⟩ dX3_readRule_51 (fun M7 h => ?_)
        refine V_aload_n hC rfl dX3_readRule_54 ?_
        refine V_iconst (v := 0) hC (by decide) dX3_readRule_55 ?_
        refine V_aload_n hC rfl dX3_readRule_56 ?_
        refine gf_3_1 hC ht tw_147 dX3_readRule_57 ?_
        refine gfN_8_0 hC (ok_3_1 ht) tw_102 dX3_readRule_60 ?_
        refine gfN_0_4 hC (ok_8_0 (ok_3_1 ht)) tw_43 dX3_readRule_63 ?_
        refine V_iconst (v := 1) hC (by decide) dX3_readRule_66 ?_
        refine V_isub hC dX3_readRule_67 ?_
        refine V_calli (As := [.int 0, .int ((M7 (t + 3) 4) - 1)]) hC (c_Gt_takeDigit X.2.1 g w fu _ t 0 ((M7 (t + 3) 4) - 1) M7 ht h) mw_X3_takeDigit (by decide) tw_378 ht (by decide) rfl rfl rfl (Nat.le_of_ble_eq_true rfl) ⟨Nat.zero_le _, Nat.zero_le _⟩ dX3_readRule_68 (fun r9 M8 h => ?_)
        refine V_istore hC (by decide) dX3_readRule_71 ?_
        refine V_iload hC rfl dX3_readRule_73 ?_
        refine V_if_ge (tgt := 80) hC dX3_readRule_75 (by decide) (fun b13 => ?_) (fun b13 => ?_)
        · replace h := h.1 b13
          refine V_iload_n hC rfl dX3_readRule_80 ?_
          refine V_iconst (v := 1) hC (by decide) dX3_readRule_81 ?_
          refine V_icmp_ne (tgt := 89) hC dX3_readRule_82 (by decide) (fun b12 => ?_) (fun b12 => ?_)
          · replace h := h.2 b12
            refine V_aload_n hC rfl dX3_readRule_89 ?_
            refine V_iconst (v := 0) hC (by decide) dX3_readRule_90 ?_
            refine V_iconst (v := 1) hC (by decide) dX3_readRule_91 ?_
            refine V_calli (As := [.int 0, .int 1]) hC (c_Gt_takeDigit X.2.1 g w fu _ t 0 1 M8 ht h) mw_X3_takeDigit (by decide) tw_378 ht (by decide) rfl rfl rfl (Nat.le_of_ble_eq_true rfl) ⟨Nat.zero_le _, Nat.zero_le _⟩ dX3_readRule_92 (fun r11 M10 h => ?_)
            refine V_sub (us := [some (ob g t), some (.int x1), some (.int r2), some (.int r4), some (.int r9), none]) ⟨rfl, rfl, rfl, rfl, rfl, trivial⟩ ?_
            exact j_Gt_readRule_95 hX hC t x1 r2 r4 r9 r11 ht h
          · replace h := h.1 b12
            refine V_iconst (v := 0) hC (by decide) dX3_readRule_85 ?_
            refine V_goto (tgt := 95) hC (by decide) dX3_readRule_86 ?_
            refine V_sub (us := [some (ob g t), some (.int x1), some (.int r2), some (.int r4), some (.int r9), none]) ⟨rfl, rfl, rfl, rfl, rfl, trivial⟩ ?_
            exact j_Gt_readRule_95 hX hC t x1 r2 r4 r9 0 ht h
        · replace h := h.2 b13
          refine V_iconst (v := 0) hC (by decide) dX3_readRule_78 ?_
          exact V_zret hC (Or.inl rfl) h dX3_readRule_79
      · replace h := h.2 b14
        refine V_iconst (v := 0) hC (by decide) dX3_readRule_48 ?_
        exact V_zret hC (Or.inl rfl) h dX3_readRule_49
  · replace h := h.2 b16
    refine V_iconst (v := 0) hC (by decide) dX3_readRule_22 ?_
    exact V_zret hC (Or.inl rfl) h dX3_readRule_23
def f_Au_setAccepting (fu : Nat) (post : Mm → Prop) (t : Nat) (x1 : Int32) (M : Mm) : Prop :=
  f_SR_put fu (fun M1 => post M1) (t + 1) x1 1 M
set_option maxRecDepth 100000 in
theorem c_Au_setAccepting (l : Launch) (g : GX) (w : WX) (fu : Nat) (post : Mm → Prop) (t : Nat) (x1 : Int32) (M : Mm) (ht : ok w t 0) (h : f_Au_setAccepting fu post t x1 M) : Met l yX0_setAccepting [Cond.code yX0_setAccepting cX0_setAccepting 2 (none)] (rmC 1 0 0) (va_Pc [ob g t, .int x1] (Wb g w M)) (va_Qv post (Wb g w) (Af g)) 0 0 (Af g) := by
  refine Ct_v (by decide) rfl (fun v hv => by simp only [List.mem_cons, List.not_mem_nil, or_false] at hv; rcases hv with rfl | rfl <;> rfl) (Nat.le_of_ble_eq_true rfl) (Nat.le_refl _) ?_
  intro X hX _ hC
  unfold f_Au_setAccepting at h
  refine V_sub (us := [some (ob g t), some (.int x1)]) ⟨rfl, rfl, trivial⟩ ?_
  refine V_aload_n hC rfl dX0_setAccepting_0 ?_
  refine gf_0_0 hC ht tw_38 dX0_setAccepting_1 ?_
  refine V_iload_n hC rfl dX0_setAccepting_4 ?_
  refine V_iconst (v := 1) hC (by decide) dX0_setAccepting_5 ?_
  refine V_scallvN (As := [ob g (t + 1), .int x1, .int 1]) hC (c_SR_put X.2.1 g w fu _ (t + 1) x1 1 M (ok_0_0 ht) h) mw_X10_put (by decide) tw_267 rfl rfl (Nat.le_of_ble_eq_true rfl) ⟨Nat.zero_le _, Nat.zero_le _⟩ dX0_setAccepting_6 (fun M1 h => ?_)
  exact V_vret hC h dX0_setAccepting_9
def f_Gt_readAccept (fu : Nat) (post : Int32 → Mm → Prop) (t : Nat) (M : Mm) : Prop :=
  f_Gt_takeDigit fu (fun r2 M1 => ((0 ≤ r2) → f_Au_setAccepting fu (fun M3 => post 1 M3) (t + 3) r2 M1) ∧ (¬ (0 ≤ r2) → post 0 M1)) t 0 ((M (t + 3) 4) - 1) M
set_option maxRecDepth 100000 in
theorem c_Gt_readAccept (l : Launch) (g : GX) (w : WX) (fu : Nat) (post : Int32 → Mm → Prop) (t : Nat) (M : Mm) (ht : ok w t 3) (h : f_Gt_readAccept fu post t M) : Met l yX3_readAccept [Cond.code yX3_readAccept cX3_readAccept 2 (some .boolean)] (rmC 3 0 0) (va_Pc [ob g t] (Wb g w M)) (va_Qi (fun r M => zb r ∧ post r M) (Wb g w) (Af g)) 0 0 (Af g) := by
  refine Ct_i (by decide) rfl (fun v hv => by simp only [List.mem_cons, List.not_mem_nil, or_false] at hv; rcases hv with rfl <;> rfl) (Nat.le_of_ble_eq_true rfl) (Nat.le_refl _) ?_
  intro X hX _ hC
  unfold f_Gt_readAccept at h
  refine V_sub (us := [some (ob g t), none]) ⟨rfl, trivial⟩ ?_
  refine V_aload_n hC rfl dX3_readAccept_0 ?_
  refine V_iconst (v := 0) hC (by decide) dX3_readAccept_1 ?_
  refine V_aload_n hC rfl dX3_readAccept_2 ?_
  refine gf_3_1 hC ht tw_147 dX3_readAccept_3 ?_
  refine gfN_8_0 hC (ok_3_1 ht) tw_102 dX3_readAccept_6 ?_
  refine gfN_0_4 hC (ok_8_0 (ok_3_1 ht)) tw_43 dX3_readAccept_9 ?_
  refine V_iconst (v := 1) hC (by decide) dX3_readAccept_12 ?_
  refine V_isub hC dX3_readAccept_13 ?_
  refine V_calli (As := [.int 0, .int ((M (t + 3) 4) - 1)]) hC (c_Gt_takeDigit X.2.1 g w fu _ t 0 ((M (t + 3) 4) - 1) M ht h) mw_X3_takeDigit (by decide) tw_378 ht (by decide) rfl rfl rfl (Nat.le_of_ble_eq_true rfl) ⟨Nat.zero_le _, Nat.zero_le _⟩ dX3_readAccept_14 (fun r2 M1 h => ?_)
  refine V_istore_n hC (by decide) dX3_readAccept_17 ?_
  refine V_iload_n hC rfl dX3_readAccept_18 ?_
  refine V_if_ge (tgt := 24) hC dX3_readAccept_19 (by decide) (fun b4 => ?_) (fun b4 => ?_)
  · replace h := h.1 b4
    refine V_aload_n hC rfl dX3_readAccept_24 ?_
    refine gf_3_1 hC ht tw_147 dX3_readAccept_25 ?_
    refine gfN_8_0 hC (ok_3_1 ht) tw_102 dX3_readAccept_28 ?_
    refine V_iload_n hC rfl dX3_readAccept_31 ?_
    refine V_callv (As := [.int r2]) hC (c_Au_setAccepting X.2.1 g w fu _ (t + 3) r2 M1 (ok_8_0 (ok_3_1 ht)) h) mw_X0_setAccepting (by decide) tw_402 (ok_8_0 (ok_3_1 ht)) (by decide) rfl rfl rfl (Nat.le_of_ble_eq_true rfl) ⟨Nat.zero_le _, Nat.zero_le _⟩ dX3_readAccept_32 (fun M3 h => ?_)
    refine V_iconst (v := 1) hC (by decide) dX3_readAccept_35 ?_
    exact V_zret hC (Or.inr rfl) h dX3_readAccept_36
  · replace h := h.2 b4
    refine V_iconst (v := 0) hC (by decide) dX3_readAccept_22 ?_
    exact V_zret hC (Or.inl rfl) h dX3_readAccept_23
def f_Gt_readStatement_87 (fu : Nat) (post : Int32 → Mm → Prop) (t : Nat) (x1 : Int32) (M : Mm) : Prop :=
  ((x1 = 0) → post 0 M) ∧ (¬ (x1 = 0) → f_Gt_takeWord fu (fun r2 M1 => ((r2 = 0) → post 0 M1) ∧ (¬ (r2 = 0) → post 1 M1)) t 1 M)
def f_Gt_readStatement (fu : Nat) (post : Int32 → Mm → Prop) (t : Nat) (M : Mm) : Prop :=
  f_Gt_takeWord fu (fun r2 M1 => ((r2 = 0) → f_Gt_takeWord fu (fun r4 M3 => ((r4 = 0) → f_Gt_takeWord fu (fun r6 M5 => ((r6 = 0) → f_Gt_takeWord fu (fun r8 M7 => ((r8 = 0) → f_Gt_takeWord fu (fun r10 M9 => ((r10 = 0) → f_Gt_readStatement_87 fu post t 0 M9) ∧ (¬ (r10 = 0) → f_Gt_readCosts fu (fun r12 M11 => f_Gt_readStatement_87 fu post t r12 M11) t M9)) t 6 M7) ∧ (¬ (r8 = 0) → f_Gt_readRule fu (fun r15 M14 => f_Gt_readStatement_87 fu post t r15 M14) t 3 M7)) t 5 M5) ∧ (¬ (r6 = 0) → f_Gt_readRule fu (fun r18 M17 => f_Gt_readStatement_87 fu post t r18 M17) t 2 M5)) t 4 M3) ∧ (¬ (r4 = 0) → f_Gt_readRule fu (fun r21 M20 => f_Gt_readStatement_87 fu post t r21 M20) t 1 M3)) t 3 M1) ∧ (¬ (r2 = 0) → f_Gt_readAccept fu (fun r24 M23 => f_Gt_readStatement_87 fu post t r24 M23) t M1)) t 2 M
set_option maxRecDepth 100000 in
theorem j_Gt_readStatement_87 {l : Launch} {X : CX} {g : GX} {w : WX} {fu : Nat} {post : Int32 → Mm → Prop} (hX : X.2.1 = l) (hC : Cx X g cX3_readStatement 2 RX3 (some .boolean) 5) (t : Nat) (x1 : Int32) {M : Mm} (ht : ok w t 3) (h : f_Gt_readStatement_87 fu post t x1 M) : V X g w 2 0 0 (QI X g w (fun r M => zb r ∧ post r M) 0 0) 87 [some (ob g t), some (.int x1)] [] M := by
  unfold f_Gt_readStatement_87 at h
  refine V_iload_n hC rfl dX3_readStatement_87 ?_
  refine V_if_eq (tgt := 104) hC dX3_readStatement_88 (by decide) (fun b4 => ?_) (fun b4 => ?_)
  · replace h := h.1 b4
    refine V_iconst (v := 0) hC (by decide) dX3_readStatement_104 ?_
    exact V_zret hC (Or.inl rfl) h dX3_readStatement_105
  · replace h := h.2 b4
    refine V_aload_n hC rfl dX3_readStatement_91 ?_
    refine V_ldcS (i := 1) hC (by decide) rfl dX3_readStatement_92 ?_
    refine V_calli (As := [.ref (g.2.2.2.2.1 1)]) hC (c_Gt_takeWord X.2.1 g w fu _ t 1 M ht (by decide) h) mw_X3_takeWord (by decide) tw_326 ht (by decide) rfl rfl rfl (Nat.le_of_ble_eq_true rfl) ⟨Nat.zero_le _, Nat.zero_le _⟩ dX3_readStatement_94 (fun r2 M1 h => ?_)
    obtain ⟨hzr2, h⟩ := h
    refine V_if_eq (tgt := 104) hC dX3_readStatement_97 (by decide) (fun b3 => ?_) (fun b3 => ?_)
    · replace h := h.1 b3
      refine V_iconst (v := 0) hC (by decide) dX3_readStatement_104 ?_
      exact V_zret hC (Or.inl rfl) h dX3_readStatement_105
    · replace h := h.2 b3
      refine V_iconst (v := 1) hC (by decide) dX3_readStatement_100 ?_
      refine V_goto (tgt := 105) hC (by decide) dX3_readStatement_101 ?_
      exact V_zret hC (Or.inr rfl) h dX3_readStatement_105
set_option maxRecDepth 100000 in
theorem c_Gt_readStatement (l : Launch) (g : GX) (w : WX) (fu : Nat) (post : Int32 → Mm → Prop) (t : Nat) (M : Mm) (ht : ok w t 3) (h : f_Gt_readStatement fu post t M) : Met l yX3_readStatement [Cond.code yX3_readStatement cX3_readStatement 2 (some .boolean)] (rmC 5 0 0) (va_Pc [ob g t] (Wb g w M)) (va_Qi (fun r M => zb r ∧ post r M) (Wb g w) (Af g)) 0 0 (Af g) := by
  refine Ct_i (by decide) rfl (fun v hv => by simp only [List.mem_cons, List.not_mem_nil, or_false] at hv; rcases hv with rfl <;> rfl) (Nat.le_of_ble_eq_true rfl) (Nat.le_refl _) ?_
  intro X hX _ hC
  unfold f_Gt_readStatement at h
  refine V_sub (us := [some (ob g t), none]) ⟨rfl, trivial⟩ ?_
  refine V_iconst (v := 0) hC (by decide) dX3_readStatement_0 ?_
  refine V_istore_n hC (by decide) dX3_readStatement_1 ?_
  refine V_aload_n hC rfl dX3_readStatement_2 ?_
  refine V_ldcS (i := 2) hC (by decide) rfl dX3_readStatement_3 ?_
  refine V_calli (As := [.ref (g.2.2.2.2.1 2)]) hC (c_Gt_takeWord X.2.1 g w fu _ t 2 M ht (by decide) h) mw_X3_takeWord (by decide) tw_326 ht (by decide) rfl rfl rfl (Nat.le_of_ble_eq_true rfl) ⟨Nat.zero_le _, Nat.zero_le _⟩ dX3_readStatement_5 (fun r2 M1 h => ?_)
  obtain ⟨hzr2, h⟩ := h
  refine V_if_eq (tgt := 19) hC dX3_readStatement_8 (by decide) (fun b25 => ?_) (fun b25 => ?_)
  · replace h := h.1 b25
    refine V_aload_n hC rfl dX3_readStatement_19 ?_
    refine V_ldcS (i := 3) hC (by decide) rfl dX3_readStatement_20 ?_
    refine V_calli (As := [.ref (g.2.2.2.2.1 3)]) hC (c_Gt_takeWord X.2.1 g w fu _ t 3 M1 ht (by decide) h) mw_X3_takeWord (by decide) tw_326 ht (by decide) rfl rfl rfl (Nat.le_of_ble_eq_true rfl) ⟨Nat.zero_le _, Nat.zero_le _⟩ dX3_readStatement_22 (fun r4 M3 h => ?_)
    obtain ⟨hzr4, h⟩ := h
    refine V_if_eq (tgt := 37) hC dX3_readStatement_25 (by decide) (fun b22 => ?_) (fun b22 => ?_)
    · replace h := h.1 b22
      refine V_aload_n hC rfl dX3_readStatement_37 ?_
      refine V_ldcS (i := 4) hC (by decide) rfl dX3_readStatement_38 ?_
      refine V_calli (As := [.ref (g.2.2.2.2.1 4)]) hC (c_Gt_takeWord X.2.1 g w fu _ t 4 M3 ht (by decide) h) mw_X3_takeWord (by decide) tw_326 ht (by decide) rfl rfl rfl (Nat.le_of_ble_eq_true rfl) ⟨Nat.zero_le _, Nat.zero_le _⟩ dX3_readStatement_40 (fun r6 M5 h => ?_)
      obtain ⟨hzr6, h⟩ := h
      refine V_if_eq (tgt := 55) hC dX3_readStatement_43 (by decide) (fun b19 => ?_) (fun b19 => ?_)
      · replace h := h.1 b19
        refine V_aload_n hC rfl dX3_readStatement_55 ?_
        refine V_ldcS (i := 5) hC (by decide) rfl dX3_readStatement_56 ?_
        refine V_calli (As := [.ref (g.2.2.2.2.1 5)]) hC (c_Gt_takeWord X.2.1 g w fu _ t 5 M5 ht (by decide) h) mw_X3_takeWord (by decide) tw_326 ht (by decide) rfl rfl rfl (Nat.le_of_ble_eq_true rfl) ⟨Nat.zero_le _, Nat.zero_le _⟩ dX3_readStatement_58 (fun r8 M7 h => ?_)
        obtain ⟨hzr8, h⟩ := h
        refine V_if_eq (tgt := 73) hC dX3_readStatement_61 (by decide) (fun b16 => ?_) (fun b16 => ?_)
        · replace h := h.1 b16
          refine V_aload_n hC rfl dX3_readStatement_73 ?_
          refine V_ldcS (i := 6) hC (by decide) rfl dX3_readStatement_74 ?_
          refine V_calli (As := [.ref (g.2.2.2.2.1 6)]) hC (c_Gt_takeWord X.2.1 g w fu _ t 6 M7 ht (by decide) h) mw_X3_takeWord (by decide) tw_326 ht (by decide) rfl rfl rfl (Nat.le_of_ble_eq_true rfl) ⟨Nat.zero_le _, Nat.zero_le _⟩ dX3_readStatement_76 (fun r10 M9 h => ?_)
          obtain ⟨hzr10, h⟩ := h
          refine V_if_eq (tgt := 87) hC dX3_readStatement_79 (by decide) (fun b13 => ?_) (fun b13 => ?_)
          · replace h := h.1 b13
            refine V_sub (us := [some (ob g t), some (.int 0)]) ⟨rfl, rfl, trivial⟩ ?_
            exact j_Gt_readStatement_87 hX hC t 0 ht h
          · replace h := h.2 b13
            refine V_aload_n hC rfl dX3_readStatement_82 ?_
            refine V_calli (As := []) hC (c_Gt_readCosts X.2.1 g w fu _ t M9 ht h) mw_X3_readCosts (by decide) tw_427 ht (by decide) rfl rfl rfl (Nat.le_of_ble_eq_true rfl) ⟨Nat.zero_le _, Nat.zero_le _⟩ dX3_readStatement_83 (fun r12 M11 h => ?_)
            obtain ⟨hzr12, h⟩ := h
            refine V_istore_n hC (by decide) dX3_readStatement_86 ?_
            refine V_sub (us := [some (ob g t), some (.int r12)]) ⟨rfl, rfl, trivial⟩ ?_
            exact j_Gt_readStatement_87 hX hC t r12 ht h
        · replace h := h.2 b16
          refine V_aload_n hC rfl dX3_readStatement_64 ?_
          refine V_iconst (v := 3) hC (by decide) dX3_readStatement_65 ?_
          refine V_calli (As := [.int 3]) hC (c_Gt_readRule X.2.1 g w fu _ t 3 M7 ht h) mw_X3_readRule (by decide) tw_404 ht (by decide) rfl rfl rfl (Nat.le_of_ble_eq_true rfl) ⟨Nat.zero_le _, Nat.zero_le _⟩ dX3_readStatement_66 (fun r15 M14 h => ?_)
          obtain ⟨hzr15, h⟩ := h
          refine V_istore_n hC (by decide) dX3_readStatement_69 ?_
          refine V_goto (tgt := 87) hC (by decide) dX3_readStatement_70 ?_
          refine V_sub (us := [some (ob g t), some (.int r15)]) ⟨rfl, rfl, trivial⟩ ?_
          exact j_Gt_readStatement_87 hX hC t r15 ht h
      · replace h := h.2 b19
        refine V_aload_n hC rfl dX3_readStatement_46 ?_
        refine V_iconst (v := 2) hC (by decide) dX3_readStatement_47 ?_
        refine V_calli (As := [.int 2]) hC (c_Gt_readRule X.2.1 g w fu _ t 2 M5 ht h) mw_X3_readRule (by decide) tw_404 ht (by decide) rfl rfl rfl (Nat.le_of_ble_eq_true rfl) ⟨Nat.zero_le _, Nat.zero_le _⟩ dX3_readStatement_48 (fun r18 M17 h => ?_)
        obtain ⟨hzr18, h⟩ := h
        refine V_istore_n hC (by decide) dX3_readStatement_51 ?_
        refine V_goto (tgt := 87) hC (by decide) dX3_readStatement_52 ?_
        refine V_sub (us := [some (ob g t), some (.int r18)]) ⟨rfl, rfl, trivial⟩ ?_
        exact j_Gt_readStatement_87 hX hC t r18 ht h
    · replace h := h.2 b22
      refine V_aload_n hC rfl dX3_readStatement_28 ?_
      refine V_iconst (v := 1) hC (by decide) dX3_readStatement_29 ?_
      refine V_calli (As := [.int 1]) hC (c_Gt_readRule X.2.1 g w fu _ t 1 M3 ht h) mw_X3_readRule (by decide) tw_404 ht (by decide) rfl rfl rfl (Nat.le_of_ble_eq_true rfl) ⟨Nat.zero_le _, Nat.zero_le _⟩ dX3_readStatement_30 (fun r21 M20 h => ?_)
      obtain ⟨hzr21, h⟩ := h
      refine V_istore_n hC (by decide) dX3_readStatement_33 ?_
      refine V_goto (tgt := 87) hC (by decide) dX3_readStatement_34 ?_
      refine V_sub (us := [some (ob g t), some (.int r21)]) ⟨rfl, rfl, trivial⟩ ?_
      exact j_Gt_readStatement_87 hX hC t r21 ht h
  · replace h := h.2 b25
    refine V_aload_n hC rfl dX3_readStatement_11 ?_
    refine V_calli (As := []) hC (c_Gt_readAccept X.2.1 g w fu _ t M1 ht h) mw_X3_readAccept (by decide) tw_398 ht (by decide) rfl rfl rfl (Nat.le_of_ble_eq_true rfl) ⟨Nat.zero_le _, Nat.zero_le _⟩ dX3_readStatement_12 (fun r24 M23 h => ?_)
    obtain ⟨hzr24, h⟩ := h
    refine V_istore_n hC (by decide) dX3_readStatement_15 ?_
    refine V_goto (tgt := 87) hC (by decide) dX3_readStatement_16 ?_
    refine V_sub (us := [some (ob g t), some (.int r24)]) ⟨rfl, rfl, trivial⟩ ?_
    exact j_Gt_readStatement_87 hX hC t r24 ht h
def f_SR_fill_2 (fu : Nat) (post : Mm → Prop) : Nat → Nat → Int32 → Int32 → Mm → Prop
  | 0, _, _, _, _ => False
  | kf + 1, a0, x1, x2, M =>
    (((nI (ln a0)) ≤ x2) → post M) ∧ (¬ ((nI (ln a0)) ≤ x2) → vp_in x2 (ln a0) ∧ (∀ M2, M2 = up M a0 x2.toNatClampNeg x1 → ∀ y3, y3 = x2 + 1 → f_SR_fill_2 fu post kf a0 x1 y3 M2))
def f_SR_fill (fu : Nat) (post : Mm → Prop) (a0 : Nat) (x1 : Int32) (M : Mm) : Prop :=
  f_SR_fill_2 fu post fu a0 x1 0 M
set_option maxRecDepth 100000 in
theorem l_SR_fill_2 {l : Launch} {X : CX} {g : GX} {w : WX} {fu : Nat} {post : Mm → Prop} (hX : X.2.1 = l) (hC : Cx X g cX10_fill 3 RX10 (none) 0) : ∀ (kf : Nat) (a0 : Nat) (x1 : Int32) (x2 : Int32) (M : Mm) (ha0 : ok w a0 20) (h : f_SR_fill_2 fu post kf a0 x1 x2 M), V X g w 3 0 0 (QV X g w post 0 0) 2 [some (ob g a0), some (.int x1), some (.int x2)] [] M := by
  intro kf
  induction kf with
  | zero => intro a0 x1 x2 M ha0 h; exact absurd h id
  | succ kf ih =>
    intro a0 x1 x2 M ha0 h
    rw [f_SR_fill_2] at h
    refine V_iload_n hC rfl dX10_fill_2 ?_
    refine V_aload_n hC rfl dX10_fill_3 ?_
    refine V_alen hC ha0 rfl dX10_fill_4 ?_
    refine V_icmp_ge (tgt := 18) hC dX10_fill_5 (by decide) (fun b4 => ?_) (fun b4 => ?_)
    · replace h := h.1 b4
      exact V_vret hC h dX10_fill_18
    · replace h := h.2 b4
      refine V_aload_n hC rfl dX10_fill_8 ?_
      refine V_iload_n hC rfl dX10_fill_9 ?_
      refine V_iload_n hC rfl dX10_fill_10 ?_
      obtain ⟨q1, h⟩ := h
      refine V_iast hC ha0 q1 dX10_fill_11 ?_
      obtain ⟨M2, eM2⟩ : ∃ z, z = up M a0 x2.toNatClampNeg x1 := ⟨_, rfl⟩
      replace h := h M2 eM2
      refine V_mem eM2 ?_
      obtain ⟨y3, ey3⟩ : ∃ z, z = x2 + 1 := ⟨_, rfl⟩
      replace h := h y3 ey3
      refine V_iinc (v := y3) hC rfl (by rw [ey3]; rfl) (by decide) dX10_fill_12 ?_
      refine V_goto (tgt := 2) hC (by decide) dX10_fill_15 ?_
      refine V_sub (us := [some (ob g a0), some (.int x1), some (.int y3)]) ⟨rfl, rfl, rfl, trivial⟩ ?_
      exact ih a0 x1 y3 M2 ha0 h
set_option maxRecDepth 100000 in
theorem c_SR_fill (l : Launch) (g : GX) (w : WX) (fu : Nat) (post : Mm → Prop) (a0 : Nat) (x1 : Int32) (M : Mm) (ha0 : ok w a0 20) (h : f_SR_fill fu post a0 x1 M) : Met l yX10_fill [Cond.code yX10_fill cX10_fill 3 (none)] (rmC 0 0 0) (va_Pc [ob g a0, .int x1] (Wb g w M)) (va_Qv post (Wb g w) (Af g)) 0 0 (Af g) := by
  refine Ct_v (by decide) rfl (fun v hv => by simp only [List.mem_cons, List.not_mem_nil, or_false] at hv; rcases hv with rfl | rfl <;> rfl) (Nat.le_of_ble_eq_true rfl) (Nat.le_refl _) ?_
  intro X hX _ hC
  unfold f_SR_fill at h
  refine V_sub (us := [some (ob g a0), some (.int x1), none]) ⟨rfl, rfl, trivial⟩ ?_
  refine V_iconst (v := 0) hC (by decide) dX10_fill_0 ?_
  refine V_istore_n hC (by decide) dX10_fill_1 ?_
  refine V_sub (us := [some (ob g a0), some (.int x1), some (.int 0)]) ⟨rfl, rfl, rfl, trivial⟩ ?_
  exact l_SR_fill_2 hX hC fu a0 x1 0 M ha0 h
def f_Au_clear (fu : Nat) (post : Mm → Prop) (t : Nat) (x1 : Int32) (M : Mm) : Prop :=
  ∀ M1, M1 = up M t 4 x1 → f_SR_fill fu (fun M2 => f_SR_fill fu (fun M3 => post M3) (t + 2) 0 M2) (t + 1) 0 M1
set_option maxRecDepth 100000 in
theorem c_Au_clear (l : Launch) (g : GX) (w : WX) (fu : Nat) (post : Mm → Prop) (t : Nat) (x1 : Int32) (M : Mm) (ht : ok w t 0) (h : f_Au_clear fu post t x1 M) : Met l yX0_clear [Cond.code yX0_clear cX0_clear 2 (none)] (rmC 1 0 0) (va_Pc [ob g t, .int x1] (Wb g w M)) (va_Qv post (Wb g w) (Af g)) 0 0 (Af g) := by
  refine Ct_v (by decide) rfl (fun v hv => by simp only [List.mem_cons, List.not_mem_nil, or_false] at hv; rcases hv with rfl | rfl <;> rfl) (Nat.le_of_ble_eq_true rfl) (Nat.le_refl _) ?_
  intro X hX _ hC
  unfold f_Au_clear at h
  refine V_sub (us := [some (ob g t), some (.int x1)]) ⟨rfl, rfl, trivial⟩ ?_
  refine V_aload_n hC rfl dX0_clear_0 ?_
  refine V_iload_n hC rfl dX0_clear_1 ?_
  refine pf_0_4 hC ht tw_42 dX0_clear_2 ?_
  obtain ⟨M1, eM1⟩ : ∃ z, z = up M t 4 x1 := ⟨_, rfl⟩
  replace h := h M1 eM1
  refine V_mem eM1 ?_
  refine V_aload_n hC rfl dX0_clear_5 ?_
  refine gf_0_0 hC ht tw_38 dX0_clear_6 ?_
  refine V_iconst (v := 0) hC (by decide) dX0_clear_9 ?_
  refine V_scallvN (As := [ob g (t + 1), .int 0]) hC (c_SR_fill X.2.1 g w fu _ (t + 1) 0 M1 (ok_0_0 ht) h) mw_X10_fill (by decide) tw_390 rfl rfl (Nat.le_of_ble_eq_true rfl) ⟨Nat.zero_le _, Nat.zero_le _⟩ dX0_clear_10 (fun M2 h => ?_)
  refine V_aload_n hC rfl dX0_clear_13 ?_
  refine gf_0_1 hC ht tw_39 dX0_clear_14 ?_
  refine V_iconst (v := 0) hC (by decide) dX0_clear_17 ?_
  refine V_scallvN (As := [ob g (t + 2), .int 0]) hC (c_SR_fill X.2.1 g w fu _ (t + 2) 0 M2 (ok_0_1 ht) h) mw_X10_fill (by decide) tw_390 rfl rfl (Nat.le_of_ble_eq_true rfl) ⟨Nat.zero_le _, Nat.zero_le _⟩ dX0_clear_18 (fun M3 h => ?_)
  exact V_vret hC h dX0_clear_21
def f_Co_setAllToOne_10 (fu : Nat) (post : Mm → Prop) : Nat → Nat → Int32 → Mm → Prop
  | 0, _, _, _ => False
  | kf + 1, t, x1, M =>
    ((6 ≤ x1) → post M) ∧ (¬ (6 ≤ x1) → f_Co_change fu (fun M1 => ∀ y2, y2 = x1 + 1 → f_Co_setAllToOne_10 fu post kf t y2 M1) t 0 x1 0 M)
def f_Co_setAllToOne (fu : Nat) (post : Mm → Prop) (t : Nat) (M : Mm) : Prop :=
  f_SR_fill fu (fun M1 => f_Co_setAllToOne_10 fu post fu t 0 M1) (t + 1) 1 M
set_option maxRecDepth 100000 in
theorem l_Co_setAllToOne_10 {l : Launch} {X : CX} {g : GX} {w : WX} {fu : Nat} {post : Mm → Prop} (hX : X.2.1 = l) (hC : Cx X g cX1_setAllToOne 2 RX1 (none) 2) : ∀ (kf : Nat) (t : Nat) (x1 : Int32) (M : Mm) (ht : ok w t 1) (h : f_Co_setAllToOne_10 fu post kf t x1 M), V X g w 2 0 0 (QV X g w post 0 0) 10 [some (ob g t), some (.int x1)] [] M := by
  intro kf
  induction kf with
  | zero => intro t x1 M ht h; exact absurd h id
  | succ kf ih =>
    intro t x1 M ht h
    rw [f_Co_setAllToOne_10] at h
    refine V_iload_n hC rfl dX1_setAllToOne_10 ?_
    refine V_bipush (v := 6) hC (by decide) dX1_setAllToOne_11 ?_
    refine V_icmp_ge (tgt := 29) hC dX1_setAllToOne_13 (by decide) (fun b3 => ?_) (fun b3 => ?_)
    · replace h := h.1 b3
      exact V_vret hC h dX1_setAllToOne_29
    · replace h := h.2 b3
      refine V_aload_n hC rfl dX1_setAllToOne_16 ?_
      refine V_iconst (v := 0) hC (by decide) dX1_setAllToOne_17 ?_
      refine V_iload_n hC rfl dX1_setAllToOne_18 ?_
      refine V_iconst (v := 0) hC (by decide) dX1_setAllToOne_19 ?_
      refine V_callv (As := [.int 0, .int x1, .int 0]) hC (c_Co_change X.2.1 g w fu _ t 0 x1 0 M ht h) mw_X1_change (by decide) tw_70 ht (by decide) rfl rfl rfl (Nat.le_of_ble_eq_true rfl) ⟨Nat.zero_le _, Nat.zero_le _⟩ dX1_setAllToOne_20 (fun M1 h => ?_)
      obtain ⟨y2, ey2⟩ : ∃ z, z = x1 + 1 := ⟨_, rfl⟩
      replace h := h y2 ey2
      refine V_iinc (v := y2) hC rfl (by rw [ey2]; rfl) (by decide) dX1_setAllToOne_23 ?_
      refine V_goto (tgt := 10) hC (by decide) dX1_setAllToOne_26 ?_
      refine V_sub (us := [some (ob g t), some (.int y2)]) ⟨rfl, rfl, trivial⟩ ?_
      exact ih t y2 M1 ht h
set_option maxRecDepth 100000 in
theorem c_Co_setAllToOne (l : Launch) (g : GX) (w : WX) (fu : Nat) (post : Mm → Prop) (t : Nat) (M : Mm) (ht : ok w t 1) (h : f_Co_setAllToOne fu post t M) : Met l yX1_setAllToOne [Cond.code yX1_setAllToOne cX1_setAllToOne 2 (none)] (rmC 2 0 0) (va_Pc [ob g t] (Wb g w M)) (va_Qv post (Wb g w) (Af g)) 0 0 (Af g) := by
  refine Ct_v (by decide) rfl (fun v hv => by simp only [List.mem_cons, List.not_mem_nil, or_false] at hv; rcases hv with rfl <;> rfl) (Nat.le_of_ble_eq_true rfl) (Nat.le_refl _) ?_
  intro X hX _ hC
  unfold f_Co_setAllToOne at h
  refine V_sub (us := [some (ob g t), none]) ⟨rfl, trivial⟩ ?_
  refine V_aload_n hC rfl dX1_setAllToOne_0 ?_
  refine gf_1_0 hC ht tw_77 dX1_setAllToOne_1 ?_
  refine V_iconst (v := 1) hC (by decide) dX1_setAllToOne_4 ?_
  refine V_scallvN (As := [ob g (t + 1), .int 1]) hC (c_SR_fill X.2.1 g w fu _ (t + 1) 1 M (ok_1_0 ht) h) mw_X10_fill (by decide) tw_67 rfl rfl (Nat.le_of_ble_eq_true rfl) ⟨Nat.zero_le _, Nat.zero_le _⟩ dX1_setAllToOne_5 (fun M1 h => ?_)
  refine V_iconst (v := 0) hC (by decide) dX1_setAllToOne_8 ?_
  refine V_istore_n hC (by decide) dX1_setAllToOne_9 ?_
  refine V_sub (us := [some (ob g t), some (.int 0)]) ⟨rfl, rfl, trivial⟩ ?_
  exact l_Co_setAllToOne_10 hX hC fu t 0 M1 ht h
def f_Si_clear (fu : Nat) (post : Mm → Prop) (t : Nat) (x1 : Int32) (M : Mm) : Prop :=
  f_Au_clear fu (fun M1 => f_Co_setAllToOne fu (fun M2 => ∀ M3, M3 = up M2 (t + 8) 1 0 → post M3) (t + 6) M1) (t + 1) x1 M
set_option maxRecDepth 100000 in
theorem c_Si_clear (l : Launch) (g : GX) (w : WX) (fu : Nat) (post : Mm → Prop) (t : Nat) (x1 : Int32) (M : Mm) (ht : ok w t 8) (h : f_Si_clear fu post t x1 M) : Met l yX8_clear [Cond.code yX8_clear cX8_clear 2 (none)] (rmC 3 0 0) (va_Pc [ob g t, .int x1] (Wb g w M)) (va_Qv post (Wb g w) (Af g)) 0 0 (Af g) := by
  refine Ct_v (by decide) rfl (fun v hv => by simp only [List.mem_cons, List.not_mem_nil, or_false] at hv; rcases hv with rfl | rfl <;> rfl) (Nat.le_of_ble_eq_true rfl) (Nat.le_refl _) ?_
  intro X hX _ hC
  unfold f_Si_clear at h
  refine V_sub (us := [some (ob g t), some (.int x1)]) ⟨rfl, rfl, trivial⟩ ?_
  refine V_aload_n hC rfl dX8_clear_0 ?_
  refine gf_8_0 hC ht tw_98 dX8_clear_1 ?_
  refine V_iload_n hC rfl dX8_clear_4 ?_
  refine V_callv (As := [.int x1]) hC (c_Au_clear X.2.1 g w fu _ (t + 1) x1 M (ok_8_0 ht) h) mw_X0_clear (by decide) tw_386 (ok_8_0 ht) (by decide) rfl rfl rfl (Nat.le_of_ble_eq_true rfl) ⟨Nat.zero_le _, Nat.zero_le _⟩ dX8_clear_5 (fun M1 h => ?_)
  refine V_aload_n hC rfl dX8_clear_8 ?_
  refine gf_8_1 hC ht tw_103 dX8_clear_9 ?_
  refine V_callv (As := []) hC (c_Co_setAllToOne X.2.1 g w fu _ (t + 6) M1 (ok_8_1 ht) h) mw_X1_setAllToOne (by decide) tw_391 (ok_8_1 ht) (by decide) rfl rfl rfl (Nat.le_of_ble_eq_true rfl) ⟨Nat.zero_le _, Nat.zero_le _⟩ dX8_clear_12 (fun M2 h => ?_)
  refine V_aload_n hC rfl dX8_clear_15 ?_
  refine gf_8_2 hC ht tw_107 dX8_clear_16 ?_
  refine V_iconst (v := 0) hC (by decide) dX8_clear_19 ?_
  refine pfN_9_1 hC (ok_8_2 ht) tw_89 dX8_clear_20 ?_
  obtain ⟨M3, eM3⟩ : ∃ z, z = up M2 (t + 8) 1 0 := ⟨_, rfl⟩
  replace h := h M3 eM3
  refine V_mem eM3 ?_
  exact V_vret hC h dX8_clear_23
def f_Gt_readStates (fu : Nat) (post : Int32 → Mm → Prop) (t : Nat) (M : Mm) : Prop :=
  f_Gt_takeWord fu (fun r2 M1 => ((r2 = 0) → post 0 M1) ∧ (¬ (r2 = 0) → f_Gt_takeDigit fu (fun r4 M3 => ((0 ≤ r4) → f_Si_clear fu (fun M5 => f_Gt_takeWord fu (fun r7 M6 => post r7 M6) t 1 M5) (t + 2) r4 M3) ∧ (¬ (0 ≤ r4) → post 0 M3)) t 1 6 M1)) t 0 M
set_option maxRecDepth 100000 in
theorem c_Gt_readStates (l : Launch) (g : GX) (w : WX) (fu : Nat) (post : Int32 → Mm → Prop) (t : Nat) (M : Mm) (ht : ok w t 3) (h : f_Gt_readStates fu post t M) : Met l yX3_readStates [Cond.code yX3_readStates cX3_readStates 2 (some .boolean)] (rmC 5 0 0) (va_Pc [ob g t] (Wb g w M)) (va_Qi (fun r M => zb r ∧ post r M) (Wb g w) (Af g)) 0 0 (Af g) := by
  refine Ct_i (by decide) rfl (fun v hv => by simp only [List.mem_cons, List.not_mem_nil, or_false] at hv; rcases hv with rfl <;> rfl) (Nat.le_of_ble_eq_true rfl) (Nat.le_refl _) ?_
  intro X hX _ hC
  unfold f_Gt_readStates at h
  refine V_sub (us := [some (ob g t), none]) ⟨rfl, trivial⟩ ?_
  refine V_aload_n hC rfl dX3_readStates_0 ?_
  refine V_ldcS (i := 0) hC (by decide) rfl dX3_readStates_1 ?_
  refine V_calli (As := [.ref (g.2.2.2.2.1 0)]) hC (c_Gt_takeWord X.2.1 g w fu _ t 0 M ht (by decide) h) mw_X3_takeWord (by decide) tw_326 ht (by decide) rfl rfl rfl (Nat.le_of_ble_eq_true rfl) ⟨Nat.zero_le _, Nat.zero_le _⟩ dX3_readStates_3 (fun r2 M1 h => ?_)
  obtain ⟨hzr2, h⟩ := h
  refine V_if_ne (tgt := 11) hC dX3_readStates_6 (by decide) (fun b9 => ?_) (fun b9 => ?_)
  · replace h := h.2 b9
    refine V_aload_n hC rfl dX3_readStates_11 ?_
    refine V_iconst (v := 1) hC (by decide) dX3_readStates_12 ?_
    refine V_bipush (v := 6) hC (by decide) dX3_readStates_13 ?_
    refine V_calli (As := [.int 1, .int 6]) hC (c_Gt_takeDigit X.2.1 g w fu _ t 1 6 M1 ht h) mw_X3_takeDigit (by decide) tw_378 ht (by decide) rfl rfl rfl (Nat.le_of_ble_eq_true rfl) ⟨Nat.zero_le _, Nat.zero_le _⟩ dX3_readStates_15 (fun r4 M3 h => ?_)
    refine V_istore_n hC (by decide) dX3_readStates_18 ?_
    refine V_iload_n hC rfl dX3_readStates_19 ?_
    refine V_if_ge (tgt := 25) hC dX3_readStates_20 (by decide) (fun b8 => ?_) (fun b8 => ?_)
    · replace h := h.1 b8
      refine V_aload_n hC rfl dX3_readStates_25 ?_
      refine gf_3_1 hC ht tw_147 dX3_readStates_26 ?_
      refine V_iload_n hC rfl dX3_readStates_29 ?_
      refine V_callv (As := [.int r4]) hC (c_Si_clear X.2.1 g w fu _ (t + 2) r4 M3 (ok_3_1 ht) h) mw_X8_clear (by decide) tw_382 (ok_3_1 ht) (by decide) rfl rfl rfl (Nat.le_of_ble_eq_true rfl) ⟨Nat.zero_le _, Nat.zero_le _⟩ dX3_readStates_30 (fun M5 h => ?_)
      refine V_aload_n hC rfl dX3_readStates_33 ?_
      refine V_ldcS (i := 1) hC (by decide) rfl dX3_readStates_34 ?_
      refine V_calli (As := [.ref (g.2.2.2.2.1 1)]) hC (c_Gt_takeWord X.2.1 g w fu _ t 1 M5 ht (by decide) h) mw_X3_takeWord (by decide) tw_326 ht (by decide) rfl rfl rfl (Nat.le_of_ble_eq_true rfl) ⟨Nat.zero_le _, Nat.zero_le _⟩ dX3_readStates_36 (fun r7 M6 h => ?_)
      obtain ⟨hzr7, h⟩ := h
      exact V_zret hC hzr7 h dX3_readStates_39
    · replace h := h.2 b8
      refine V_iconst (v := 0) hC (by decide) dX3_readStates_23 ?_
      exact V_zret hC (Or.inl rfl) h dX3_readStates_24
  · replace h := h.1 b9
    refine V_iconst (v := 0) hC (by decide) dX3_readStates_9 ?_
    exact V_zret hC (Or.inl rfl) h dX3_readStates_10
def f_Gt_read_26 (fu : Nat) (post : Int32 → Mm → Prop) : Nat → Nat → Int32 → Mm → Prop
  | 0, _, _, _ => False
  | kf + 1, t, x1, M =>
    (((M t 2) ≤ (M t 3)) → post x1 M) ∧ (¬ ((M t 2) ≤ (M t 3)) → ((150 ≤ x1) → post x1 M) ∧ (¬ (150 ≤ x1) → f_Gt_readStatement fu (fun r2 M1 => ((r2 = 0) → post ((-10) - (M1 t 3)) M1) ∧ (¬ (r2 = 0) → ∀ y3, y3 = x1 + 1 → f_Gt_read_26 fu post kf t y3 M1)) t M))
def f_Gt_read (fu : Nat) (post : Int32 → Mm → Prop) (t : Nat) (M : Mm) : Prop :=
  ∀ M1, M1 = up M t 4 0 → f_Gt_nextLexeme fu (fun M2 => f_Gt_readStates fu (fun r4 M3 => ((r4 = 0) → post ((-10) - (M3 t 3)) M3) ∧ (¬ (r4 = 0) → f_Gt_read_26 fu post fu t 1 M3)) t M2) t M1
set_option maxRecDepth 100000 in
theorem l_Gt_read_26 {l : Launch} {X : CX} {g : GX} {w : WX} {fu : Nat} {post : Int32 → Mm → Prop} (hX : X.2.1 = l) (hC : Cx X g cX3_read 2 RX3 (some .int) 6) : ∀ (kf : Nat) (t : Nat) (x1 : Int32) (M : Mm) (ht : ok w t 3) (h : f_Gt_read_26 fu post kf t x1 M), V X g w 2 0 0 (QI X g w post 0 0) 26 [some (ob g t), some (.int x1)] [] M := by
  intro kf
  induction kf with
  | zero => intro t x1 M ht h; exact absurd h id
  | succ kf ih =>
    intro t x1 M ht h
    rw [f_Gt_read_26] at h
    refine V_aload_n hC rfl dX3_read_26 ?_
    refine gf_3_3 hC ht tw_151 dX3_read_27 ?_
    refine V_aload_n hC rfl dX3_read_30 ?_
    refine gf_3_2 hC ht tw_149 dX3_read_31 ?_
    refine V_icmp_ge (tgt := 65) hC dX3_read_34 (by decide) (fun b6 => ?_) (fun b6 => ?_)
    · replace h := h.1 b6
      refine V_iload_n hC rfl dX3_read_65 ?_
      exact V_iret hC h dX3_read_66
    · replace h := h.2 b6
      refine V_iload_n hC rfl dX3_read_37 ?_
      refine V_sipush (v := 150) hC (by decide) dX3_read_38 ?_
      refine V_icmp_ge (tgt := 65) hC dX3_read_41 (by decide) (fun b5 => ?_) (fun b5 => ?_)
      · replace h := h.1 b5
        refine V_iload_n hC rfl dX3_read_65 ?_
        exact V_iret hC h dX3_read_66
      · replace h := h.2 b5
        refine V_aload_n hC rfl dX3_read_44 ?_
        refine V_calli (As := []) hC (c_Gt_readStatement X.2.1 g w fu _ t M ht h) mw_X3_readStatement (by decide) tw_393 ht (by decide) rfl rfl rfl (Nat.le_of_ble_eq_true rfl) ⟨Nat.zero_le _, Nat.zero_le _⟩ dX3_read_45 (fun r2 M1 h => ?_)
        obtain ⟨hzr2, h⟩ := h
        refine V_if_ne (tgt := 59) hC dX3_read_48 (by decide) (fun b4 => ?_) (fun b4 => ?_)
        · replace h := h.2 b4
          obtain ⟨y3, ey3⟩ : ∃ z, z = x1 + 1 := ⟨_, rfl⟩
          replace h := h y3 ey3
          refine V_iinc (v := y3) hC rfl (by rw [ey3]; rfl) (by decide) dX3_read_59 ?_
          refine V_goto (tgt := 26) hC (by decide) dX3_read_62 ?_
          refine V_sub (us := [some (ob g t), some (.int y3)]) ⟨rfl, rfl, trivial⟩ ?_
          exact ih t y3 M1 ht h
        · replace h := h.1 b4
          refine V_bipush (v := (-10)) hC (by decide) dX3_read_51 ?_
          refine V_aload_n hC rfl dX3_read_53 ?_
          refine gf_3_3 hC ht tw_151 dX3_read_54 ?_
          refine V_isub hC dX3_read_57 ?_
          exact V_iret hC h dX3_read_58
set_option maxRecDepth 100000 in
theorem c_Gt_read (l : Launch) (g : GX) (w : WX) (fu : Nat) (post : Int32 → Mm → Prop) (t : Nat) (M : Mm) (ht : ok w t 3) (h : f_Gt_read fu post t M) : Met l yX3_read [Cond.code yX3_read cX3_read 2 (some .int)] (rmC 6 0 0) (va_Pc [ob g t] (Wb g w M)) (va_Qi post (Wb g w) (Af g)) 0 0 (Af g) := by
  refine Ct_i (by decide) rfl (fun v hv => by simp only [List.mem_cons, List.not_mem_nil, or_false] at hv; rcases hv with rfl <;> rfl) (Nat.le_of_ble_eq_true rfl) (Nat.le_refl _) ?_
  intro X hX _ hC
  unfold f_Gt_read at h
  refine V_sub (us := [some (ob g t), none]) ⟨rfl, trivial⟩ ?_
  refine V_aload_n hC rfl dX3_read_0 ?_
  refine V_iconst (v := 0) hC (by decide) dX3_read_1 ?_
  refine pf_3_4 hC ht tw_152 dX3_read_2 ?_
  obtain ⟨M1, eM1⟩ : ∃ z, z = up M t 4 0 := ⟨_, rfl⟩
  replace h := h M1 eM1
  refine V_mem eM1 ?_
  refine V_aload_n hC rfl dX3_read_5 ?_
  refine V_callv (As := []) hC (c_Gt_nextLexeme X.2.1 g w fu _ t M1 ht h) mw_X3_nextLexeme (by decide) tw_311 ht (by decide) rfl rfl rfl (Nat.le_of_ble_eq_true rfl) ⟨Nat.zero_le _, Nat.zero_le _⟩ dX3_read_6 (fun M2 h => ?_)
  refine V_aload_n hC rfl dX3_read_9 ?_
  refine V_calli (As := []) hC (c_Gt_readStates X.2.1 g w fu _ t M2 ht h) mw_X3_readStates (by decide) tw_321 ht (by decide) rfl rfl rfl (Nat.le_of_ble_eq_true rfl) ⟨Nat.zero_le _, Nat.zero_le _⟩ dX3_read_10 (fun r4 M3 h => ?_)
  obtain ⟨hzr4, h⟩ := h
  refine V_if_ne (tgt := 24) hC dX3_read_13 (by decide) (fun b5 => ?_) (fun b5 => ?_)
  · replace h := h.2 b5
    refine V_iconst (v := 1) hC (by decide) dX3_read_24 ?_
    refine V_istore_n hC (by decide) dX3_read_25 ?_
    refine V_sub (us := [some (ob g t), some (.int 1)]) ⟨rfl, rfl, trivial⟩ ?_
    exact l_Gt_read_26 hX hC fu t 1 M3 ht h
  · replace h := h.1 b5
    refine V_bipush (v := (-10)) hC (by decide) dX3_read_16 ?_
    refine V_aload_n hC rfl dX3_read_18 ?_
    refine gf_3_3 hC ht tw_151 dX3_read_19 ?_
    refine V_isub hC dX3_read_22 ?_
    exact V_iret hC h dX3_read_23
def f_Hi_slotAt (fu : Nat) (post : Option Nat → Mm → Prop) (t : Nat) (x1 : Int32) (M : Mm) : Prop :=
  ((x1 < 0) → post none M) ∧ (¬ (x1 < 0) → (((nI (ln (t + 1))) ≤ x1) → post none M) ∧ (¬ ((nI (ln (t + 1))) ≤ x1) → vp_in x1 (ln (t + 1)) ∧ post (some ((t + 1) + 1 + 10 * x1.toNatClampNeg)) M))
set_option maxRecDepth 100000 in
theorem c_Hi_slotAt (l : Launch) (g : GX) (w : WX) (fu : Nat) (post : Option Nat → Mm → Prop) (t : Nat) (x1 : Int32) (M : Mm) (ht : ok w t 4) (h : f_Hi_slotAt fu post t x1 M) : Met l yX4_slotAt [Cond.code yX4_slotAt cX4_slotAt 2 (some (.object "SyntaxRepair$Situation"))] (rmC 0 0 0) (va_Pc [ob g t, .int x1] (Wb g w M)) (va_Qq (fun r M => ∃ q : Option Nat, r = q.map (fun c => g.1 + c) ∧ (oko w q ∧ post q M)) (Wb g w) (Af g)) 0 0 (Af g) := by
  refine Ct_o (by decide) rfl (fun v hv => by simp only [List.mem_cons, List.not_mem_nil, or_false] at hv; rcases hv with rfl | rfl <;> rfl) (Nat.le_of_ble_eq_true rfl) (Nat.le_refl _) ?_
  intro X hX _ hC
  unfold f_Hi_slotAt at h
  refine V_sub (us := [some (ob g t), some (.int x1)]) ⟨rfl, rfl, trivial⟩ ?_
  refine V_iload_n hC rfl dX4_slotAt_0 ?_
  refine V_if_lt (tgt := 22) hC dX4_slotAt_1 (by decide) (fun b3 => ?_) (fun b3 => ?_)
  · replace h := h.1 b3
    refine V_null hC dX4_slotAt_22 ?_
    exact V_oret hC none rfl ⟨fun c hc => (by cases hc), h⟩ dX4_slotAt_23
  · replace h := h.2 b3
    refine V_iload_n hC rfl dX4_slotAt_4 ?_
    refine V_aload_n hC rfl dX4_slotAt_5 ?_
    refine gf_4_0 hC ht tw_127 dX4_slotAt_6 ?_
    refine V_qlen hC (ok_4_0 ht) rfl dX4_slotAt_9 ?_
    refine V_icmp_ge (tgt := 22) hC dX4_slotAt_10 (by decide) (fun b2 => ?_) (fun b2 => ?_)
    · replace h := h.1 b2
      refine V_null hC dX4_slotAt_22 ?_
      exact V_oret hC none rfl ⟨fun c hc => (by cases hc), h⟩ dX4_slotAt_23
    · replace h := h.2 b2
      refine V_aload_n hC rfl dX4_slotAt_13 ?_
      refine gf_4_0 hC ht tw_127 dX4_slotAt_14 ?_
      refine V_iload_n hC rfl dX4_slotAt_17 ?_
      obtain ⟨q1, h⟩ := h
      refine V_aald hC (ok_4_0 ht) q1 dX4_slotAt_18 ?_
      refine V_goto (tgt := 23) hC (by decide) dX4_slotAt_19 ?_
      exact V_oret hC (some ((t + 1) + 1 + 10 * x1.toNatClampNeg)) rfl ⟨fun c hc => by cases hc; exact (ok_ring0 ht q1), h⟩ dX4_slotAt_23
def f_SR_copy_2 (fu : Nat) (post : Mm → Prop) : Nat → Nat → Nat → Int32 → Mm → Prop
  | 0, _, _, _, _ => False
  | kf + 1, a0, a1, x2, M =>
    (((nI (ln a1)) ≤ x2) → post M) ∧ (¬ ((nI (ln a1)) ≤ x2) → (((nI (ln a0)) ≤ x2) → post M) ∧ (¬ ((nI (ln a0)) ≤ x2) → vp_in x2 (ln a0) ∧ vp_in x2 (ln a1) ∧ (∀ M3, M3 = up M a1 x2.toNatClampNeg (M a0 x2.toNatClampNeg) → ∀ y4, y4 = x2 + 1 → f_SR_copy_2 fu post kf a0 a1 y4 M3)))
def f_SR_copy (fu : Nat) (post : Mm → Prop) (a0 : Nat) (a1 : Nat) (M : Mm) : Prop :=
  f_SR_copy_2 fu post fu a0 a1 0 M
set_option maxRecDepth 100000 in
theorem l_SR_copy_2 {l : Launch} {X : CX} {g : GX} {w : WX} {fu : Nat} {post : Mm → Prop} (hX : X.2.1 = l) (hC : Cx X g cX10_copy 3 RX10 (none) 0) : ∀ (kf : Nat) (a0 : Nat) (a1 : Nat) (x2 : Int32) (M : Mm) (ha0 : ok w a0 20) (ha1 : ok w a1 20) (h : f_SR_copy_2 fu post kf a0 a1 x2 M), V X g w 3 0 0 (QV X g w post 0 0) 2 [some (ob g a0), some (ob g a1), some (.int x2)] [] M := by
  intro kf
  induction kf with
  | zero => intro a0 a1 x2 M ha0 ha1 h; exact absurd h id
  | succ kf ih =>
    intro a0 a1 x2 M ha0 ha1 h
    rw [f_SR_copy_2] at h
    refine V_iload_n hC rfl dX10_copy_2 ?_
    refine V_aload_n hC rfl dX10_copy_3 ?_
    refine V_alen hC ha1 rfl dX10_copy_4 ?_
    refine V_icmp_ge (tgt := 26) hC dX10_copy_5 (by decide) (fun b6 => ?_) (fun b6 => ?_)
    · replace h := h.1 b6
      exact V_vret hC h dX10_copy_26
    · replace h := h.2 b6
      refine V_iload_n hC rfl dX10_copy_8 ?_
      refine V_aload_n hC rfl dX10_copy_9 ?_
      refine V_alen hC ha0 rfl dX10_copy_10 ?_
      refine V_icmp_ge (tgt := 26) hC dX10_copy_11 (by decide) (fun b5 => ?_) (fun b5 => ?_)
      · replace h := h.1 b5
        exact V_vret hC h dX10_copy_26
      · replace h := h.2 b5
        refine V_aload_n hC rfl dX10_copy_14 ?_
        refine V_iload_n hC rfl dX10_copy_15 ?_
        refine V_aload_n hC rfl dX10_copy_16 ?_
        refine V_iload_n hC rfl dX10_copy_17 ?_
        obtain ⟨q1, h⟩ := h
        refine V_iald hC ha0 q1 dX10_copy_18 ?_
        obtain ⟨q2, h⟩ := h
        refine V_iast hC ha1 q2 dX10_copy_19 ?_
        obtain ⟨M3, eM3⟩ : ∃ z, z = up M a1 x2.toNatClampNeg (M a0 x2.toNatClampNeg) := ⟨_, rfl⟩
        replace h := h M3 eM3
        refine V_mem eM3 ?_
        obtain ⟨y4, ey4⟩ : ∃ z, z = x2 + 1 := ⟨_, rfl⟩
        replace h := h y4 ey4
        refine V_iinc (v := y4) hC rfl (by rw [ey4]; rfl) (by decide) dX10_copy_20 ?_
        refine V_goto (tgt := 2) hC (by decide) dX10_copy_23 ?_
        refine V_sub (us := [some (ob g a0), some (ob g a1), some (.int y4)]) ⟨rfl, rfl, rfl, trivial⟩ ?_
        exact ih a0 a1 y4 M3 ha0 ha1 h
set_option maxRecDepth 100000 in
theorem c_SR_copy (l : Launch) (g : GX) (w : WX) (fu : Nat) (post : Mm → Prop) (a0 : Nat) (a1 : Nat) (M : Mm) (ha0 : ok w a0 20) (ha1 : ok w a1 20) (h : f_SR_copy fu post a0 a1 M) : Met l yX10_copy [Cond.code yX10_copy cX10_copy 3 (none)] (rmC 0 0 0) (va_Pc [ob g a0, ob g a1] (Wb g w M)) (va_Qv post (Wb g w) (Af g)) 0 0 (Af g) := by
  refine Ct_v (by decide) rfl (fun v hv => by simp only [List.mem_cons, List.not_mem_nil, or_false] at hv; rcases hv with rfl | rfl <;> rfl) (Nat.le_of_ble_eq_true rfl) (Nat.le_refl _) ?_
  intro X hX _ hC
  unfold f_SR_copy at h
  refine V_sub (us := [some (ob g a0), some (ob g a1), none]) ⟨rfl, rfl, trivial⟩ ?_
  refine V_iconst (v := 0) hC (by decide) dX10_copy_0 ?_
  refine V_istore_n hC (by decide) dX10_copy_1 ?_
  refine V_sub (us := [some (ob g a0), some (ob g a1), some (.int 0)]) ⟨rfl, rfl, rfl, trivial⟩ ?_
  exact l_SR_copy_2 hX hC fu a0 a1 0 M ha0 ha1 h
def f_Au_copyFrom (fu : Nat) (post : Mm → Prop) (t : Nat) (a1 : Nat) (M : Mm) : Prop :=
  ∀ M1, M1 = up M t 4 (M a1 4) → f_SR_copy fu (fun M2 => f_SR_copy fu (fun M3 => f_SR_copy fu (fun M4 => f_SR_copy fu (fun M5 => post M5) (a1 + 4) (t + 4) M4) (a1 + 3) (t + 3) M3) (a1 + 2) (t + 2) M2) (a1 + 1) (t + 1) M1
set_option maxRecDepth 100000 in
theorem c_Au_copyFrom (l : Launch) (g : GX) (w : WX) (fu : Nat) (post : Mm → Prop) (t : Nat) (a1 : Nat) (M : Mm) (ht : ok w t 0) (ha1 : ok w a1 0) (h : f_Au_copyFrom fu post t a1 M) : Met l yX0_copyFrom [Cond.code yX0_copyFrom cX0_copyFrom 2 (none)] (rmC 1 0 0) (va_Pc [ob g t, ob g a1] (Wb g w M)) (va_Qv post (Wb g w) (Af g)) 0 0 (Af g) := by
  refine Ct_v (by decide) rfl (fun v hv => by simp only [List.mem_cons, List.not_mem_nil, or_false] at hv; rcases hv with rfl | rfl <;> rfl) (Nat.le_of_ble_eq_true rfl) (Nat.le_refl _) ?_
  intro X hX _ hC
  unfold f_Au_copyFrom at h
  refine V_sub (us := [some (ob g t), some (ob g a1)]) ⟨rfl, rfl, trivial⟩ ?_
  refine V_aload_n hC rfl dX0_copyFrom_0 ?_
  refine V_aload_n hC rfl dX0_copyFrom_1 ?_
  refine gf_0_4 hC ha1 tw_42 dX0_copyFrom_2 ?_
  refine pf_0_4 hC ht tw_42 dX0_copyFrom_5 ?_
  obtain ⟨M1, eM1⟩ : ∃ z, z = up M t 4 (M a1 4) := ⟨_, rfl⟩
  replace h := h M1 eM1
  refine V_mem eM1 ?_
  refine V_aload_n hC rfl dX0_copyFrom_8 ?_
  refine gf_0_0 hC ha1 tw_38 dX0_copyFrom_9 ?_
  refine V_aload_n hC rfl dX0_copyFrom_12 ?_
  refine gf_0_0 hC ht tw_38 dX0_copyFrom_13 ?_
  refine V_scallvN (As := [ob g (a1 + 1), ob g (t + 1)]) hC (c_SR_copy X.2.1 g w fu _ (a1 + 1) (t + 1) M1 (ok_0_0 ha1) (ok_0_0 ht) h) mw_X10_copy (by decide) tw_452 rfl rfl (Nat.le_of_ble_eq_true rfl) ⟨Nat.zero_le _, Nat.zero_le _⟩ dX0_copyFrom_16 (fun M2 h => ?_)
  refine V_aload_n hC rfl dX0_copyFrom_19 ?_
  refine gf_0_1 hC ha1 tw_39 dX0_copyFrom_20 ?_
  refine V_aload_n hC rfl dX0_copyFrom_23 ?_
  refine gf_0_1 hC ht tw_39 dX0_copyFrom_24 ?_
  refine V_scallvN (As := [ob g (a1 + 2), ob g (t + 2)]) hC (c_SR_copy X.2.1 g w fu _ (a1 + 2) (t + 2) M2 (ok_0_1 ha1) (ok_0_1 ht) h) mw_X10_copy (by decide) tw_452 rfl rfl (Nat.le_of_ble_eq_true rfl) ⟨Nat.zero_le _, Nat.zero_le _⟩ dX0_copyFrom_27 (fun M3 h => ?_)
  refine V_aload_n hC rfl dX0_copyFrom_30 ?_
  refine gf_0_2 hC ha1 tw_40 dX0_copyFrom_31 ?_
  refine V_aload_n hC rfl dX0_copyFrom_34 ?_
  refine gf_0_2 hC ht tw_40 dX0_copyFrom_35 ?_
  refine V_scallvN (As := [ob g (a1 + 3), ob g (t + 3)]) hC (c_SR_copy X.2.1 g w fu _ (a1 + 3) (t + 3) M3 (ok_0_2 ha1) (ok_0_2 ht) h) mw_X10_copy (by decide) tw_452 rfl rfl (Nat.le_of_ble_eq_true rfl) ⟨Nat.zero_le _, Nat.zero_le _⟩ dX0_copyFrom_38 (fun M4 h => ?_)
  refine V_aload_n hC rfl dX0_copyFrom_41 ?_
  refine gf_0_3 hC ha1 tw_41 dX0_copyFrom_42 ?_
  refine V_aload_n hC rfl dX0_copyFrom_45 ?_
  refine gf_0_3 hC ht tw_41 dX0_copyFrom_46 ?_
  refine V_scallvN (As := [ob g (a1 + 4), ob g (t + 4)]) hC (c_SR_copy X.2.1 g w fu _ (a1 + 4) (t + 4) M4 (ok_0_3 ha1) (ok_0_3 ht) h) mw_X10_copy (by decide) tw_452 rfl rfl (Nat.le_of_ble_eq_true rfl) ⟨Nat.zero_le _, Nat.zero_le _⟩ dX0_copyFrom_49 (fun M5 h => ?_)
  exact V_vret hC h dX0_copyFrom_52
def f_Co_copyFrom (fu : Nat) (post : Mm → Prop) (t : Nat) (a1 : Nat) (M : Mm) : Prop :=
  f_SR_copy fu (fun M1 => post M1) (a1 + 1) (t + 1) M
set_option maxRecDepth 100000 in
theorem c_Co_copyFrom (l : Launch) (g : GX) (w : WX) (fu : Nat) (post : Mm → Prop) (t : Nat) (a1 : Nat) (M : Mm) (ht : ok w t 1) (ha1 : ok w a1 1) (h : f_Co_copyFrom fu post t a1 M) : Met l yX1_copyFrom [Cond.code yX1_copyFrom cX1_copyFrom 2 (none)] (rmC 1 0 0) (va_Pc [ob g t, ob g a1] (Wb g w M)) (va_Qv post (Wb g w) (Af g)) 0 0 (Af g) := by
  refine Ct_v (by decide) rfl (fun v hv => by simp only [List.mem_cons, List.not_mem_nil, or_false] at hv; rcases hv with rfl | rfl <;> rfl) (Nat.le_of_ble_eq_true rfl) (Nat.le_refl _) ?_
  intro X hX _ hC
  unfold f_Co_copyFrom at h
  refine V_sub (us := [some (ob g t), some (ob g a1)]) ⟨rfl, rfl, trivial⟩ ?_
  refine V_aload_n hC rfl dX1_copyFrom_0 ?_
  refine gf_1_0 hC ha1 tw_77 dX1_copyFrom_1 ?_
  refine V_aload_n hC rfl dX1_copyFrom_4 ?_
  refine gf_1_0 hC ht tw_77 dX1_copyFrom_5 ?_
  refine V_scallvN (As := [ob g (a1 + 1), ob g (t + 1)]) hC (c_SR_copy X.2.1 g w fu _ (a1 + 1) (t + 1) M (ok_1_0 ha1) (ok_1_0 ht) h) mw_X10_copy (by decide) tw_459 rfl rfl (Nat.le_of_ble_eq_true rfl) ⟨Nat.zero_le _, Nat.zero_le _⟩ dX1_copyFrom_8 (fun M1 h => ?_)
  exact V_vret hC h dX1_copyFrom_11
def f_To_copyFrom (fu : Nat) (post : Mm → Prop) (t : Nat) (a1 : Nat) (M : Mm) : Prop :=
  ∀ M1, M1 = up M t 1 (M a1 1) → f_SR_copy fu (fun M2 => post M2) (a1 + 1) (t + 1) M1
set_option maxRecDepth 100000 in
theorem c_To_copyFrom (l : Launch) (g : GX) (w : WX) (fu : Nat) (post : Mm → Prop) (t : Nat) (a1 : Nat) (M : Mm) (ht : ok w t 9) (ha1 : ok w a1 9) (h : f_To_copyFrom fu post t a1 M) : Met l yX9_copyFrom [Cond.code yX9_copyFrom cX9_copyFrom 2 (none)] (rmC 1 0 0) (va_Pc [ob g t, ob g a1] (Wb g w M)) (va_Qv post (Wb g w) (Af g)) 0 0 (Af g) := by
  refine Ct_v (by decide) rfl (fun v hv => by simp only [List.mem_cons, List.not_mem_nil, or_false] at hv; rcases hv with rfl | rfl <;> rfl) (Nat.le_of_ble_eq_true rfl) (Nat.le_refl _) ?_
  intro X hX _ hC
  unfold f_To_copyFrom at h
  refine V_sub (us := [some (ob g t), some (ob g a1)]) ⟨rfl, rfl, trivial⟩ ?_
  refine V_aload_n hC rfl dX9_copyFrom_0 ?_
  refine V_aload_n hC rfl dX9_copyFrom_1 ?_
  refine gf_9_1 hC ha1 tw_88 dX9_copyFrom_2 ?_
  refine pf_9_1 hC ht tw_88 dX9_copyFrom_5 ?_
  obtain ⟨M1, eM1⟩ : ∃ z, z = up M t 1 (M a1 1) := ⟨_, rfl⟩
  replace h := h M1 eM1
  refine V_mem eM1 ?_
  refine V_aload_n hC rfl dX9_copyFrom_8 ?_
  refine gf_9_0 hC ha1 tw_87 dX9_copyFrom_9 ?_
  refine V_aload_n hC rfl dX9_copyFrom_12 ?_
  refine gf_9_0 hC ht tw_87 dX9_copyFrom_13 ?_
  refine V_scallvN (As := [ob g (a1 + 1), ob g (t + 1)]) hC (c_SR_copy X.2.1 g w fu _ (a1 + 1) (t + 1) M1 (ok_9_0 ha1) (ok_9_0 ht) h) mw_X10_copy (by decide) tw_464 rfl rfl (Nat.le_of_ble_eq_true rfl) ⟨Nat.zero_le _, Nat.zero_le _⟩ dX9_copyFrom_16 (fun M2 h => ?_)
  exact V_vret hC h dX9_copyFrom_19
def f_Si_copyFrom (fu : Nat) (post : Mm → Prop) (t : Nat) (a1 : Nat) (M : Mm) : Prop :=
  f_Au_copyFrom fu (fun M1 => f_Co_copyFrom fu (fun M2 => f_To_copyFrom fu (fun M3 => post M3) (t + 8) (a1 + 8) M2) (t + 6) (a1 + 6) M1) (t + 1) (a1 + 1) M
set_option maxRecDepth 100000 in
theorem c_Si_copyFrom (l : Launch) (g : GX) (w : WX) (fu : Nat) (post : Mm → Prop) (t : Nat) (a1 : Nat) (M : Mm) (ht : ok w t 8) (ha1 : ok w a1 8) (h : f_Si_copyFrom fu post t a1 M) : Met l yX8_copyFrom [Cond.code yX8_copyFrom cX8_copyFrom 2 (none)] (rmC 2 0 0) (va_Pc [ob g t, ob g a1] (Wb g w M)) (va_Qv post (Wb g w) (Af g)) 0 0 (Af g) := by
  refine Ct_v (by decide) rfl (fun v hv => by simp only [List.mem_cons, List.not_mem_nil, or_false] at hv; rcases hv with rfl | rfl <;> rfl) (Nat.le_of_ble_eq_true rfl) (Nat.le_refl _) ?_
  intro X hX _ hC
  unfold f_Si_copyFrom at h
  refine V_sub (us := [some (ob g t), some (ob g a1)]) ⟨rfl, rfl, trivial⟩ ?_
  refine V_aload_n hC rfl dX8_copyFrom_0 ?_
  refine gf_8_0 hC ht tw_98 dX8_copyFrom_1 ?_
  refine V_aload_n hC rfl dX8_copyFrom_4 ?_
  refine gf_8_0 hC ha1 tw_98 dX8_copyFrom_5 ?_
  refine V_callv (As := [ob g (a1 + 1)]) hC (c_Au_copyFrom X.2.1 g w fu _ (t + 1) (a1 + 1) M (ok_8_0 ht) (ok_8_0 ha1) h) mw_X0_copyFrom (by decide) tw_448 (ok_8_0 ht) (by decide) rfl rfl rfl (Nat.le_of_ble_eq_true rfl) ⟨Nat.zero_le _, Nat.zero_le _⟩ dX8_copyFrom_8 (fun M1 h => ?_)
  refine V_aload_n hC rfl dX8_copyFrom_11 ?_
  refine gf_8_1 hC ht tw_103 dX8_copyFrom_12 ?_
  refine V_aload_n hC rfl dX8_copyFrom_15 ?_
  refine gf_8_1 hC ha1 tw_103 dX8_copyFrom_16 ?_
  refine V_callv (As := [ob g (a1 + 6)]) hC (c_Co_copyFrom X.2.1 g w fu _ (t + 6) (a1 + 6) M1 (ok_8_1 ht) (ok_8_1 ha1) h) mw_X1_copyFrom (by decide) tw_455 (ok_8_1 ht) (by decide) rfl rfl rfl (Nat.le_of_ble_eq_true rfl) ⟨Nat.zero_le _, Nat.zero_le _⟩ dX8_copyFrom_19 (fun M2 h => ?_)
  refine V_aload_n hC rfl dX8_copyFrom_22 ?_
  refine gf_8_2 hC ht tw_107 dX8_copyFrom_23 ?_
  refine V_aload_n hC rfl dX8_copyFrom_26 ?_
  refine gf_8_2 hC ha1 tw_107 dX8_copyFrom_27 ?_
  refine V_callv (As := [ob g (a1 + 8)]) hC (c_To_copyFrom X.2.1 g w fu _ (t + 8) (a1 + 8) M2 (ok_8_2 ht) (ok_8_2 ha1) h) mw_X9_copyFrom (by decide) tw_460 (ok_8_2 ht) (by decide) rfl rfl rfl (Nat.le_of_ble_eq_true rfl) ⟨Nat.zero_le _, Nat.zero_le _⟩ dX8_copyFrom_30 (fun M3 h => ?_)
  exact V_vret hC h dX8_copyFrom_33
def f_Hi_remember_18 (fu : Nat) (post : Mm → Prop) (t : Nat) (M : Mm) : Prop :=
  ∀ M1, M1 = up M t 1 (((M t 1) + 1) - ((M t 1) + 1) / 8 * 8) → ∀ M2, M2 = up M1 t 2 (if 8 < ((M1 t 2) + 1) then 8 else ((M1 t 2) + 1)) → post M2
def f_Hi_remember (fu : Nat) (post : Mm → Prop) (t : Nat) (a1 : Nat) (M : Mm) : Prop :=
  f_Hi_slotAt fu (fun o2 M1 => (o2 = none → f_Hi_remember_18 fu post t M1) ∧ (∀ c3, o2 = some c3 → f_Si_copyFrom fu (fun M4 => f_Hi_remember_18 fu post t M4) c3 a1 M1)) t (M t 1) M
set_option maxRecDepth 100000 in
theorem j_Hi_remember_18 {l : Launch} {X : CX} {g : GX} {w : WX} {fu : Nat} {post : Mm → Prop} (hX : X.2.1 = l) (hC : Cx X g cX4_remember 3 RX4 (none) 3) (t : Nat) {M : Mm} (ht : ok w t 4) (h : f_Hi_remember_18 fu post t M) : V X g w 3 0 0 (QV X g w post 0 0) 18 [some (ob g t), none, none] [] M := by
  unfold f_Hi_remember_18 at h
  refine V_aload_n hC rfl dX4_remember_18 ?_
  refine V_aload_n hC rfl dX4_remember_19 ?_
  refine gf_4_1 hC ht tw_128 dX4_remember_20 ?_
  refine V_iconst (v := 1) hC (by decide) dX4_remember_23 ?_
  refine V_iadd hC dX4_remember_24 ?_
  refine V_bipush (v := 8) hC (by decide) dX4_remember_25 ?_
  refine V_irem hC (by decide) dX4_remember_27 ?_
  refine pf_4_1 hC ht tw_128 dX4_remember_28 ?_
  obtain ⟨M1, eM1⟩ : ∃ z, z = up M t 1 (((M t 1) + 1) - ((M t 1) + 1) / 8 * 8) := ⟨_, rfl⟩
  replace h := h M1 eM1
  refine V_mem eM1 ?_
  refine V_aload_n hC rfl dX4_remember_31 ?_
  refine V_aload_n hC rfl dX4_remember_32 ?_
  refine gf_4_2 hC ht tw_129 dX4_remember_33 ?_
  refine V_iconst (v := 1) hC (by decide) dX4_remember_36 ?_
  refine V_iadd hC dX4_remember_37 ?_
  refine V_bipush (v := 8) hC (by decide) dX4_remember_38 ?_
  refine V_min hC tw_465 tw_466 tw_17 tw_min (by decide) (Nat.le_of_ble_eq_true rfl) ⟨Nat.zero_le _, Nat.zero_le _⟩ dX4_remember_40 ?_
  refine pf_4_2 hC ht tw_129 dX4_remember_43 ?_
  obtain ⟨M2, eM2⟩ : ∃ z, z = up M1 t 2 (if 8 < ((M1 t 2) + 1) then 8 else ((M1 t 2) + 1)) := ⟨_, rfl⟩
  replace h := h M2 eM2
  refine V_mem eM2 ?_
  exact V_vret hC h dX4_remember_46
set_option maxRecDepth 100000 in
theorem c_Hi_remember (l : Launch) (g : GX) (w : WX) (fu : Nat) (post : Mm → Prop) (t : Nat) (a1 : Nat) (M : Mm) (ht : ok w t 4) (ha1 : ok w a1 8) (h : f_Hi_remember fu post t a1 M) : Met l yX4_remember [Cond.code yX4_remember cX4_remember 3 (none)] (rmC 3 0 0) (va_Pc [ob g t, ob g a1] (Wb g w M)) (va_Qv post (Wb g w) (Af g)) 0 0 (Af g) := by
  refine Ct_v (by decide) rfl (fun v hv => by simp only [List.mem_cons, List.not_mem_nil, or_false] at hv; rcases hv with rfl | rfl <;> rfl) (Nat.le_of_ble_eq_true rfl) (Nat.le_refl _) ?_
  intro X hX _ hC
  unfold f_Hi_remember at h
  refine V_sub (us := [some (ob g t), some (ob g a1), none]) ⟨rfl, rfl, trivial⟩ ?_
  refine V_aload_n hC rfl dX4_remember_0 ?_
  refine V_aload_n hC rfl dX4_remember_1 ?_
  refine gf_4_1 hC ht tw_128 dX4_remember_2 ?_
  refine V_callo (As := [.int (M t 1)]) hC (c_Hi_slotAt X.2.1 g w fu _ t (M t 1) M ht h) mw_X4_slotAt (by decide) tw_440 ht (by decide) rfl rfl rfl (Nat.le_of_ble_eq_true rfl) ⟨Nat.zero_le _, Nat.zero_le _⟩ dX4_remember_5 (fun o2 M1 h => ?_)
  obtain ⟨hoo2, h⟩ := h
  cases ec3 : o2 with
  | none =>
    replace h := h.1 ec3
    refine V_astore_n0 hC (by decide) dX4_remember_8 ?_
    refine V_aload_n0 hC rfl dX4_remember_9 ?_
    refine V_ifnull_n (tgt := 18) hC (by decide) dX4_remember_10 ?_
    refine V_sub (us := [some (ob g t), none, none]) ⟨rfl, trivial⟩ ?_
    exact j_Hi_remember_18 hX hC t ht h
  | some c3 =>
    replace h := h.2 c3 ec3
    have hc3 := hoo2 c3 ec3
    refine V_astore_n hC (by decide) dX4_remember_8 ?_
    refine V_aload_n hC rfl dX4_remember_9 ?_
    refine V_ifnull_s hC dX4_remember_10 ?_
    refine V_aload_n hC rfl dX4_remember_13 ?_
    refine V_aload_n hC rfl dX4_remember_14 ?_
    refine V_callv (As := [ob g a1]) hC (c_Si_copyFrom X.2.1 g w fu _ c3 a1 M1 hc3 ha1 h) mw_X8_copyFrom (by decide) tw_444 hc3 (by decide) rfl rfl rfl (Nat.le_of_ble_eq_true rfl) ⟨Nat.zero_le _, Nat.zero_le _⟩ dX4_remember_15 (fun M4 h => ?_)
    refine V_sub (us := [some (ob g t), none, none]) ⟨rfl, trivial⟩ ?_
    exact j_Hi_remember_18 hX hC t ht h
def f_SR_forgetTables (fu : Nat) (post : Mm → Prop) (t : Nat) (M : Mm) : Prop :=
  ∀ M1, M1 = up M (t + 105) 5 0 → ∀ M2, M2 = up M1 (t + 123) 5 0 → post M2
set_option maxRecDepth 100000 in
theorem c_SR_forgetTables (l : Launch) (g : GX) (w : WX) (fu : Nat) (post : Mm → Prop) (t : Nat) (M : Mm) (ht : ok w t 10) (h : f_SR_forgetTables fu post t M) : Met l yX10_forgetTables [Cond.code yX10_forgetTables cX10_forgetTables 1 (none)] (rmC 0 0 0) (va_Pc [ob g t] (Wb g w M)) (va_Qv post (Wb g w) (Af g)) 0 0 (Af g) := by
  refine Ct_v (by decide) rfl (fun v hv => by simp only [List.mem_cons, List.not_mem_nil, or_false] at hv; rcases hv with rfl <;> rfl) (Nat.le_of_ble_eq_true rfl) (Nat.le_refl _) ?_
  intro X hX _ hC
  unfold f_SR_forgetTables at h
  refine V_sub (us := [some (ob g t)]) ⟨rfl, trivial⟩ ?_
  refine V_aload_n hC rfl dX10_forgetTables_0 ?_
  refine gf_10_3 hC ht tw_271 dX10_forgetTables_1 ?_
  refine V_iconst (v := 0) hC (by decide) dX10_forgetTables_4 ?_
  refine pfN_7_5 hC (ok_10_3 ht) (by decide) tw_198 dX10_forgetTables_5 ?_
  obtain ⟨M1, eM1⟩ : ∃ z, z = up M (t + 105) 5 0 := ⟨_, rfl⟩
  replace h := h M1 eM1
  refine V_mem eM1 ?_
  refine V_aload_n hC rfl dX10_forgetTables_8 ?_
  refine gf_10_4 hC ht tw_272 dX10_forgetTables_9 ?_
  refine V_iconst (v := 0) hC (by decide) dX10_forgetTables_12 ?_
  refine pfN_7_5 hC (ok_10_4 ht) (by decide) tw_198 dX10_forgetTables_13 ?_
  obtain ⟨M2, eM2⟩ : ∃ z, z = up M1 (t + 123) 5 0 := ⟨_, rfl⟩
  replace h := h M2 eM2
  refine V_mem eM2 ?_
  exact V_vret hC h dX10_forgetTables_16
def f_SR_beginEdit (fu : Nat) (post : Mm → Prop) (t : Nat) (M : Mm) : Prop :=
  f_Hi_remember fu (fun M1 => f_SR_forgetTables fu (fun M2 => post M2) t M1) (t + 11) (t + 1) M
set_option maxRecDepth 100000 in
theorem c_SR_beginEdit (l : Launch) (g : GX) (w : WX) (fu : Nat) (post : Mm → Prop) (t : Nat) (M : Mm) (ht : ok w t 10) (h : f_SR_beginEdit fu post t M) : Met l yX10_beginEdit [Cond.code yX10_beginEdit cX10_beginEdit 1 (none)] (rmC 4 0 0) (va_Pc [ob g t] (Wb g w M)) (va_Qv post (Wb g w) (Af g)) 0 0 (Af g) := by
  refine Ct_v (by decide) rfl (fun v hv => by simp only [List.mem_cons, List.not_mem_nil, or_false] at hv; rcases hv with rfl <;> rfl) (Nat.le_of_ble_eq_true rfl) (Nat.le_refl _) ?_
  intro X hX _ hC
  unfold f_SR_beginEdit at h
  refine V_sub (us := [some (ob g t)]) ⟨rfl, trivial⟩ ?_
  refine V_aload_n hC rfl dX10_beginEdit_0 ?_
  refine gf_10_1 hC ht tw_269 dX10_beginEdit_1 ?_
  refine V_aload_n hC rfl dX10_beginEdit_4 ?_
  refine gf_10_0 hC ht tw_268 dX10_beginEdit_5 ?_
  refine V_callv (As := [ob g (t + 1)]) hC (c_Hi_remember X.2.1 g w fu _ (t + 11) (t + 1) M (ok_10_1 ht) (ok_10_0 ht) h) mw_X4_remember (by decide) tw_436 (ok_10_1 ht) (by decide) rfl rfl rfl (Nat.le_of_ble_eq_true rfl) ⟨Nat.zero_le _, Nat.zero_le _⟩ dX10_beginEdit_8 (fun M1 h => ?_)
  refine V_aload_n hC rfl dX10_beginEdit_11 ?_
  refine V_callv (As := []) hC (c_SR_forgetTables X.2.1 g w fu _ t M1 ht h) mw_X10_forgetTables (by decide) tw_468 ht (by decide) rfl rfl rfl (Nat.le_of_ble_eq_true rfl) ⟨Nat.zero_le _, Nat.zero_le _⟩ dX10_beginEdit_12 (fun M2 h => ?_)
  exact V_vret hC h dX10_beginEdit_15
def f_SR_loadGrammar (fu : Nat) (post : Int32 → Mm → Prop) (t : Nat) (M : Mm) : Prop :=
  f_Gt_read fu (fun r2 M1 => ((0 ≤ r2) → f_SR_beginEdit fu (fun M3 => f_Si_copyFrom fu (fun M4 => ∀ M5, M5 = up M4 (t + 93) 2 0 → post r2 M5) (t + 1) (t + 95) M3) t M1) ∧ (¬ (0 ≤ r2) → post r2 M1)) (t + 93) M
set_option maxRecDepth 100000 in
theorem c_SR_loadGrammar (l : Launch) (g : GX) (w : WX) (fu : Nat) (post : Int32 → Mm → Prop) (t : Nat) (M : Mm) (ht : ok w t 10) (h : f_SR_loadGrammar fu post t M) : Met l yX10_loadGrammar [Cond.code yX10_loadGrammar cX10_loadGrammar 2 (some .int)] (rmC 7 0 0) (va_Pc [ob g t] (Wb g w M)) (va_Qi post (Wb g w) (Af g)) 0 0 (Af g) := by
  refine Ct_i (by decide) rfl (fun v hv => by simp only [List.mem_cons, List.not_mem_nil, or_false] at hv; rcases hv with rfl <;> rfl) (Nat.le_of_ble_eq_true rfl) (Nat.le_refl _) ?_
  intro X hX _ hC
  unfold f_SR_loadGrammar at h
  refine V_sub (us := [some (ob g t), none]) ⟨rfl, trivial⟩ ?_
  refine V_aload_n hC rfl dX10_loadGrammar_0 ?_
  refine gf_10_2 hC ht tw_270 dX10_loadGrammar_1 ?_
  refine V_calli (As := []) hC (c_Gt_read X.2.1 g w fu _ (t + 93) M (ok_10_2 ht) h) mw_X3_read (by decide) tw_307 (ok_10_2 ht) (by decide) rfl rfl rfl (Nat.le_of_ble_eq_true rfl) ⟨Nat.zero_le _, Nat.zero_le _⟩ dX10_loadGrammar_4 (fun r2 M1 h => ?_)
  refine V_istore_n hC (by decide) dX10_loadGrammar_7 ?_
  refine V_iload_n hC rfl dX10_loadGrammar_8 ?_
  refine V_if_ge (tgt := 14) hC dX10_loadGrammar_9 (by decide) (fun b6 => ?_) (fun b6 => ?_)
  · replace h := h.1 b6
    refine V_aload_n hC rfl dX10_loadGrammar_14 ?_
    refine V_callv (As := []) hC (c_SR_beginEdit X.2.1 g w fu _ t M1 ht h) mw_X10_beginEdit (by decide) tw_432 ht (by decide) rfl rfl rfl (Nat.le_of_ble_eq_true rfl) ⟨Nat.zero_le _, Nat.zero_le _⟩ dX10_loadGrammar_15 (fun M3 h => ?_)
    refine V_aload_n hC rfl dX10_loadGrammar_18 ?_
    refine gf_10_0 hC ht tw_268 dX10_loadGrammar_19 ?_
    refine V_aload_n hC rfl dX10_loadGrammar_22 ?_
    refine gf_10_2 hC ht tw_270 dX10_loadGrammar_23 ?_
    refine gfN_3_1 hC (ok_10_2 ht) tw_148 dX10_loadGrammar_26 ?_
    refine V_callv (As := [ob g (t + 95)]) hC (c_Si_copyFrom X.2.1 g w fu _ (t + 1) (t + 95) M3 (ok_10_0 ht) (ok_3_1 (ok_10_2 ht)) h) mw_X8_copyFrom (by decide) tw_472 (ok_10_0 ht) (by decide) rfl rfl rfl (Nat.le_of_ble_eq_true rfl) ⟨Nat.zero_le _, Nat.zero_le _⟩ dX10_loadGrammar_29 (fun M4 h => ?_)
    refine V_aload_n hC rfl dX10_loadGrammar_32 ?_
    refine gf_10_2 hC ht tw_270 dX10_loadGrammar_33 ?_
    refine V_iconst (v := 0) hC (by decide) dX10_loadGrammar_36 ?_
    refine pfN_3_2 hC (ok_10_2 ht) tw_150 dX10_loadGrammar_37 ?_
    obtain ⟨M5, eM5⟩ : ∃ z, z = up M4 (t + 93) 2 0 := ⟨_, rfl⟩
    replace h := h M5 eM5
    refine V_mem eM5 ?_
    refine V_iload_n hC rfl dX10_loadGrammar_40 ?_
    exact V_iret hC h dX10_loadGrammar_41
  · replace h := h.2 b6
    refine V_iload_n hC rfl dX10_loadGrammar_12 ?_
    exact V_iret hC h dX10_loadGrammar_13
def f_To_add_15 (fu : Nat) (post : Mm → Prop) : Nat → Nat → Int32 → Int32 → Int32 → Mm → Prop
  | 0, _, _, _, _, _ => False
  | kf + 1, t, x1, x2, x3, M =>
    ((x3 ≤ x1) → f_SR_put fu (fun M1 => ∀ M2, M2 = up M1 t 1 ((M1 t 1) + 1) → post M2) (t + 1) x1 x2 M) ∧ (¬ (x3 ≤ x1) → f_SR_at fu (fun r4 M3 => f_SR_put fu (fun M5 => ∀ y6, y6 = x3 + (-1) → f_To_add_15 fu post kf t x1 x2 y6 M5) (t + 1) x3 r4 M3) (t + 1) (x3 - 1) M)
def f_To_add (fu : Nat) (post : Mm → Prop) (t : Nat) (x1 : Int32) (x2 : Int32) (M : Mm) : Prop :=
  (((M t 1) < 12) → ∀ y1, y1 = (M t 1) → f_To_add_15 fu post fu t x1 x2 y1 M) ∧ (¬ ((M t 1) < 12) → post M)
set_option maxRecDepth 100000 in
theorem l_To_add_15 {l : Launch} {X : CX} {g : GX} {w : WX} {fu : Nat} {post : Mm → Prop} (hX : X.2.1 = l) (hC : Cx X g cX9_add 4 RX9 (none) 1) : ∀ (kf : Nat) (t : Nat) (x1 : Int32) (x2 : Int32) (x3 : Int32) (M : Mm) (ht : ok w t 9) (h : f_To_add_15 fu post kf t x1 x2 x3 M), V X g w 4 0 0 (QV X g w post 0 0) 15 [some (ob g t), some (.int x1), some (.int x2), some (.int x3)] [] M := by
  intro kf
  induction kf with
  | zero => intro t x1 x2 x3 M ht h; exact absurd h id
  | succ kf ih =>
    intro t x1 x2 x3 M ht h
    rw [f_To_add_15] at h
    refine V_iload_n hC rfl dX9_add_15 ?_
    refine V_iload_n hC rfl dX9_add_16 ?_
    refine V_icmp_le (tgt := 44) hC dX9_add_17 (by decide) (fun b7 => ?_) (fun b7 => ?_)
    · replace h := h.1 b7
      refine V_aload_n hC rfl dX9_add_44 ?_
      refine gf_9_0 hC ht tw_87 dX9_add_45 ?_
      refine V_iload_n hC rfl dX9_add_48 ?_
      refine V_iload_n hC rfl dX9_add_49 ?_
      refine V_scallvN (As := [ob g (t + 1), .int x1, .int x2]) hC (c_SR_put X.2.1 g w fu _ (t + 1) x1 x2 M (ok_9_0 ht) h) mw_X10_put (by decide) tw_488 rfl rfl (Nat.le_of_ble_eq_true rfl) ⟨Nat.zero_le _, Nat.zero_le _⟩ dX9_add_50 (fun M1 h => ?_)
      refine V_aload_n hC rfl dX9_add_53 ?_
      refine V_dup hC rfl dX9_add_54 ?_
      refine gf_9_1 hC ht tw_88 dX9_add_55 ?_
      refine V_iconst (v := 1) hC (by decide) dX9_add_58 ?_
      refine V_iadd hC dX9_add_59 ?_
      refine pf_9_1 hC ht tw_88 dX9_add_60 ?_
      obtain ⟨M2, eM2⟩ : ∃ z, z = up M1 t 1 ((M1 t 1) + 1) := ⟨_, rfl⟩
      replace h := h M2 eM2
      refine V_mem eM2 ?_
      exact V_vret hC h dX9_add_63
    · replace h := h.2 b7
      refine V_aload_n hC rfl dX9_add_20 ?_
      refine gf_9_0 hC ht tw_87 dX9_add_21 ?_
      refine V_iload_n hC rfl dX9_add_24 ?_
      refine V_aload_n hC rfl dX9_add_25 ?_
      refine gf_9_0 hC ht tw_87 dX9_add_26 ?_
      refine V_iload_n hC rfl dX9_add_29 ?_
      refine V_iconst (v := 1) hC (by decide) dX9_add_30 ?_
      refine V_isub hC dX9_add_31 ?_
      refine V_scalliN (As := [ob g (t + 1), .int (x3 - 1)]) hC (c_SR_at X.2.1 g w fu _ (t + 1) (x3 - 1) M (ok_9_0 ht) h) mw_X10_at (by decide) tw_487 rfl rfl (Nat.le_of_ble_eq_true rfl) ⟨Nat.zero_le _, Nat.zero_le _⟩ dX9_add_32 (fun r4 M3 h => ?_)
      refine V_scallvN (As := [ob g (t + 1), .int x3, .int r4]) hC (c_SR_put X.2.1 g w fu _ (t + 1) x3 r4 M3 (ok_9_0 ht) h) mw_X10_put (by decide) tw_488 rfl rfl (Nat.le_of_ble_eq_true rfl) ⟨Nat.zero_le _, Nat.zero_le _⟩ dX9_add_35 (fun M5 h => ?_)
      obtain ⟨y6, ey6⟩ : ∃ z, z = x3 + (-1) := ⟨_, rfl⟩
      replace h := h y6 ey6
      refine V_iinc (v := y6) hC rfl (by rw [ey6]; rfl) (by decide) dX9_add_38 ?_
      refine V_goto (tgt := 15) hC (by decide) dX9_add_41 ?_
      refine V_sub (us := [some (ob g t), some (.int x1), some (.int x2), some (.int y6)]) ⟨rfl, rfl, rfl, rfl, trivial⟩ ?_
      exact ih t x1 x2 y6 M5 ht h
set_option maxRecDepth 100000 in
theorem c_To_add (l : Launch) (g : GX) (w : WX) (fu : Nat) (post : Mm → Prop) (t : Nat) (x1 : Int32) (x2 : Int32) (M : Mm) (ht : ok w t 9) (h : f_To_add fu post t x1 x2 M) : Met l yX9_add [Cond.code yX9_add cX9_add 4 (none)] (rmC 1 0 0) (va_Pc [ob g t, .int x1, .int x2] (Wb g w M)) (va_Qv post (Wb g w) (Af g)) 0 0 (Af g) := by
  refine Ct_v (by decide) rfl (fun v hv => by simp only [List.mem_cons, List.not_mem_nil, or_false] at hv; rcases hv with rfl | rfl | rfl <;> rfl) (Nat.le_of_ble_eq_true rfl) (Nat.le_refl _) ?_
  intro X hX _ hC
  unfold f_To_add at h
  refine V_sub (us := [some (ob g t), some (.int x1), some (.int x2), none]) ⟨rfl, rfl, rfl, trivial⟩ ?_
  refine V_aload_n hC rfl dX9_add_0 ?_
  refine gf_9_1 hC ht tw_88 dX9_add_1 ?_
  refine V_bipush (v := 12) hC (by decide) dX9_add_4 ?_
  refine V_icmp_lt (tgt := 10) hC dX9_add_6 (by decide) (fun b2 => ?_) (fun b2 => ?_)
  · replace h := h.1 b2
    refine V_aload_n hC rfl dX9_add_10 ?_
    refine gf_9_1 hC ht tw_88 dX9_add_11 ?_
    refine V_topi (fun y1 ey1 => ?_)
    replace h := h y1 ey1
    refine V_istore_n hC (by decide) dX9_add_14 ?_
    refine V_sub (us := [some (ob g t), some (.int x1), some (.int x2), some (.int y1)]) ⟨rfl, rfl, rfl, rfl, trivial⟩ ?_
    exact l_To_add_15 hX hC fu t x1 x2 y1 M ht h
  · replace h := h.2 b2
    exact V_vret hC h dX9_add_9
def f_SR_addToken (fu : Nat) (post : Int32 → Mm → Prop) (t : Nat) (x1 : Int32) (x2 : Int32) (M : Mm) : Prop :=
  ((x1 < 0) → post (-1) M) ∧ (¬ (x1 < 0) → (((M (t + 9) 1) < x1) → post (-1) M) ∧ (¬ ((M (t + 9) 1) < x1) → f_SR_isKind fu (fun r2 M1 => ((r2 = 0) → post (-1) M1) ∧ (¬ (r2 = 0) → (((M1 (t + 9) 1) < 12) → f_SR_beginEdit fu (fun M3 => f_To_add fu (fun M4 => post (M4 (t + 9) 1) M4) (t + 9) x1 x2 M3) t M1) ∧ (¬ ((M1 (t + 9) 1) < 12) → post (-3) M1))) x2 M))
set_option maxRecDepth 100000 in
theorem c_SR_addToken (l : Launch) (g : GX) (w : WX) (fu : Nat) (post : Int32 → Mm → Prop) (t : Nat) (x1 : Int32) (x2 : Int32) (M : Mm) (ht : ok w t 10) (h : f_SR_addToken fu post t x1 x2 M) : Met l yX10_addToken [Cond.code yX10_addToken cX10_addToken 3 (some .int)] (rmC 5 0 0) (va_Pc [ob g t, .int x1, .int x2] (Wb g w M)) (va_Qi post (Wb g w) (Af g)) 0 0 (Af g) := by
  refine Ct_i (by decide) rfl (fun v hv => by simp only [List.mem_cons, List.not_mem_nil, or_false] at hv; rcases hv with rfl | rfl | rfl <;> rfl) (Nat.le_of_ble_eq_true rfl) (Nat.le_refl _) ?_
  intro X hX _ hC
  unfold f_SR_addToken at h
  refine V_sub (us := [some (ob g t), some (.int x1), some (.int x2)]) ⟨rfl, rfl, rfl, trivial⟩ ?_
  refine V_iload_n hC rfl dX10_addToken_0 ?_
  refine V_if_lt (tgt := 25) hC dX10_addToken_1 (by decide) (fun b8 => ?_) (fun b8 => ?_)
  · replace h := h.1 b8
    refine V_iconst (v := (-1)) hC (by decide) dX10_addToken_25 ?_
    exact V_iret hC h dX10_addToken_26
  · replace h := h.2 b8
    refine V_iload_n hC rfl dX10_addToken_4 ?_
    refine V_aload_n hC rfl dX10_addToken_5 ?_
    refine gf_10_0 hC ht tw_268 dX10_addToken_6 ?_
    refine gfN_8_2 hC (ok_10_0 ht) tw_109 dX10_addToken_9 ?_
    refine gfN_9_1 hC (ok_8_2 (ok_10_0 ht)) tw_91 dX10_addToken_12 ?_
    refine V_icmp_gt (tgt := 25) hC dX10_addToken_15 (by decide) (fun b7 => ?_) (fun b7 => ?_)
    · replace h := h.1 b7
      refine V_iconst (v := (-1)) hC (by decide) dX10_addToken_25 ?_
      exact V_iret hC h dX10_addToken_26
    · replace h := h.2 b7
      refine V_iload_n hC rfl dX10_addToken_18 ?_
      refine V_scalli (As := [.int x2]) hC (c_SR_isKind X.2.1 g w fu _ x2 M h) mw_X10_isKind (by decide) tw_482 rfl rfl (Nat.le_of_ble_eq_true rfl) ⟨Nat.zero_le _, Nat.zero_le _⟩ dX10_addToken_19 (fun r2 M1 h => ?_)
      obtain ⟨hzr2, h⟩ := h
      refine V_if_ne (tgt := 27) hC dX10_addToken_22 (by decide) (fun b6 => ?_) (fun b6 => ?_)
      · replace h := h.2 b6
        refine V_aload_n hC rfl dX10_addToken_27 ?_
        refine gf_10_0 hC ht tw_268 dX10_addToken_28 ?_
        refine gfN_8_2 hC (ok_10_0 ht) tw_109 dX10_addToken_31 ?_
        refine gfN_9_1 hC (ok_8_2 (ok_10_0 ht)) tw_91 dX10_addToken_34 ?_
        refine V_bipush (v := 12) hC (by decide) dX10_addToken_37 ?_
        refine V_icmp_lt (tgt := 45) hC dX10_addToken_39 (by decide) (fun b5 => ?_) (fun b5 => ?_)
        · replace h := h.1 b5
          refine V_aload_n hC rfl dX10_addToken_45 ?_
          refine V_callv (As := []) hC (c_SR_beginEdit X.2.1 g w fu _ t M1 ht h) mw_X10_beginEdit (by decide) tw_432 ht (by decide) rfl rfl rfl (Nat.le_of_ble_eq_true rfl) ⟨Nat.zero_le _, Nat.zero_le _⟩ dX10_addToken_46 (fun M3 h => ?_)
          refine V_aload_n hC rfl dX10_addToken_49 ?_
          refine gf_10_0 hC ht tw_268 dX10_addToken_50 ?_
          refine gfN_8_2 hC (ok_10_0 ht) tw_109 dX10_addToken_53 ?_
          refine V_iload_n hC rfl dX10_addToken_56 ?_
          refine V_iload_n hC rfl dX10_addToken_57 ?_
          refine V_callv (As := [.int x1, .int x2]) hC (c_To_add X.2.1 g w fu _ (t + 9) x1 x2 M3 (ok_8_2 (ok_10_0 ht)) h) mw_X9_add (by decide) tw_483 (ok_8_2 (ok_10_0 ht)) (by decide) rfl rfl rfl (Nat.le_of_ble_eq_true rfl) ⟨Nat.zero_le _, Nat.zero_le _⟩ dX10_addToken_58 (fun M4 h => ?_)
          refine V_aload_n hC rfl dX10_addToken_61 ?_
          refine gf_10_0 hC ht tw_268 dX10_addToken_62 ?_
          refine gfN_8_2 hC (ok_10_0 ht) tw_109 dX10_addToken_65 ?_
          refine gfN_9_1 hC (ok_8_2 (ok_10_0 ht)) tw_91 dX10_addToken_68 ?_
          exact V_iret hC h dX10_addToken_71
        · replace h := h.2 b5
          refine V_bipush (v := (-3)) hC (by decide) dX10_addToken_42 ?_
          exact V_iret hC h dX10_addToken_44
      · replace h := h.1 b6
        refine V_iconst (v := (-1)) hC (by decide) dX10_addToken_25 ?_
        exact V_iret hC h dX10_addToken_26
def f_SR_appendToken (fu : Nat) (post : Int32 → Mm → Prop) (t : Nat) (x1 : Int32) (M : Mm) : Prop :=
  f_SR_addToken fu (fun r2 M1 => post r2 M1) t (M (t + 9) 1) x1 M
set_option maxRecDepth 100000 in
theorem c_SR_appendToken (l : Launch) (g : GX) (w : WX) (fu : Nat) (post : Int32 → Mm → Prop) (t : Nat) (x1 : Int32) (M : Mm) (ht : ok w t 10) (h : f_SR_appendToken fu post t x1 M) : Met l yX10_appendToken [Cond.code yX10_appendToken cX10_appendToken 2 (some .int)] (rmC 6 0 0) (va_Pc [ob g t, .int x1] (Wb g w M)) (va_Qi post (Wb g w) (Af g)) 0 0 (Af g) := by
  refine Ct_i (by decide) rfl (fun v hv => by simp only [List.mem_cons, List.not_mem_nil, or_false] at hv; rcases hv with rfl | rfl <;> rfl) (Nat.le_of_ble_eq_true rfl) (Nat.le_refl _) ?_
  intro X hX _ hC
  unfold f_SR_appendToken at h
  refine V_sub (us := [some (ob g t), some (.int x1)]) ⟨rfl, rfl, trivial⟩ ?_
  refine V_aload_n hC rfl dX10_appendToken_0 ?_
  refine V_aload_n hC rfl dX10_appendToken_1 ?_
  refine gf_10_0 hC ht tw_268 dX10_appendToken_2 ?_
  refine gfN_8_2 hC (ok_10_0 ht) tw_109 dX10_appendToken_5 ?_
  refine gfN_9_1 hC (ok_8_2 (ok_10_0 ht)) tw_91 dX10_appendToken_8 ?_
  refine V_iload_n hC rfl dX10_appendToken_11 ?_
  refine V_calli (As := [.int (M (t + 9) 1), .int x1]) hC (c_SR_addToken X.2.1 g w fu _ t (M (t + 9) 1) x1 M ht h) mw_X10_addToken (by decide) tw_478 ht (by decide) rfl rfl rfl (Nat.le_of_ble_eq_true rfl) ⟨Nat.zero_le _, Nat.zero_le _⟩ dX10_appendToken_12 (fun r2 M1 h => ?_)
  exact V_iret hC h dX10_appendToken_15
def f_SR_insertToken (fu : Nat) (post : Int32 → Mm → Prop) (t : Nat) (x1 : Int32) (x2 : Int32) (M : Mm) : Prop :=
  f_SR_addToken fu (fun r2 M1 => post r2 M1) t x1 x2 M
set_option maxRecDepth 100000 in
theorem c_SR_insertToken (l : Launch) (g : GX) (w : WX) (fu : Nat) (post : Int32 → Mm → Prop) (t : Nat) (x1 : Int32) (x2 : Int32) (M : Mm) (ht : ok w t 10) (h : f_SR_insertToken fu post t x1 x2 M) : Met l yX10_insertToken [Cond.code yX10_insertToken cX10_insertToken 3 (some .int)] (rmC 6 0 0) (va_Pc [ob g t, .int x1, .int x2] (Wb g w M)) (va_Qi post (Wb g w) (Af g)) 0 0 (Af g) := by
  refine Ct_i (by decide) rfl (fun v hv => by simp only [List.mem_cons, List.not_mem_nil, or_false] at hv; rcases hv with rfl | rfl | rfl <;> rfl) (Nat.le_of_ble_eq_true rfl) (Nat.le_refl _) ?_
  intro X hX _ hC
  unfold f_SR_insertToken at h
  refine V_sub (us := [some (ob g t), some (.int x1), some (.int x2)]) ⟨rfl, rfl, rfl, trivial⟩ ?_
  refine V_aload_n hC rfl dX10_insertToken_0 ?_
  refine V_iload_n hC rfl dX10_insertToken_1 ?_
  refine V_iload_n hC rfl dX10_insertToken_2 ?_
  refine V_calli (As := [.int x1, .int x2]) hC (c_SR_addToken X.2.1 g w fu _ t x1 x2 M ht h) mw_X10_addToken (by decide) tw_478 ht (by decide) rfl rfl rfl (Nat.le_of_ble_eq_true rfl) ⟨Nat.zero_le _, Nat.zero_le _⟩ dX10_insertToken_3 (fun r2 M1 h => ?_)
  exact V_iret hC h dX10_insertToken_6
def f_SR_isToken (fu : Nat) (post : Int32 → Mm → Prop) (t : Nat) (x1 : Int32) (M : Mm) : Prop :=
  ((x1 < 0) → post 0 M) ∧ (¬ (x1 < 0) → (((M (t + 9) 1) ≤ x1) → post 0 M) ∧ (¬ ((M (t + 9) 1) ≤ x1) → post 1 M))
set_option maxRecDepth 100000 in
theorem c_SR_isToken (l : Launch) (g : GX) (w : WX) (fu : Nat) (post : Int32 → Mm → Prop) (t : Nat) (x1 : Int32) (M : Mm) (ht : ok w t 10) (h : f_SR_isToken fu post t x1 M) : Met l yX10_isToken [Cond.code yX10_isToken cX10_isToken 2 (some .boolean)] (rmC 0 0 0) (va_Pc [ob g t, .int x1] (Wb g w M)) (va_Qi (fun r M => zb r ∧ post r M) (Wb g w) (Af g)) 0 0 (Af g) := by
  refine Ct_i (by decide) rfl (fun v hv => by simp only [List.mem_cons, List.not_mem_nil, or_false] at hv; rcases hv with rfl | rfl <;> rfl) (Nat.le_of_ble_eq_true rfl) (Nat.le_refl _) ?_
  intro X hX _ hC
  unfold f_SR_isToken at h
  refine V_sub (us := [some (ob g t), some (.int x1)]) ⟨rfl, rfl, trivial⟩ ?_
  refine V_iload_n hC rfl dX10_isToken_0 ?_
  refine V_if_lt (tgt := 22) hC dX10_isToken_1 (by decide) (fun b2 => ?_) (fun b2 => ?_)
  · replace h := h.1 b2
    refine V_iconst (v := 0) hC (by decide) dX10_isToken_22 ?_
    exact V_zret hC (Or.inl rfl) h dX10_isToken_23
  · replace h := h.2 b2
    refine V_iload_n hC rfl dX10_isToken_4 ?_
    refine V_aload_n hC rfl dX10_isToken_5 ?_
    refine gf_10_0 hC ht tw_268 dX10_isToken_6 ?_
    refine gfN_8_2 hC (ok_10_0 ht) tw_109 dX10_isToken_9 ?_
    refine gfN_9_1 hC (ok_8_2 (ok_10_0 ht)) tw_91 dX10_isToken_12 ?_
    refine V_icmp_ge (tgt := 22) hC dX10_isToken_15 (by decide) (fun b1 => ?_) (fun b1 => ?_)
    · replace h := h.1 b1
      refine V_iconst (v := 0) hC (by decide) dX10_isToken_22 ?_
      exact V_zret hC (Or.inl rfl) h dX10_isToken_23
    · replace h := h.2 b1
      refine V_iconst (v := 1) hC (by decide) dX10_isToken_18 ?_
      refine V_goto (tgt := 23) hC (by decide) dX10_isToken_19 ?_
      exact V_zret hC (Or.inr rfl) h dX10_isToken_23
def f_To_kindAt (fu : Nat) (post : Int32 → Mm → Prop) (t : Nat) (x1 : Int32) (M : Mm) : Prop :=
  ((x1 < 0) → post (-1) M) ∧ (¬ (x1 < 0) → (((M t 1) ≤ x1) → post (-1) M) ∧ (¬ ((M t 1) ≤ x1) → (((nI (ln (t + 1))) ≤ x1) → post (-1) M) ∧ (¬ ((nI (ln (t + 1))) ≤ x1) → vp_in x1 (ln (t + 1)) ∧ post (M (t + 1) x1.toNatClampNeg) M)))
set_option maxRecDepth 100000 in
theorem c_To_kindAt (l : Launch) (g : GX) (w : WX) (fu : Nat) (post : Int32 → Mm → Prop) (t : Nat) (x1 : Int32) (M : Mm) (ht : ok w t 9) (h : f_To_kindAt fu post t x1 M) : Met l yX9_kindAt [Cond.code yX9_kindAt cX9_kindAt 2 (some .int)] (rmC 0 0 0) (va_Pc [ob g t, .int x1] (Wb g w M)) (va_Qi post (Wb g w) (Af g)) 0 0 (Af g) := by
  refine Ct_i (by decide) rfl (fun v hv => by simp only [List.mem_cons, List.not_mem_nil, or_false] at hv; rcases hv with rfl | rfl <;> rfl) (Nat.le_of_ble_eq_true rfl) (Nat.le_refl _) ?_
  intro X hX _ hC
  unfold f_To_kindAt at h
  refine V_sub (us := [some (ob g t), some (.int x1)]) ⟨rfl, rfl, trivial⟩ ?_
  refine V_iload_n hC rfl dX9_kindAt_0 ?_
  refine V_if_lt (tgt := 30) hC dX9_kindAt_1 (by decide) (fun b4 => ?_) (fun b4 => ?_)
  · replace h := h.1 b4
    refine V_iconst (v := (-1)) hC (by decide) dX9_kindAt_30 ?_
    exact V_iret hC h dX9_kindAt_31
  · replace h := h.2 b4
    refine V_iload_n hC rfl dX9_kindAt_4 ?_
    refine V_aload_n hC rfl dX9_kindAt_5 ?_
    refine gf_9_1 hC ht tw_88 dX9_kindAt_6 ?_
    refine V_icmp_ge (tgt := 30) hC dX9_kindAt_9 (by decide) (fun b3 => ?_) (fun b3 => ?_)
    · replace h := h.1 b3
      refine V_iconst (v := (-1)) hC (by decide) dX9_kindAt_30 ?_
      exact V_iret hC h dX9_kindAt_31
    · replace h := h.2 b3
      refine V_iload_n hC rfl dX9_kindAt_12 ?_
      refine V_aload_n hC rfl dX9_kindAt_13 ?_
      refine gf_9_0 hC ht tw_87 dX9_kindAt_14 ?_
      refine V_alen hC (ok_9_0 ht) rfl dX9_kindAt_17 ?_
      refine V_icmp_ge (tgt := 30) hC dX9_kindAt_18 (by decide) (fun b2 => ?_) (fun b2 => ?_)
      · replace h := h.1 b2
        refine V_iconst (v := (-1)) hC (by decide) dX9_kindAt_30 ?_
        exact V_iret hC h dX9_kindAt_31
      · replace h := h.2 b2
        refine V_aload_n hC rfl dX9_kindAt_21 ?_
        refine gf_9_0 hC ht tw_87 dX9_kindAt_22 ?_
        refine V_iload_n hC rfl dX9_kindAt_25 ?_
        obtain ⟨q1, h⟩ := h
        refine V_iald hC (ok_9_0 ht) q1 dX9_kindAt_26 ?_
        refine V_goto (tgt := 31) hC (by decide) dX9_kindAt_27 ?_
        exact V_iret hC h dX9_kindAt_31
def f_To_remove_8 (fu : Nat) (post : Int32 → Mm → Prop) : Nat → Nat → Int32 → Int32 → Mm → Prop
  | 0, _, _, _, _ => False
  | kf + 1, t, x2, x3, M =>
    ((((M t 1) - 1) ≤ x3) → ∀ M1, M1 = up M t 1 ((M t 1) - 1) → post x2 M1) ∧ (¬ (((M t 1) - 1) ≤ x3) → f_SR_at fu (fun r3 M2 => f_SR_put fu (fun M4 => ∀ y5, y5 = x3 + 1 → f_To_remove_8 fu post kf t x2 y5 M4) (t + 1) x3 r3 M2) (t + 1) (x3 + 1) M)
def f_To_remove (fu : Nat) (post : Int32 → Mm → Prop) (t : Nat) (x1 : Int32) (M : Mm) : Prop :=
  f_To_kindAt fu (fun r2 M1 => f_To_remove_8 fu post fu t r2 x1 M1) t x1 M
set_option maxRecDepth 100000 in
theorem l_To_remove_8 {l : Launch} {X : CX} {g : GX} {w : WX} {fu : Nat} {post : Int32 → Mm → Prop} (hX : X.2.1 = l) (hC : Cx X g cX9_remove 4 RX9 (some .int) 1) : ∀ (kf : Nat) (t : Nat) (x2 : Int32) (x3 : Int32) (M : Mm) (ht : ok w t 9) (h : f_To_remove_8 fu post kf t x2 x3 M), V X g w 4 0 0 (QI X g w post 0 0) 8 [some (ob g t), none, some (.int x2), some (.int x3)] [] M := by
  intro kf
  induction kf with
  | zero => intro t x2 x3 M ht h; exact absurd h id
  | succ kf ih =>
    intro t x2 x3 M ht h
    rw [f_To_remove_8] at h
    refine V_iload_n hC rfl dX9_remove_8 ?_
    refine V_aload_n hC rfl dX9_remove_9 ?_
    refine gf_9_1 hC ht tw_88 dX9_remove_10 ?_
    refine V_iconst (v := 1) hC (by decide) dX9_remove_13 ?_
    refine V_isub hC dX9_remove_14 ?_
    refine V_icmp_ge (tgt := 42) hC dX9_remove_15 (by decide) (fun b6 => ?_) (fun b6 => ?_)
    · replace h := h.1 b6
      refine V_aload_n hC rfl dX9_remove_42 ?_
      refine V_dup hC rfl dX9_remove_43 ?_
      refine gf_9_1 hC ht tw_88 dX9_remove_44 ?_
      refine V_iconst (v := 1) hC (by decide) dX9_remove_47 ?_
      refine V_isub hC dX9_remove_48 ?_
      refine pf_9_1 hC ht tw_88 dX9_remove_49 ?_
      obtain ⟨M1, eM1⟩ : ∃ z, z = up M t 1 ((M t 1) - 1) := ⟨_, rfl⟩
      replace h := h M1 eM1
      refine V_mem eM1 ?_
      refine V_iload_n hC rfl dX9_remove_52 ?_
      exact V_iret hC h dX9_remove_53
    · replace h := h.2 b6
      refine V_aload_n hC rfl dX9_remove_18 ?_
      refine gf_9_0 hC ht tw_87 dX9_remove_19 ?_
      refine V_iload_n hC rfl dX9_remove_22 ?_
      refine V_aload_n hC rfl dX9_remove_23 ?_
      refine gf_9_0 hC ht tw_87 dX9_remove_24 ?_
      refine V_iload_n hC rfl dX9_remove_27 ?_
      refine V_iconst (v := 1) hC (by decide) dX9_remove_28 ?_
      refine V_iadd hC dX9_remove_29 ?_
      refine V_scalliN (As := [ob g (t + 1), .int (x3 + 1)]) hC (c_SR_at X.2.1 g w fu _ (t + 1) (x3 + 1) M (ok_9_0 ht) h) mw_X10_at (by decide) tw_487 rfl rfl (Nat.le_of_ble_eq_true rfl) ⟨Nat.zero_le _, Nat.zero_le _⟩ dX9_remove_30 (fun r3 M2 h => ?_)
      refine V_scallvN (As := [ob g (t + 1), .int x3, .int r3]) hC (c_SR_put X.2.1 g w fu _ (t + 1) x3 r3 M2 (ok_9_0 ht) h) mw_X10_put (by decide) tw_488 rfl rfl (Nat.le_of_ble_eq_true rfl) ⟨Nat.zero_le _, Nat.zero_le _⟩ dX9_remove_33 (fun M4 h => ?_)
      obtain ⟨y5, ey5⟩ : ∃ z, z = x3 + 1 := ⟨_, rfl⟩
      replace h := h y5 ey5
      refine V_iinc (v := y5) hC rfl (by rw [ey5]; rfl) (by decide) dX9_remove_36 ?_
      refine V_goto (tgt := 8) hC (by decide) dX9_remove_39 ?_
      refine V_sub (us := [some (ob g t), none, some (.int x2), some (.int y5)]) ⟨rfl, rfl, rfl, trivial⟩ ?_
      exact ih t x2 y5 M4 ht h
set_option maxRecDepth 100000 in
theorem c_To_remove (l : Launch) (g : GX) (w : WX) (fu : Nat) (post : Int32 → Mm → Prop) (t : Nat) (x1 : Int32) (M : Mm) (ht : ok w t 9) (h : f_To_remove fu post t x1 M) : Met l yX9_remove [Cond.code yX9_remove cX9_remove 4 (some .int)] (rmC 1 0 0) (va_Pc [ob g t, .int x1] (Wb g w M)) (va_Qi post (Wb g w) (Af g)) 0 0 (Af g) := by
  refine Ct_i (by decide) rfl (fun v hv => by simp only [List.mem_cons, List.not_mem_nil, or_false] at hv; rcases hv with rfl | rfl <;> rfl) (Nat.le_of_ble_eq_true rfl) (Nat.le_refl _) ?_
  intro X hX _ hC
  unfold f_To_remove at h
  refine V_sub (us := [some (ob g t), some (.int x1), none, none]) ⟨rfl, rfl, trivial⟩ ?_
  refine V_aload_n hC rfl dX9_remove_0 ?_
  refine V_iload_n hC rfl dX9_remove_1 ?_
  refine V_calli (As := [.int x1]) hC (c_To_kindAt X.2.1 g w fu _ t x1 M ht h) mw_X9_kindAt (by decide) tw_505 ht (by decide) rfl rfl rfl (Nat.le_of_ble_eq_true rfl) ⟨Nat.zero_le _, Nat.zero_le _⟩ dX9_remove_2 (fun r2 M1 h => ?_)
  refine V_istore_n hC (by decide) dX9_remove_5 ?_
  refine V_iload_n hC rfl dX9_remove_6 ?_
  refine V_istore_n hC (by decide) dX9_remove_7 ?_
  refine V_sub (us := [some (ob g t), none, some (.int r2), some (.int x1)]) ⟨rfl, rfl, rfl, trivial⟩ ?_
  exact l_To_remove_8 hX hC fu t r2 x1 M1 ht h
def f_SR_removeToken (fu : Nat) (post : Int32 → Mm → Prop) (t : Nat) (x1 : Int32) (M : Mm) : Prop :=
  f_SR_isToken fu (fun r2 M1 => ((r2 = 0) → post (-1) M1) ∧ (¬ (r2 = 0) → f_SR_beginEdit fu (fun M3 => f_To_remove fu (fun r5 M4 => post r5 M4) (t + 9) x1 M3) t M1)) t x1 M
set_option maxRecDepth 100000 in
theorem c_SR_removeToken (l : Launch) (g : GX) (w : WX) (fu : Nat) (post : Int32 → Mm → Prop) (t : Nat) (x1 : Int32) (M : Mm) (ht : ok w t 10) (h : f_SR_removeToken fu post t x1 M) : Met l yX10_removeToken [Cond.code yX10_removeToken cX10_removeToken 2 (some .int)] (rmC 5 0 0) (va_Pc [ob g t, .int x1] (Wb g w M)) (va_Qi post (Wb g w) (Af g)) 0 0 (Af g) := by
  refine Ct_i (by decide) rfl (fun v hv => by simp only [List.mem_cons, List.not_mem_nil, or_false] at hv; rcases hv with rfl | rfl <;> rfl) (Nat.le_of_ble_eq_true rfl) (Nat.le_refl _) ?_
  intro X hX _ hC
  unfold f_SR_removeToken at h
  refine V_sub (us := [some (ob g t), some (.int x1)]) ⟨rfl, rfl, trivial⟩ ?_
  refine V_aload_n hC rfl dX10_removeToken_0 ?_
  refine V_iload_n hC rfl dX10_removeToken_1 ?_
  refine V_calli (As := [.int x1]) hC (c_SR_isToken X.2.1 g w fu _ t x1 M ht h) mw_X10_isToken (by decide) tw_497 ht (by decide) rfl rfl rfl (Nat.le_of_ble_eq_true rfl) ⟨Nat.zero_le _, Nat.zero_le _⟩ dX10_removeToken_2 (fun r2 M1 h => ?_)
  obtain ⟨hzr2, h⟩ := h
  refine V_if_ne (tgt := 10) hC dX10_removeToken_5 (by decide) (fun b6 => ?_) (fun b6 => ?_)
  · replace h := h.2 b6
    refine V_aload_n hC rfl dX10_removeToken_10 ?_
    refine V_callv (As := []) hC (c_SR_beginEdit X.2.1 g w fu _ t M1 ht h) mw_X10_beginEdit (by decide) tw_432 ht (by decide) rfl rfl rfl (Nat.le_of_ble_eq_true rfl) ⟨Nat.zero_le _, Nat.zero_le _⟩ dX10_removeToken_11 (fun M3 h => ?_)
    refine V_aload_n hC rfl dX10_removeToken_14 ?_
    refine gf_10_0 hC ht tw_268 dX10_removeToken_15 ?_
    refine gfN_8_2 hC (ok_10_0 ht) tw_109 dX10_removeToken_18 ?_
    refine V_iload_n hC rfl dX10_removeToken_21 ?_
    refine V_calli (As := [.int x1]) hC (c_To_remove X.2.1 g w fu _ (t + 9) x1 M3 (ok_8_2 (ok_10_0 ht)) h) mw_X9_remove (by decide) tw_501 (ok_8_2 (ok_10_0 ht)) (by decide) rfl rfl rfl (Nat.le_of_ble_eq_true rfl) ⟨Nat.zero_le _, Nat.zero_le _⟩ dX10_removeToken_22 (fun r5 M4 h => ?_)
    exact V_iret hC h dX10_removeToken_25
  · replace h := h.1 b6
    refine V_iconst (v := (-1)) hC (by decide) dX10_removeToken_8 ?_
    exact V_iret hC h dX10_removeToken_9
def f_SR_clearTokens (fu : Nat) (post : Int32 → Mm → Prop) (t : Nat) (M : Mm) : Prop :=
  ∀ y1, y1 = (M (t + 9) 1) → ((y1 = 0) → post (-2) M) ∧ (¬ (y1 = 0) → f_SR_beginEdit fu (fun M2 => ∀ M3, M3 = up M2 (t + 9) 1 0 → post y1 M3) t M)
set_option maxRecDepth 100000 in
theorem c_SR_clearTokens (l : Launch) (g : GX) (w : WX) (fu : Nat) (post : Int32 → Mm → Prop) (t : Nat) (M : Mm) (ht : ok w t 10) (h : f_SR_clearTokens fu post t M) : Met l yX10_clearTokens [Cond.code yX10_clearTokens cX10_clearTokens 2 (some .int)] (rmC 5 0 0) (va_Pc [ob g t] (Wb g w M)) (va_Qi post (Wb g w) (Af g)) 0 0 (Af g) := by
  refine Ct_i (by decide) rfl (fun v hv => by simp only [List.mem_cons, List.not_mem_nil, or_false] at hv; rcases hv with rfl <;> rfl) (Nat.le_of_ble_eq_true rfl) (Nat.le_refl _) ?_
  intro X hX _ hC
  unfold f_SR_clearTokens at h
  refine V_sub (us := [some (ob g t), none]) ⟨rfl, trivial⟩ ?_
  refine V_aload_n hC rfl dX10_clearTokens_0 ?_
  refine gf_10_0 hC ht tw_268 dX10_clearTokens_1 ?_
  refine gfN_8_2 hC (ok_10_0 ht) tw_109 dX10_clearTokens_4 ?_
  refine gfN_9_1 hC (ok_8_2 (ok_10_0 ht)) tw_91 dX10_clearTokens_7 ?_
  refine V_topi (fun y1 ey1 => ?_)
  replace h := h y1 ey1
  refine V_istore_n hC (by decide) dX10_clearTokens_10 ?_
  refine V_iload_n hC rfl dX10_clearTokens_11 ?_
  refine V_if_ne (tgt := 18) hC dX10_clearTokens_12 (by decide) (fun b4 => ?_) (fun b4 => ?_)
  · replace h := h.2 b4
    refine V_aload_n hC rfl dX10_clearTokens_18 ?_
    refine V_callv (As := []) hC (c_SR_beginEdit X.2.1 g w fu _ t M ht h) mw_X10_beginEdit (by decide) tw_432 ht (by decide) rfl rfl rfl (Nat.le_of_ble_eq_true rfl) ⟨Nat.zero_le _, Nat.zero_le _⟩ dX10_clearTokens_19 (fun M2 h => ?_)
    refine V_aload_n hC rfl dX10_clearTokens_22 ?_
    refine gf_10_0 hC ht tw_268 dX10_clearTokens_23 ?_
    refine gfN_8_2 hC (ok_10_0 ht) tw_109 dX10_clearTokens_26 ?_
    refine V_iconst (v := 0) hC (by decide) dX10_clearTokens_29 ?_
    refine pfN_9_1 hC (ok_8_2 (ok_10_0 ht)) tw_91 dX10_clearTokens_30 ?_
    obtain ⟨M3, eM3⟩ : ∃ z, z = up M2 (t + 9) 1 0 := ⟨_, rfl⟩
    replace h := h M3 eM3
    refine V_mem eM3 ?_
    refine V_iload_n hC rfl dX10_clearTokens_33 ?_
    exact V_iret hC h dX10_clearTokens_34
  · replace h := h.1 b4
    refine V_bipush (v := (-2)) hC (by decide) dX10_clearTokens_15 ?_
    exact V_iret hC h dX10_clearTokens_17
def f_Co_of (fu : Nat) (post : Int32 → Mm → Prop) (t : Nat) (x1 : Int32) (x2 : Int32) (M : Mm) : Prop :=
  f_SR_at fu (fun r2 M1 => post r2 M1) (t + 1) ((x1 * 6) + x2) M
set_option maxRecDepth 100000 in
theorem c_Co_of (l : Launch) (g : GX) (w : WX) (fu : Nat) (post : Int32 → Mm → Prop) (t : Nat) (x1 : Int32) (x2 : Int32) (M : Mm) (ht : ok w t 1) (h : f_Co_of fu post t x1 x2 M) : Met l yX1_of [Cond.code yX1_of cX1_of 3 (some .int)] (rmC 1 0 0) (va_Pc [ob g t, .int x1, .int x2] (Wb g w M)) (va_Qi post (Wb g w) (Af g)) 0 0 (Af g) := by
  refine Ct_i (by decide) rfl (fun v hv => by simp only [List.mem_cons, List.not_mem_nil, or_false] at hv; rcases hv with rfl | rfl | rfl <;> rfl) (Nat.le_of_ble_eq_true rfl) (Nat.le_refl _) ?_
  intro X hX _ hC
  unfold f_Co_of at h
  refine V_sub (us := [some (ob g t), some (.int x1), some (.int x2)]) ⟨rfl, rfl, rfl, trivial⟩ ?_
  refine V_aload_n hC rfl dX1_of_0 ?_
  refine gf_1_0 hC ht tw_77 dX1_of_1 ?_
  refine V_iload_n hC rfl dX1_of_4 ?_
  refine V_bipush (v := 6) hC (by decide) dX1_of_5 ?_
  refine V_imul hC dX1_of_7 ?_
  refine V_iload_n hC rfl dX1_of_8 ?_
  refine V_iadd hC dX1_of_9 ?_
  refine V_scalliN (As := [ob g (t + 1), .int ((x1 * 6) + x2)]) hC (c_SR_at X.2.1 g w fu _ (t + 1) ((x1 * 6) + x2) M (ok_1_0 ht) h) mw_X10_at (by decide) tw_525 rfl rfl (Nat.le_of_ble_eq_true rfl) ⟨Nat.zero_le _, Nat.zero_le _⟩ dX1_of_10 (fun r2 M1 h => ?_)
  exact V_iret hC h dX1_of_13
def f_SR_changeCost (fu : Nat) (post : Int32 → Mm → Prop) (t : Nat) (x1 : Int32) (x2 : Int32) (x3 : Int32) (M : Mm) : Prop :=
  f_SR_isKind fu (fun r2 M1 => ((r2 = 0) → post (-1) M1) ∧ (¬ (r2 = 0) → ((x3 < 1) → post (-1) M1) ∧ (¬ (x3 < 1) → ((x3 ≤ 9) → f_Co_of fu (fun r4 M3 => f_SR_beginEdit fu (fun M5 => f_Co_change fu (fun M6 => post r4 M6) (t + 7) x1 x2 x3 M5) t M3) (t + 7) x1 x2 M1) ∧ (¬ (x3 ≤ 9) → post (-1) M1)))) x2 M
set_option maxRecDepth 100000 in
theorem c_SR_changeCost (l : Launch) (g : GX) (w : WX) (fu : Nat) (post : Int32 → Mm → Prop) (t : Nat) (x1 : Int32) (x2 : Int32) (x3 : Int32) (M : Mm) (ht : ok w t 10) (h : f_SR_changeCost fu post t x1 x2 x3 M) : Met l yX10_changeCost [Cond.code yX10_changeCost cX10_changeCost 5 (some .int)] (rmC 5 0 0) (va_Pc [ob g t, .int x1, .int x2, .int x3] (Wb g w M)) (va_Qi post (Wb g w) (Af g)) 0 0 (Af g) := by
  refine Ct_i (by decide) rfl (fun v hv => by simp only [List.mem_cons, List.not_mem_nil, or_false] at hv; rcases hv with rfl | rfl | rfl | rfl <;> rfl) (Nat.le_of_ble_eq_true rfl) (Nat.le_refl _) ?_
  intro X hX _ hC
  unfold f_SR_changeCost at h
  refine V_sub (us := [some (ob g t), some (.int x1), some (.int x2), some (.int x3), none]) ⟨rfl, rfl, rfl, rfl, trivial⟩ ?_
  refine V_iload_n hC rfl dX10_changeCost_0 ?_
  refine V_scalli (As := [.int x2]) hC (c_SR_isKind X.2.1 g w fu _ x2 M h) mw_X10_isKind (by decide) tw_482 rfl rfl (Nat.le_of_ble_eq_true rfl) ⟨Nat.zero_le _, Nat.zero_le _⟩ dX10_changeCost_1 (fun r2 M1 h => ?_)
  obtain ⟨hzr2, h⟩ := h
  refine V_if_eq (tgt := 18) hC dX10_changeCost_4 (by decide) (fun b9 => ?_) (fun b9 => ?_)
  · replace h := h.1 b9
    refine V_iconst (v := (-1)) hC (by decide) dX10_changeCost_18 ?_
    exact V_iret hC h dX10_changeCost_19
  · replace h := h.2 b9
    refine V_iload_n hC rfl dX10_changeCost_7 ?_
    refine V_iconst (v := 1) hC (by decide) dX10_changeCost_8 ?_
    refine V_icmp_lt (tgt := 18) hC dX10_changeCost_9 (by decide) (fun b8 => ?_) (fun b8 => ?_)
    · replace h := h.1 b8
      refine V_iconst (v := (-1)) hC (by decide) dX10_changeCost_18 ?_
      exact V_iret hC h dX10_changeCost_19
    · replace h := h.2 b8
      refine V_iload_n hC rfl dX10_changeCost_12 ?_
      refine V_bipush (v := 9) hC (by decide) dX10_changeCost_13 ?_
      refine V_icmp_le (tgt := 20) hC dX10_changeCost_15 (by decide) (fun b7 => ?_) (fun b7 => ?_)
      · replace h := h.1 b7
        refine V_aload_n hC rfl dX10_changeCost_20 ?_
        refine gf_10_0 hC ht tw_268 dX10_changeCost_21 ?_
        refine gfN_8_1 hC (ok_10_0 ht) tw_106 dX10_changeCost_24 ?_
        refine V_iload_n hC rfl dX10_changeCost_27 ?_
        refine V_iload_n hC rfl dX10_changeCost_28 ?_
        refine V_calli (As := [.int x1, .int x2]) hC (c_Co_of X.2.1 g w fu _ (t + 7) x1 x2 M1 (ok_8_1 (ok_10_0 ht)) h) mw_X1_of (by decide) tw_521 (ok_8_1 (ok_10_0 ht)) (by decide) rfl rfl rfl (Nat.le_of_ble_eq_true rfl) ⟨Nat.zero_le _, Nat.zero_le _⟩ dX10_changeCost_29 (fun r4 M3 h => ?_)
        refine V_istore hC (by decide) dX10_changeCost_32 ?_
        refine V_aload_n hC rfl dX10_changeCost_34 ?_
        refine V_callv (As := []) hC (c_SR_beginEdit X.2.1 g w fu _ t M3 ht h) mw_X10_beginEdit (by decide) tw_432 ht (by decide) rfl rfl rfl (Nat.le_of_ble_eq_true rfl) ⟨Nat.zero_le _, Nat.zero_le _⟩ dX10_changeCost_35 (fun M5 h => ?_)
        refine V_aload_n hC rfl dX10_changeCost_38 ?_
        refine gf_10_0 hC ht tw_268 dX10_changeCost_39 ?_
        refine gfN_8_1 hC (ok_10_0 ht) tw_106 dX10_changeCost_42 ?_
        refine V_iload_n hC rfl dX10_changeCost_45 ?_
        refine V_iload_n hC rfl dX10_changeCost_46 ?_
        refine V_iload_n hC rfl dX10_changeCost_47 ?_
        refine V_callv (As := [.int x1, .int x2, .int x3]) hC (c_Co_change X.2.1 g w fu _ (t + 7) x1 x2 x3 M5 (ok_8_1 (ok_10_0 ht)) h) mw_X1_change (by decide) tw_526 (ok_8_1 (ok_10_0 ht)) (by decide) rfl rfl rfl (Nat.le_of_ble_eq_true rfl) ⟨Nat.zero_le _, Nat.zero_le _⟩ dX10_changeCost_48 (fun M6 h => ?_)
        refine V_iload hC rfl dX10_changeCost_51 ?_
        exact V_iret hC h dX10_changeCost_53
      · replace h := h.2 b7
        refine V_iconst (v := (-1)) hC (by decide) dX10_changeCost_18 ?_
        exact V_iret hC h dX10_changeCost_19
