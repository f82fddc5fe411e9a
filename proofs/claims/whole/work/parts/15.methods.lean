def f_Md_followLocal_9 (fu : Nat) (post : Int32 → Mm → Prop) (K2 : Nat → Int32 → Int32 → Mm → Prop) : Nat → Nat → Int32 → Int32 → Int32 → Mm → Prop
  | 0, _, _, _, _, _ => False
  | kf + 1, t, x1, x2, x3, M =>
    ((6 ≤ x3) → ∀ y1, y1 = x2 + 1 → K2 t x1 y1 M) ∧ (¬ (6 ≤ x3) → f_Md_localBy fu (fun r3 M2 => vp_in x1 (ln (t + 10)) ∧ ((r3 = (M2 (t + 10) x1.toNatClampNeg)) → f_Md_append fu (fun M6 => f_Md_edge fu (fun r8 M7 => post r8 M7) t x1 x2 x3 M6) t x2 x3 M2) ∧ (¬ (r3 = (M2 (t + 10) x1.toNatClampNeg)) → ∀ y5, y5 = x3 + 1 → f_Md_followLocal_9 fu post K2 kf t x1 x2 y5 M2)) t x1 x2 x3 M)
def f_Md_followLocal_2 (fu : Nat) (post : Int32 → Mm → Prop) : Nat → Nat → Int32 → Int32 → Mm → Prop
  | 0, _, _, _, _ => False
  | kf + 1, t, x1, x2, M =>
    ((3 < x2) → post (-9) M) ∧ (¬ (3 < x2) → f_Md_followLocal_9 fu post (f_Md_followLocal_2 fu post kf) fu t x1 x2 0 M)
def f_Md_followLocal (fu : Nat) (post : Int32 → Mm → Prop) (t : Nat) (x1 : Int32) (M : Mm) : Prop :=
  f_Md_followLocal_2 fu post fu t x1 1 M
set_option maxRecDepth 100000 in
theorem l_Md_followLocal_9 {l : Launch} {X : CX} {g : GX} {w : WX} {fu : Nat} {post : Int32 → Mm → Prop} (hX : X.2.1 = l) (hC : Cx X g cX11_followLocal 4 RX11 (some .int) 3) {K2 : Nat → Int32 → Int32 → Mm → Prop} (hK2 : ∀ (t : Nat) (x1 : Int32) (x2 : Int32) (M : Mm), ok w t 11 → K2 t x1 x2 M → V X g w 4 0 0 (QI X g w post 0 0) 2 [some (ob g t), some (.int x1), some (.int x2), none] [] M) : ∀ (kf : Nat) (t : Nat) (x1 : Int32) (x2 : Int32) (x3 : Int32) (M : Mm) (ht : ok w t 11) (h : f_Md_followLocal_9 fu post K2 kf t x1 x2 x3 M), V X g w 4 0 0 (QI X g w post 0 0) 9 [some (ob g t), some (.int x1), some (.int x2), some (.int x3)] [] M := by
  intro kf
  induction kf with
  | zero => intro t x1 x2 x3 M ht h; exact absurd h id
  | succ kf ih =>
    intro t x1 x2 x3 M ht h
    rw [f_Md_followLocal_9] at h
    refine V_iload_n hC rfl dX11_followLocal_9 ?_
    refine V_bipush (v := 6) hC (by decide) dX11_followLocal_10 ?_
    refine V_icmp_ge (tgt := 51) hC dX11_followLocal_12 (by decide) (fun b10 => ?_) (fun b10 => ?_)
    · replace h := h.1 b10
      obtain ⟨y1, ey1⟩ : ∃ z, z = x2 + 1 := ⟨_, rfl⟩
      replace h := h y1 ey1
      refine V_iinc (v := y1) hC rfl (by rw [ey1]; rfl) (by decide) dX11_followLocal_51 ?_
      refine V_goto (tgt := 2) hC (by decide) dX11_followLocal_54 ?_
      refine V_sub (us := [some (ob g t), some (.int x1), some (.int y1), none]) ⟨rfl, rfl, rfl, trivial⟩ ?_
      exact hK2 t x1 y1 M ht h
    · replace h := h.2 b10
      refine V_aload_n hC rfl dX11_followLocal_15 ?_
      refine V_iload_n hC rfl dX11_followLocal_16 ?_
      refine V_iload_n hC rfl dX11_followLocal_17 ?_
      refine V_iload_n hC rfl dX11_followLocal_18 ?_
      refine V_calli (As := [.int x1, .int x2, .int x3]) hC (c_Md_localBy X.2.1 g w fu _ t x1 x2 x3 M ht h) mw_X11_localBy (by decide) tw_1168 ht (by decide) rfl rfl rfl (Nat.le_of_ble_eq_true rfl) ⟨Nat.zero_le _, Nat.zero_le _⟩ dX11_followLocal_19 (fun r3 M2 h => ?_)
      refine V_aload_n hC rfl dX11_followLocal_22 ?_
      refine gf_11_23 hC ht tw_840 dX11_followLocal_23 ?_
      refine V_iload_n hC rfl dX11_followLocal_26 ?_
      obtain ⟨q4, h⟩ := h
      refine V_iald hC (ok_11_23 ht) q4 dX11_followLocal_27 ?_
      refine V_icmp_ne (tgt := 45) hC dX11_followLocal_28 (by decide) (fun b9 => ?_) (fun b9 => ?_)
      · replace h := h.2 b9
        obtain ⟨y5, ey5⟩ : ∃ z, z = x3 + 1 := ⟨_, rfl⟩
        replace h := h y5 ey5
        refine V_iinc (v := y5) hC rfl (by rw [ey5]; rfl) (by decide) dX11_followLocal_45 ?_
        refine V_goto (tgt := 9) hC (by decide) dX11_followLocal_48 ?_
        refine V_sub (us := [some (ob g t), some (.int x1), some (.int x2), some (.int y5)]) ⟨rfl, rfl, rfl, rfl, trivial⟩ ?_
        exact ih t x1 x2 y5 M2 ht h
      · replace h := h.1 b9
        refine V_aload_n hC rfl dX11_followLocal_31 ?_
        refine V_iload_n hC rfl dX11_followLocal_32 ?_
        refine V_iload_n hC rfl dX11_followLocal_33 ?_
        refine V_callv (As := [.int x2, .int x3]) hC (c_Md_append X.2.1 g w fu _ t x2 x3 M2 ht h) mw_X11_append (by decide) tw_1124 ht (by decide) rfl rfl rfl (Nat.le_of_ble_eq_true rfl) ⟨Nat.zero_le _, Nat.zero_le _⟩ dX11_followLocal_34 (fun M6 h => ?_)
        refine V_aload_n hC rfl dX11_followLocal_37 ?_
        refine V_iload_n hC rfl dX11_followLocal_38 ?_
        refine V_iload_n hC rfl dX11_followLocal_39 ?_
        refine V_iload_n hC rfl dX11_followLocal_40 ?_
        refine V_calli (As := [.int x1, .int x2, .int x3]) hC (c_Md_edge X.2.1 g w fu _ t x1 x2 x3 M6 ht h) mw_X11_edge (by decide) tw_1084 ht (by decide) rfl rfl rfl (Nat.le_of_ble_eq_true rfl) ⟨Nat.zero_le _, Nat.zero_le _⟩ dX11_followLocal_41 (fun r8 M7 h => ?_)
        exact V_iret hC h dX11_followLocal_44
set_option maxRecDepth 100000 in
theorem l_Md_followLocal_2 {l : Launch} {X : CX} {g : GX} {w : WX} {fu : Nat} {post : Int32 → Mm → Prop} (hX : X.2.1 = l) (hC : Cx X g cX11_followLocal 4 RX11 (some .int) 3) : ∀ (kf : Nat) (t : Nat) (x1 : Int32) (x2 : Int32) (M : Mm) (ht : ok w t 11) (h : f_Md_followLocal_2 fu post kf t x1 x2 M), V X g w 4 0 0 (QI X g w post 0 0) 2 [some (ob g t), some (.int x1), some (.int x2), none] [] M := by
  intro kf
  induction kf with
  | zero => intro t x1 x2 M ht h; exact absurd h id
  | succ kf ih =>
    intro t x1 x2 M ht h
    rw [f_Md_followLocal_2] at h
    refine V_iload_n hC rfl dX11_followLocal_2 ?_
    refine V_iconst (v := 3) hC (by decide) dX11_followLocal_3 ?_
    refine V_icmp_gt (tgt := 57) hC dX11_followLocal_4 (by decide) (fun b1 => ?_) (fun b1 => ?_)
    · replace h := h.1 b1
      refine V_bipush (v := (-9)) hC (by decide) dX11_followLocal_57 ?_
      exact V_iret hC h dX11_followLocal_59
    · replace h := h.2 b1
      refine V_iconst (v := 0) hC (by decide) dX11_followLocal_7 ?_
      refine V_istore_n hC (by decide) dX11_followLocal_8 ?_
      refine V_sub (us := [some (ob g t), some (.int x1), some (.int x2), some (.int 0)]) ⟨rfl, rfl, rfl, rfl, trivial⟩ ?_
      exact l_Md_followLocal_9 hX hC ih fu t x1 x2 0 M ht h
set_option maxRecDepth 100000 in
theorem c_Md_followLocal (l : Launch) (g : GX) (w : WX) (fu : Nat) (post : Int32 → Mm → Prop) (t : Nat) (x1 : Int32) (M : Mm) (ht : ok w t 11) (h : f_Md_followLocal fu post t x1 M) : Met l yX11_followLocal [Cond.code yX11_followLocal cX11_followLocal 4 (some .int)] (rmC 3 0 0) (va_Pc [ob g t, .int x1] (Wb g w M)) (va_Qi post (Wb g w) (Af g)) 0 0 (Af g) := by
  refine Ct_i (by decide) rfl (fun v hv => by simp only [List.mem_cons, List.not_mem_nil, or_false] at hv; rcases hv with rfl | rfl <;> rfl) (Nat.le_of_ble_eq_true rfl) (Nat.le_refl _) ?_
  intro X hX _ hC
  unfold f_Md_followLocal at h
  refine V_sub (us := [some (ob g t), some (.int x1), none, none]) ⟨rfl, rfl, trivial⟩ ?_
  refine V_iconst (v := 1) hC (by decide) dX11_followLocal_0 ?_
  refine V_istore_n hC (by decide) dX11_followLocal_1 ?_
  refine V_sub (us := [some (ob g t), some (.int x1), some (.int 1), none]) ⟨rfl, rfl, rfl, trivial⟩ ?_
  exact l_Md_followLocal_2 hX hC fu t x1 1 M ht h
def f_Md_repairLocally_7 (fu : Nat) (post : Int32 → Mm → Prop) : Nat → Nat → Int32 → Mm → Prop
  | 0, _, _, _ => False
  | kf + 1, t, x2, M =>
    vp_in x2 (ln (t + 10)) ∧ (((M (t + 10) x2.toNatClampNeg) ≤ 0) → post x2 M) ∧ (¬ ((M (t + 10) x2.toNatClampNeg) ≤ 0) → f_Md_followLocal fu (fun r3 M2 => f_Md_repairLocally_7 fu post kf t r3 M2) t x2 M)
def f_Md_repairLocally (fu : Nat) (post : Int32 → Mm → Prop) (t : Nat) (x1 : Int32) (M : Mm) : Prop :=
  ∀ M1, M1 = up M t 21 0 → f_Md_repairLocally_7 fu post fu t x1 M1
set_option maxRecDepth 100000 in
theorem l_Md_repairLocally_7 {l : Launch} {X : CX} {g : GX} {w : WX} {fu : Nat} {post : Int32 → Mm → Prop} (hX : X.2.1 = l) (hC : Cx X g cX11_repairLocally 3 RX11 (some .int) 4) : ∀ (kf : Nat) (t : Nat) (x2 : Int32) (M : Mm) (ht : ok w t 11) (h : f_Md_repairLocally_7 fu post kf t x2 M), V X g w 3 0 0 (QI X g w post 0 0) 7 [some (ob g t), none, some (.int x2)] [] M := by
  intro kf
  induction kf with
  | zero => intro t x2 M ht h; exact absurd h id
  | succ kf ih =>
    intro t x2 M ht h
    rw [f_Md_repairLocally_7] at h
    refine V_aload_n hC rfl dX11_repairLocally_7 ?_
    refine gf_11_23 hC ht tw_840 dX11_repairLocally_8 ?_
    refine V_iload_n hC rfl dX11_repairLocally_11 ?_
    obtain ⟨q1, h⟩ := h
    refine V_iald hC (ok_11_23 ht) q1 dX11_repairLocally_12 ?_
    refine V_if_le (tgt := 25) hC dX11_repairLocally_13 (by decide) (fun b4 => ?_) (fun b4 => ?_)
    · replace h := h.1 b4
      refine V_iload_n hC rfl dX11_repairLocally_25 ?_
      exact V_iret hC h dX11_repairLocally_26
    · replace h := h.2 b4
      refine V_aload_n hC rfl dX11_repairLocally_16 ?_
      refine V_iload_n hC rfl dX11_repairLocally_17 ?_
      refine V_calli (As := [.int x2]) hC (c_Md_followLocal X.2.1 g w fu _ t x2 M ht h) mw_X11_followLocal (by decide) tw_1176 ht (by decide) rfl rfl rfl (Nat.le_of_ble_eq_true rfl) ⟨Nat.zero_le _, Nat.zero_le _⟩ dX11_repairLocally_18 (fun r3 M2 h => ?_)
      refine V_istore_n hC (by decide) dX11_repairLocally_21 ?_
      refine V_goto (tgt := 7) hC (by decide) dX11_repairLocally_22 ?_
      refine V_sub (us := [some (ob g t), none, some (.int r3)]) ⟨rfl, rfl, trivial⟩ ?_
      exact ih t r3 M2 ht h
set_option maxRecDepth 100000 in
theorem c_Md_repairLocally (l : Launch) (g : GX) (w : WX) (fu : Nat) (post : Int32 → Mm → Prop) (t : Nat) (x1 : Int32) (M : Mm) (ht : ok w t 11) (h : f_Md_repairLocally fu post t x1 M) : Met l yX11_repairLocally [Cond.code yX11_repairLocally cX11_repairLocally 3 (some .int)] (rmC 4 0 0) (va_Pc [ob g t, .int x1] (Wb g w M)) (va_Qi post (Wb g w) (Af g)) 0 0 (Af g) := by
  refine Ct_i (by decide) rfl (fun v hv => by simp only [List.mem_cons, List.not_mem_nil, or_false] at hv; rcases hv with rfl | rfl <;> rfl) (Nat.le_of_ble_eq_true rfl) (Nat.le_refl _) ?_
  intro X hX _ hC
  unfold f_Md_repairLocally at h
  refine V_sub (us := [some (ob g t), some (.int x1), none]) ⟨rfl, rfl, trivial⟩ ?_
  refine V_iload_n hC rfl dX11_repairLocally_0 ?_
  refine V_istore_n hC (by decide) dX11_repairLocally_1 ?_
  refine V_aload_n hC rfl dX11_repairLocally_2 ?_
  refine V_iconst (v := 0) hC (by decide) dX11_repairLocally_3 ?_
  refine pf_11_21 hC ht tw_838 dX11_repairLocally_4 ?_
  obtain ⟨M1, eM1⟩ : ∃ z, z = up M t 21 0 := ⟨_, rfl⟩
  replace h := h M1 eM1
  refine V_mem eM1 ?_
  refine V_sub (us := [some (ob g t), none, some (.int x1)]) ⟨rfl, rfl, trivial⟩ ?_
  exact l_Md_repairLocally_7 hX hC fu t x1 M1 ht h
def f_Md_findLocal (fu : Nat) (post : Int32 → Mm → Prop) (t : Nat) (x1 : Int32) (M : Mm) : Prop :=
  f_Md_in fu (fun r2 M1 => ((r2 = 0) → post (-1) M1) ∧ (¬ (r2 = 0) → f_Md_findError fu (fun r4 M3 => ((r4 = (-9)) → post (-2) M3) ∧ (¬ (r4 = (-9)) → ∀ y5, y5 = ((96 * r4) + (M3 t 12)) → f_Md_findLocalCosts fu (fun M6 => vp_in y5 (ln (t + 10)) ∧ (((M6 (t + 10) y5.toNatClampNeg) < 1000000) → f_Md_repairLocally fu (fun r9 M8 => vp_in y5 (ln (t + 10)) ∧ post (M8 (t + 10) y5.toNatClampNeg) M8) t y5 M6) ∧ (¬ ((M6 (t + 10) y5.toNatClampNeg) < 1000000) → post (-9) M6)) t x1 M3)) t 0 1 M1)) x1 1 5 M
set_option maxRecDepth 100000 in
theorem c_Md_findLocal (l : Launch) (g : GX) (w : WX) (fu : Nat) (post : Int32 → Mm → Prop) (t : Nat) (x1 : Int32) (M : Mm) (ht : ok w t 11) (h : f_Md_findLocal fu post t x1 M) : Met l yX11_findLocal [Cond.code yX11_findLocal cX11_findLocal 5 (some .int)] (rmC 5 0 0) (va_Pc [ob g t, .int x1] (Wb g w M)) (va_Qi post (Wb g w) (Af g)) 0 0 (Af g) := by
  refine Ct_i (by decide) rfl (fun v hv => by simp only [List.mem_cons, List.not_mem_nil, or_false] at hv; rcases hv with rfl | rfl <;> rfl) (Nat.le_of_ble_eq_true rfl) (Nat.le_refl _) ?_
  intro X hX _ hC
  unfold f_Md_findLocal at h
  refine V_sub (us := [some (ob g t), some (.int x1), none, none, none]) ⟨rfl, rfl, trivial⟩ ?_
  refine V_iload_n hC rfl dX11_findLocal_0 ?_
  refine V_iconst (v := 1) hC (by decide) dX11_findLocal_1 ?_
  refine V_iconst (v := 5) hC (by decide) dX11_findLocal_2 ?_
  refine V_scalli (As := [.int x1, .int 1, .int 5]) hC (c_Md_in X.2.1 g w fu _ x1 1 5 M h) mw_X11_in (by decide) tw_894 rfl rfl (Nat.le_of_ble_eq_true rfl) ⟨Nat.zero_le _, Nat.zero_le _⟩ dX11_findLocal_3 (fun r2 M1 h => ?_)
  obtain ⟨hzr2, h⟩ := h
  refine V_if_ne (tgt := 11) hC dX11_findLocal_6 (by decide) (fun b13 => ?_) (fun b13 => ?_)
  · replace h := h.2 b13
    refine V_aload_n hC rfl dX11_findLocal_11 ?_
    refine V_iconst (v := 0) hC (by decide) dX11_findLocal_12 ?_
    refine V_iconst (v := 1) hC (by decide) dX11_findLocal_13 ?_
    refine V_calli (As := [.int 0, .int 1]) hC (c_Md_findError X.2.1 g w fu _ t 0 1 M1 ht h) mw_X11_findError (by decide) tw_1029 ht (by decide) rfl rfl rfl (Nat.le_of_ble_eq_true rfl) ⟨Nat.zero_le _, Nat.zero_le _⟩ dX11_findLocal_14 (fun r4 M3 h => ?_)
    refine V_istore_n hC (by decide) dX11_findLocal_17 ?_
    refine V_iload_n hC rfl dX11_findLocal_18 ?_
    refine V_bipush (v := (-9)) hC (by decide) dX11_findLocal_19 ?_
    refine V_icmp_ne (tgt := 27) hC dX11_findLocal_21 (by decide) (fun b12 => ?_) (fun b12 => ?_)
    · replace h := h.2 b12
      refine V_bipush (v := 96) hC (by decide) dX11_findLocal_27 ?_
      refine V_iload_n hC rfl dX11_findLocal_29 ?_
      refine V_imul hC dX11_findLocal_30 ?_
      refine V_aload_n hC rfl dX11_findLocal_31 ?_
      refine gf_11_12 hC ht tw_829 dX11_findLocal_32 ?_
      refine V_iadd hC dX11_findLocal_35 ?_
      refine V_topi (fun y5 ey5 => ?_)
      replace h := h y5 ey5
      refine V_istore_n hC (by decide) dX11_findLocal_36 ?_
      refine V_aload_n hC rfl dX11_findLocal_37 ?_
      refine V_iload_n hC rfl dX11_findLocal_38 ?_
      refine V_callv (As := [.int x1]) hC (c_Md_findLocalCosts X.2.1 g w fu _ t x1 M3 ht h) mw_X11_findLocalCosts (by decide) tw_1156 ht (by decide) rfl rfl rfl (Nat.le_of_ble_eq_true rfl) ⟨Nat.zero_le _, Nat.zero_le _⟩ dX11_findLocal_39 (fun M6 h => ?_)
      refine V_aload_n hC rfl dX11_findLocal_42 ?_
      refine gf_11_23 hC ht tw_840 dX11_findLocal_43 ?_
      refine V_iload_n hC rfl dX11_findLocal_46 ?_
      obtain ⟨q7, h⟩ := h
      refine V_iald hC (ok_11_23 ht) q7 dX11_findLocal_47 ?_
      refine V_ldc hC tw_1072 dX11_findLocal_48 ?_
      refine V_icmp_lt (tgt := 56) hC dX11_findLocal_50 (by decide) (fun b11 => ?_) (fun b11 => ?_)
      · replace h := h.1 b11
        refine V_aload_n hC rfl dX11_findLocal_56 ?_
        refine V_iload_n hC rfl dX11_findLocal_57 ?_
        refine V_calli (As := [.int y5]) hC (c_Md_repairLocally X.2.1 g w fu _ t y5 M6 ht h) mw_X11_repairLocally (by decide) tw_1172 ht (by decide) rfl rfl rfl (Nat.le_of_ble_eq_true rfl) ⟨Nat.zero_le _, Nat.zero_le _⟩ dX11_findLocal_58 (fun r9 M8 h => ?_)
        refine V_istore hC (by decide) dX11_findLocal_61 ?_
        refine V_aload_n hC rfl dX11_findLocal_63 ?_
        refine gf_11_23 hC ht tw_840 dX11_findLocal_64 ?_
        refine V_iload_n hC rfl dX11_findLocal_67 ?_
        obtain ⟨q10, h⟩ := h
        refine V_iald hC (ok_11_23 ht) q10 dX11_findLocal_68 ?_
        exact V_iret hC h dX11_findLocal_69
      · replace h := h.2 b11
        refine V_bipush (v := (-9)) hC (by decide) dX11_findLocal_53 ?_
        exact V_iret hC h dX11_findLocal_55
    · replace h := h.1 b12
      refine V_bipush (v := (-2)) hC (by decide) dX11_findLocal_24 ?_
      exact V_iret hC h dX11_findLocal_26
  · replace h := h.1 b13
    refine V_iconst (v := (-1)) hC (by decide) dX11_findLocal_9 ?_
    exact V_iret hC h dX11_findLocal_10
def f_Md_localCost (fu : Nat) (post : Int32 → Mm → Prop) (t : Nat) (x1 : Int32) (M : Mm) : Prop :=
  f_Md_findLocal fu (fun r2 M1 => post r2 M1) t x1 M
set_option maxRecDepth 100000 in
theorem c_Md_localCost (l : Launch) (g : GX) (w : WX) (fu : Nat) (post : Int32 → Mm → Prop) (t : Nat) (x1 : Int32) (M : Mm) (ht : ok w t 11) (h : f_Md_localCost fu post t x1 M) : Met l yX11_localCost [Cond.code yX11_localCost cX11_localCost 2 (some .int)] (rmC 6 0 0) (va_Pc [ob g t, .int x1] (Wb g w M)) (va_Qi post (Wb g w) (Af g)) 0 0 (Af g) := by
  refine Ct_i (by decide) rfl (fun v hv => by simp only [List.mem_cons, List.not_mem_nil, or_false] at hv; rcases hv with rfl | rfl <;> rfl) (Nat.le_of_ble_eq_true rfl) (Nat.le_refl _) ?_
  intro X hX _ hC
  unfold f_Md_localCost at h
  refine V_sub (us := [some (ob g t), some (.int x1)]) ⟨rfl, rfl, trivial⟩ ?_
  refine V_aload_n hC rfl dX11_localCost_0 ?_
  refine V_iload_n hC rfl dX11_localCost_1 ?_
  refine V_calli (As := [.int x1]) hC (c_Md_findLocal X.2.1 g w fu _ t x1 M ht h) mw_X11_findLocal (by decide) tw_1152 ht (by decide) rfl rfl rfl (Nat.le_of_ble_eq_true rfl) ⟨Nat.zero_le _, Nat.zero_le _⟩ dX11_localCost_2 (fun r2 M1 h => ?_)
  exact V_iret hC h dX11_localCost_5
def f_Md_localEntry (fu : Nat) (post : Int32 → Mm → Prop) (t : Nat) (x1 : Int32) (x2 : Int32) (x3 : Int32) (M : Mm) : Prop :=
  ((0 ≤ x2) → f_Md_findLocal fu (fun r2 M1 => ((0 ≤ r2) → f_Md_scriptEntry fu (fun r4 M3 => post r4 M3) t x2 x3 M1) ∧ (¬ (0 ≤ r2) → post r2 M1)) t x1 M) ∧ (¬ (0 ≤ x2) → post (-1) M)
set_option maxRecDepth 100000 in
theorem c_Md_localEntry (l : Launch) (g : GX) (w : WX) (fu : Nat) (post : Int32 → Mm → Prop) (t : Nat) (x1 : Int32) (x2 : Int32) (x3 : Int32) (M : Mm) (ht : ok w t 11) (h : f_Md_localEntry fu post t x1 x2 x3 M) : Met l yX11_localEntry [Cond.code yX11_localEntry cX11_localEntry 5 (some .int)] (rmC 6 0 0) (va_Pc [ob g t, .int x1, .int x2, .int x3] (Wb g w M)) (va_Qi post (Wb g w) (Af g)) 0 0 (Af g) := by
  refine Ct_i (by decide) rfl (fun v hv => by simp only [List.mem_cons, List.not_mem_nil, or_false] at hv; rcases hv with rfl | rfl | rfl | rfl <;> rfl) (Nat.le_of_ble_eq_true rfl) (Nat.le_refl _) ?_
  intro X hX _ hC
  unfold f_Md_localEntry at h
  refine V_sub (us := [some (ob g t), some (.int x1), some (.int x2), some (.int x3), none]) ⟨rfl, rfl, rfl, rfl, trivial⟩ ?_
  refine V_iload_n hC rfl dX11_localEntry_0 ?_
  refine V_if_ge (tgt := 6) hC dX11_localEntry_1 (by decide) (fun b6 => ?_) (fun b6 => ?_)
  · replace h := h.1 b6
    refine V_aload_n hC rfl dX11_localEntry_6 ?_
    refine V_iload_n hC rfl dX11_localEntry_7 ?_
    refine V_calli (As := [.int x1]) hC (c_Md_findLocal X.2.1 g w fu _ t x1 M ht h) mw_X11_findLocal (by decide) tw_1152 ht (by decide) rfl rfl rfl (Nat.le_of_ble_eq_true rfl) ⟨Nat.zero_le _, Nat.zero_le _⟩ dX11_localEntry_8 (fun r2 M1 h => ?_)
    refine V_istore hC (by decide) dX11_localEntry_11 ?_
    refine V_iload hC rfl dX11_localEntry_13 ?_
    refine V_if_ge (tgt := 23) hC dX11_localEntry_15 (by decide) (fun b5 => ?_) (fun b5 => ?_)
    · replace h := h.1 b5
      refine V_aload_n hC rfl dX11_localEntry_23 ?_
      refine V_iload_n hC rfl dX11_localEntry_24 ?_
      refine V_iload_n hC rfl dX11_localEntry_25 ?_
      refine V_calli (As := [.int x2, .int x3]) hC (c_Md_scriptEntry X.2.1 g w fu _ t x2 x3 M1 ht h) mw_X11_scriptEntry (by decide) tw_1136 ht (by decide) rfl rfl rfl (Nat.le_of_ble_eq_true rfl) ⟨Nat.zero_le _, Nat.zero_le _⟩ dX11_localEntry_26 (fun r4 M3 h => ?_)
      exact V_iret hC h dX11_localEntry_29
    · replace h := h.2 b5
      refine V_iload hC rfl dX11_localEntry_18 ?_
      refine V_goto (tgt := 29) hC (by decide) dX11_localEntry_20 ?_
      exact V_iret hC h dX11_localEntry_29
  · replace h := h.2 b6
    refine V_iconst (v := (-1)) hC (by decide) dX11_localEntry_4 ?_
    exact V_iret hC h dX11_localEntry_5
def f_Md_localOperation (fu : Nat) (post : Int32 → Mm → Prop) (t : Nat) (x1 : Int32) (x2 : Int32) (M : Mm) : Prop :=
  f_Md_localEntry fu (fun r2 M1 => post r2 M1) t x1 x2 0 M
set_option maxRecDepth 100000 in
theorem c_Md_localOperation (l : Launch) (g : GX) (w : WX) (fu : Nat) (post : Int32 → Mm → Prop) (t : Nat) (x1 : Int32) (x2 : Int32) (M : Mm) (ht : ok w t 11) (h : f_Md_localOperation fu post t x1 x2 M) : Met l yX11_localOperation [Cond.code yX11_localOperation cX11_localOperation 3 (some .int)] (rmC 7 0 0) (va_Pc [ob g t, .int x1, .int x2] (Wb g w M)) (va_Qi post (Wb g w) (Af g)) 0 0 (Af g) := by
  refine Ct_i (by decide) rfl (fun v hv => by simp only [List.mem_cons, List.not_mem_nil, or_false] at hv; rcases hv with rfl | rfl | rfl <;> rfl) (Nat.le_of_ble_eq_true rfl) (Nat.le_refl _) ?_
  intro X hX _ hC
  unfold f_Md_localOperation at h
  refine V_sub (us := [some (ob g t), some (.int x1), some (.int x2)]) ⟨rfl, rfl, rfl, trivial⟩ ?_
  refine V_aload_n hC rfl dX11_localOperation_0 ?_
  refine V_iload_n hC rfl dX11_localOperation_1 ?_
  refine V_iload_n hC rfl dX11_localOperation_2 ?_
  refine V_iconst (v := 0) hC (by decide) dX11_localOperation_3 ?_
  refine V_calli (As := [.int x1, .int x2, .int 0]) hC (c_Md_localEntry X.2.1 g w fu _ t x1 x2 0 M ht h) mw_X11_localEntry (by decide) tw_1184 ht (by decide) rfl rfl rfl (Nat.le_of_ble_eq_true rfl) ⟨Nat.zero_le _, Nat.zero_le _⟩ dX11_localOperation_4 (fun r2 M1 h => ?_)
  exact V_iret hC h dX11_localOperation_7
def f_Md_localKind (fu : Nat) (post : Int32 → Mm → Prop) (t : Nat) (x1 : Int32) (x2 : Int32) (M : Mm) : Prop :=
  f_Md_localEntry fu (fun r2 M1 => post r2 M1) t x1 x2 1 M
set_option maxRecDepth 100000 in
theorem c_Md_localKind (l : Launch) (g : GX) (w : WX) (fu : Nat) (post : Int32 → Mm → Prop) (t : Nat) (x1 : Int32) (x2 : Int32) (M : Mm) (ht : ok w t 11) (h : f_Md_localKind fu post t x1 x2 M) : Met l yX11_localKind [Cond.code yX11_localKind cX11_localKind 3 (some .int)] (rmC 7 0 0) (va_Pc [ob g t, .int x1, .int x2] (Wb g w M)) (va_Qi post (Wb g w) (Af g)) 0 0 (Af g) := by
  refine Ct_i (by decide) rfl (fun v hv => by simp only [List.mem_cons, List.not_mem_nil, or_false] at hv; rcases hv with rfl | rfl | rfl <;> rfl) (Nat.le_of_ble_eq_true rfl) (Nat.le_refl _) ?_
  intro X hX _ hC
  unfold f_Md_localKind at h
  refine V_sub (us := [some (ob g t), some (.int x1), some (.int x2)]) ⟨rfl, rfl, rfl, trivial⟩ ?_
  refine V_aload_n hC rfl dX11_localKind_0 ?_
  refine V_iload_n hC rfl dX11_localKind_1 ?_
  refine V_iload_n hC rfl dX11_localKind_2 ?_
  refine V_iconst (v := 1) hC (by decide) dX11_localKind_3 ?_
  refine V_calli (As := [.int x1, .int x2, .int 1]) hC (c_Md_localEntry X.2.1 g w fu _ t x1 x2 1 M ht h) mw_X11_localEntry (by decide) tw_1184 ht (by decide) rfl rfl rfl (Nat.le_of_ble_eq_true rfl) ⟨Nat.zero_le _, Nat.zero_le _⟩ dX11_localKind_4 (fun r2 M1 h => ?_)
  exact V_iret hC h dX11_localKind_7
def f_Md_sweepCost_25 (fu : Nat) (post : Int32 → Mm → Prop) : Nat → Nat → Int32 → Int32 → Mm → Prop
  | 0, _, _, _, _ => False
  | kf + 1, t, x2, x3, M =>
    ((x3 = (-9)) → post x2 M) ∧ (¬ (x3 = (-9)) → ∀ y1, y1 = ((96 * x3) + (M t 12)) → vp_in y1 (ln (t + 10)) ∧ (((M (t + 10) y1.toNatClampNeg) < 1000000) → vp_in y1 (ln (t + 10)) ∧ ∀ y4, y4 = (x2 + (M (t + 10) y1.toNatClampNeg)) → f_Md_repairLocally fu (fun r6 M5 => f_Md_findError fu (fun r8 M7 => f_Md_sweepCost_25 fu post kf t y4 r8 M7) t (r6 / 96) (r6 - r6 / 96 * 96) M5) t y1 M) ∧ (¬ ((M (t + 10) y1.toNatClampNeg) < 1000000) → post (-9) M))
def f_Md_sweepCost (fu : Nat) (post : Int32 → Mm → Prop) (t : Nat) (x1 : Int32) (M : Mm) : Prop :=
  f_Md_in fu (fun r2 M1 => ((r2 = 0) → post (-1) M1) ∧ (¬ (r2 = 0) → f_Md_findLocalCosts fu (fun M3 => f_Md_findError fu (fun r5 M4 => f_Md_sweepCost_25 fu post fu t 0 r5 M4) t 0 1 M3) t x1 M1)) x1 1 5 M
set_option maxRecDepth 100000 in
theorem l_Md_sweepCost_25 {l : Launch} {X : CX} {g : GX} {w : WX} {fu : Nat} {post : Int32 → Mm → Prop} (hX : X.2.1 = l) (hC : Cx X g cX11_sweepCost 6 RX11 (some .int) 5) : ∀ (kf : Nat) (t : Nat) (x2 : Int32) (x3 : Int32) (M : Mm) (ht : ok w t 11) (h : f_Md_sweepCost_25 fu post kf t x2 x3 M), V X g w 6 0 0 (QI X g w post 0 0) 25 [some (ob g t), none, some (.int x2), some (.int x3), none, none] [] M := by
  intro kf
  induction kf with
  | zero => intro t x2 x3 M ht h; exact absurd h id
  | succ kf ih =>
    intro t x2 x3 M ht h
    rw [f_Md_sweepCost_25] at h
    refine V_iload_n hC rfl dX11_sweepCost_25 ?_
    refine V_bipush (v := (-9)) hC (by decide) dX11_sweepCost_26 ?_
    refine V_icmp_eq (tgt := 93) hC dX11_sweepCost_28 (by decide) (fun b10 => ?_) (fun b10 => ?_)
    · replace h := h.1 b10
      refine V_iload_n hC rfl dX11_sweepCost_93 ?_
      exact V_iret hC h dX11_sweepCost_94
    · replace h := h.2 b10
      refine V_bipush (v := 96) hC (by decide) dX11_sweepCost_31 ?_
      refine V_iload_n hC rfl dX11_sweepCost_33 ?_
      refine V_imul hC dX11_sweepCost_34 ?_
      refine V_aload_n hC rfl dX11_sweepCost_35 ?_
      refine gf_11_12 hC ht tw_829 dX11_sweepCost_36 ?_
      refine V_iadd hC dX11_sweepCost_39 ?_
      refine V_topi (fun y1 ey1 => ?_)
      replace h := h y1 ey1
      refine V_istore hC (by decide) dX11_sweepCost_40 ?_
      refine V_aload_n hC rfl dX11_sweepCost_42 ?_
      refine gf_11_23 hC ht tw_840 dX11_sweepCost_43 ?_
      refine V_iload hC rfl dX11_sweepCost_46 ?_
      obtain ⟨q2, h⟩ := h
      refine V_iald hC (ok_11_23 ht) q2 dX11_sweepCost_48 ?_
      refine V_ldc hC tw_1072 dX11_sweepCost_49 ?_
      refine V_icmp_lt (tgt := 57) hC dX11_sweepCost_51 (by decide) (fun b9 => ?_) (fun b9 => ?_)
      · replace h := h.1 b9
        refine V_iload_n hC rfl dX11_sweepCost_57 ?_
        refine V_aload_n hC rfl dX11_sweepCost_58 ?_
        refine gf_11_23 hC ht tw_840 dX11_sweepCost_59 ?_
        refine V_iload hC rfl dX11_sweepCost_62 ?_
        obtain ⟨q3, h⟩ := h
        refine V_iald hC (ok_11_23 ht) q3 dX11_sweepCost_64 ?_
        refine V_iadd hC dX11_sweepCost_65 ?_
        refine V_topi (fun y4 ey4 => ?_)
        replace h := h y4 ey4
        refine V_istore_n hC (by decide) dX11_sweepCost_66 ?_
        refine V_aload_n hC rfl dX11_sweepCost_67 ?_
        refine V_iload hC rfl dX11_sweepCost_68 ?_
        refine V_calli (As := [.int y1]) hC (c_Md_repairLocally X.2.1 g w fu _ t y1 M ht h) mw_X11_repairLocally (by decide) tw_1172 ht (by decide) rfl rfl rfl (Nat.le_of_ble_eq_true rfl) ⟨Nat.zero_le _, Nat.zero_le _⟩ dX11_sweepCost_70 (fun r6 M5 h => ?_)
        refine V_istore hC (by decide) dX11_sweepCost_73 ?_
        refine V_aload_n hC rfl dX11_sweepCost_75 ?_
        refine V_iload hC rfl dX11_sweepCost_76 ?_
        refine V_bipush (v := 96) hC (by decide) dX11_sweepCost_78 ?_
        refine V_idiv hC (by decide) dX11_sweepCost_80 ?_
        refine V_iload hC rfl dX11_sweepCost_81 ?_
        refine V_bipush (v := 96) hC (by decide) dX11_sweepCost_83 ?_
        refine V_irem hC (by decide) dX11_sweepCost_85 ?_
        refine V_calli (As := [.int (r6 / 96), .int (r6 - r6 / 96 * 96)]) hC (c_Md_findError X.2.1 g w fu _ t (r6 / 96) (r6 - r6 / 96 * 96) M5 ht h) mw_X11_findError (by decide) tw_1029 ht (by decide) rfl rfl rfl (Nat.le_of_ble_eq_true rfl) ⟨Nat.zero_le _, Nat.zero_le _⟩ dX11_sweepCost_86 (fun r8 M7 h => ?_)
        refine V_istore_n hC (by decide) dX11_sweepCost_89 ?_
        refine V_goto (tgt := 25) hC (by decide) dX11_sweepCost_90 ?_
        refine V_sub (us := [some (ob g t), none, some (.int y4), some (.int r8), none, none]) ⟨rfl, rfl, rfl, trivial⟩ ?_
        exact ih t y4 r8 M7 ht h
      · replace h := h.2 b9
        refine V_bipush (v := (-9)) hC (by decide) dX11_sweepCost_54 ?_
        exact V_iret hC h dX11_sweepCost_56
set_option maxRecDepth 100000 in
theorem c_Md_sweepCost (l : Launch) (g : GX) (w : WX) (fu : Nat) (post : Int32 → Mm → Prop) (t : Nat) (x1 : Int32) (M : Mm) (ht : ok w t 11) (h : f_Md_sweepCost fu post t x1 M) : Met l yX11_sweepCost [Cond.code yX11_sweepCost cX11_sweepCost 6 (some .int)] (rmC 5 0 0) (va_Pc [ob g t, .int x1] (Wb g w M)) (va_Qi post (Wb g w) (Af g)) 0 0 (Af g) := by
  refine Ct_i (by decide) rfl (fun v hv => by simp only [List.mem_cons, List.not_mem_nil, or_false] at hv; rcases hv with rfl | rfl <;> rfl) (Nat.le_of_ble_eq_true rfl) (Nat.le_refl _) ?_
  intro X hX _ hC
  unfold f_Md_sweepCost at h
  refine V_sub (us := [some (ob g t), some (.int x1), none, none, none, none]) ⟨rfl, rfl, trivial⟩ ?_
  refine V_iload_n hC rfl dX11_sweepCost_0 ?_
  refine V_iconst (v := 1) hC (by decide) dX11_sweepCost_1 ?_
  refine V_iconst (v := 5) hC (by decide) dX11_sweepCost_2 ?_
  refine V_scalli (As := [.int x1, .int 1, .int 5]) hC (c_Md_in X.2.1 g w fu _ x1 1 5 M h) mw_X11_in (by decide) tw_894 rfl rfl (Nat.le_of_ble_eq_true rfl) ⟨Nat.zero_le _, Nat.zero_le _⟩ dX11_sweepCost_3 (fun r2 M1 h => ?_)
  obtain ⟨hzr2, h⟩ := h
  refine V_if_ne (tgt := 11) hC dX11_sweepCost_6 (by decide) (fun b6 => ?_) (fun b6 => ?_)
  · replace h := h.2 b6
    refine V_aload_n hC rfl dX11_sweepCost_11 ?_
    refine V_iload_n hC rfl dX11_sweepCost_12 ?_
    refine V_callv (As := [.int x1]) hC (c_Md_findLocalCosts X.2.1 g w fu _ t x1 M1 ht h) mw_X11_findLocalCosts (by decide) tw_1156 ht (by decide) rfl rfl rfl (Nat.le_of_ble_eq_true rfl) ⟨Nat.zero_le _, Nat.zero_le _⟩ dX11_sweepCost_13 (fun M3 h => ?_)
    refine V_iconst (v := 0) hC (by decide) dX11_sweepCost_16 ?_
    refine V_istore_n hC (by decide) dX11_sweepCost_17 ?_
    refine V_aload_n hC rfl dX11_sweepCost_18 ?_
    refine V_iconst (v := 0) hC (by decide) dX11_sweepCost_19 ?_
    refine V_iconst (v := 1) hC (by decide) dX11_sweepCost_20 ?_
    refine V_calli (As := [.int 0, .int 1]) hC (c_Md_findError X.2.1 g w fu _ t 0 1 M3 ht h) mw_X11_findError (by decide) tw_1029 ht (by decide) rfl rfl rfl (Nat.le_of_ble_eq_true rfl) ⟨Nat.zero_le _, Nat.zero_le _⟩ dX11_sweepCost_21 (fun r5 M4 h => ?_)
    refine V_istore_n hC (by decide) dX11_sweepCost_24 ?_
    refine V_sub (us := [some (ob g t), none, some (.int 0), some (.int r5), none, none]) ⟨rfl, rfl, rfl, trivial⟩ ?_
    exact l_Md_sweepCost_25 hX hC fu t 0 r5 M4 ht h
  · replace h := h.1 b6
    refine V_iconst (v := (-1)) hC (by decide) dX11_sweepCost_9 ?_
    exact V_iret hC h dX11_sweepCost_10
def f_Md_undoCount (fu : Nat) (post : Int32 → Mm → Prop) (t : Nat) (M : Mm) : Prop :=
  post (M t 3) M
set_option maxRecDepth 100000 in
theorem c_Md_undoCount (l : Launch) (g : GX) (w : WX) (fu : Nat) (post : Int32 → Mm → Prop) (t : Nat) (M : Mm) (ht : ok w t 11) (h : f_Md_undoCount fu post t M) : Met l yX11_undoCount [Cond.code yX11_undoCount cX11_undoCount 1 (some .int)] (rmC 0 0 0) (va_Pc [ob g t] (Wb g w M)) (va_Qi post (Wb g w) (Af g)) 0 0 (Af g) := by
  refine Ct_i (by decide) rfl (fun v hv => by simp only [List.mem_cons, List.not_mem_nil, or_false] at hv; rcases hv with rfl <;> rfl) (Nat.le_of_ble_eq_true rfl) (Nat.le_refl _) ?_
  intro X hX _ hC
  unfold f_Md_undoCount at h
  refine V_sub (us := [some (ob g t)]) ⟨rfl, trivial⟩ ?_
  refine V_aload_n hC rfl dX11_undoCount_0 ?_
  refine gf_11_3 hC ht tw_820 dX11_undoCount_1 ?_
  exact V_iret hC h dX11_undoCount_4
