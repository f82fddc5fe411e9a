def f_Md_readAccept_26 (fu : Nat) (post : Int32 → Mm → Prop) (x1 : Int32) (ka0 : Nat) (kx1 : Int32) (kx2 : Int32) (kx3 : Int32) (M : Mm) : Prop :=
  vp_in kx1 (ln ka0) ∧ (∀ M2, M2 = up M ka0 kx1.toNatClampNeg (kx2 ||| kx3) → zb x1 ∧ post x1 M2)
def f_Md_readAccept (fu : Nat) (post : Int32 → Mm → Prop) (t : Nat) (M : Mm) : Prop :=
  f_Md_readState fu (fun r2 M1 => vp_in 1 (ln (t + 2)) ∧ ((r2 = 0) → f_Md_readAccept_26 fu post r2 (t + 2) 1 (M1 (t + 2) 1) 0 M1) ∧ (¬ (r2 = 0) → f_Md_readAccept_26 fu post r2 (t + 2) 1 (M1 (t + 2) 1) (1 <<< ((M1 t 10) &&& 31)) M1)) t M
set_option maxRecDepth 100000 in
theorem j_Md_readAccept_26 {l : Launch} {X : CX} {g : GX} {w : WX} {fu : Nat} {post : Int32 → Mm → Prop} (hX : X.2.1 = l) (hC : Cx X g cX11_readAccept 2 RX11 (some .boolean) 5) (x1 : Int32) (ka0 : Nat) (kx1 : Int32) (kx2 : Int32) (kx3 : Int32) {M : Mm} (hka0 : ok w ka0 20) (h : f_Md_readAccept_26 fu post x1 ka0 kx1 kx2 kx3 M) : V X g w 2 0 0 (QI X g w (fun r M => zb r ∧ post r M) 0 0) 26 [none, some (.int x1)] [.int kx3, .int kx2, .int kx1, ob g ka0] M := by
  unfold f_Md_readAccept_26 at h
  refine V_ior hC dX11_readAccept_26 ?_
  obtain ⟨q1, h⟩ := h
  refine V_iast hC hka0 q1 dX11_readAccept_27 ?_
  obtain ⟨M2, eM2⟩ : ∃ z, z = up M ka0 kx1.toNatClampNeg (kx2 ||| kx3) := ⟨_, rfl⟩
  replace h := h M2 eM2
  refine V_mem eM2 ?_
  refine V_iload_n hC rfl dX11_readAccept_28 ?_
  exact V_zret hC h.1 h.2 dX11_readAccept_29
set_option maxRecDepth 100000 in
theorem c_Md_readAccept (l : Launch) (g : GX) (w : WX) (fu : Nat) (post : Int32 → Mm → Prop) (t : Nat) (M : Mm) (ht : ok w t 11) (h : f_Md_readAccept fu post t M) : Met l yX11_readAccept [Cond.code yX11_readAccept cX11_readAccept 2 (some .boolean)] (rmC 5 0 0) (va_Pc [ob g t] (Wb g w M)) (va_Qi (fun r M => zb r ∧ post r M) (Wb g w) (Af g)) 0 0 (Af g) := by
  refine Ct_i (by decide) rfl (fun v hv => by simp only [List.mem_cons, List.not_mem_nil, or_false] at hv; rcases hv with rfl <;> rfl) (Nat.le_of_ble_eq_true rfl) (Nat.le_refl _) ?_
  intro X hX _ hC
  unfold f_Md_readAccept at h
  refine V_sub (us := [some (ob g t), none]) ⟨rfl, trivial⟩ ?_
  refine V_aload_n hC rfl dX11_readAccept_0 ?_
  refine V_calli (As := []) hC (c_Md_readState X.2.1 g w fu _ t M ht h) mw_X11_readState (by decide) tw_933 ht (by decide) rfl rfl rfl (Nat.le_of_ble_eq_true rfl) ⟨Nat.zero_le _, Nat.zero_le _⟩ dX11_readAccept_1 (fun r2 M1 h => ?_)
  obtain ⟨hzr2, h⟩ := h
  refine V_istore_n hC (by decide) dX11_readAccept_4 ?_
  refine V_aload_n hC rfl dX11_readAccept_5 ?_
  refine gf_11_1 hC ht tw_818 dX11_readAccept_6 ?_
  refine V_iconst (v := 1) hC (by decide) dX11_readAccept_9 ?_
  refine V_dup2 hC rfl rfl dX11_readAccept_10 ?_
  obtain ⟨q3, h⟩ := h
  refine V_iaL (j := 1) (by decide) hC (ok_11_1 ht) q3 dX11_readAccept_11 ?_
  refine V_iload_n hC rfl dX11_readAccept_12 ?_
  refine V_if_eq (tgt := 25) hC dX11_readAccept_13 (by decide) (fun b4 => ?_) (fun b4 => ?_)
  · replace h := h.1 b4
    refine V_iconst (v := 0) hC (by decide) dX11_readAccept_25 ?_
    refine V_sub (us := [none, some (.int r2)]) ⟨rfl, trivial⟩ ?_
    exact j_Md_readAccept_26 hX hC r2 (t + 2) 1 (M1 (t + 2) 1) 0 (ok_11_1 ht) h
  · replace h := h.2 b4
    refine V_iconst (v := 1) hC (by decide) dX11_readAccept_16 ?_
    refine V_aload_n hC rfl dX11_readAccept_17 ?_
    refine gf_11_10 hC ht tw_827 dX11_readAccept_18 ?_
    refine V_ishl hC dX11_readAccept_21 ?_
    refine V_goto (tgt := 26) hC (by decide) dX11_readAccept_22 ?_
    refine V_sub (us := [none, some (.int r2)]) ⟨rfl, trivial⟩ ?_
    exact j_Md_readAccept_26 hX hC r2 (t + 2) 1 (M1 (t + 2) 1) (1 <<< ((M1 t 10) &&& 31)) (ok_11_1 ht) h
def f_Md_readRule_96 (fu : Nat) (post : Int32 → Mm → Prop) (t : Nat) (x1 : Int32) (x3 : Int32) (x4 : Int32) (kx0 : Int32) (M : Mm) : Prop :=
  ((x1 = 1) → vp_in x3 (ln (t + 2)) ∧ (∀ M4, M4 = up M (t + 2) x3.toNatClampNeg x4 → zb kx0 ∧ post kx0 M4)) ∧ (¬ (x1 = 1) → vp_in x3 (ln (t + 2)) ∧ (∀ M2, M2 = up M (t + 2) x3.toNatClampNeg (x4 + (M t 10)) → zb kx0 ∧ post kx0 M2))
def f_Md_readRule_91 (fu : Nat) (post : Int32 → Mm → Prop) (t : Nat) (x1 : Int32) (x3 : Int32) (x4 : Int32) (M : Mm) : Prop :=
  f_Md_readRule_96 fu post t x1 x3 x4 1 M
def f_Md_readRule (fu : Nat) (post : Int32 → Mm → Prop) (t : Nat) (x1 : Int32) (M : Mm) : Prop :=
  f_Md_readState fu (fun r2 M1 => ((r2 = 0) → post 0 M1) ∧ (¬ (r2 = 0) → ∀ y3, y3 = (M1 t 10) → f_Md_readKind fu (fun r5 M4 => ((r5 = 0) → post 0 M4) ∧ (¬ (r5 = 0) → vp_in ((2 + (6 * y3)) + (M4 t 10)) (ln (t + 2)) ∧ (((M4 (t + 2) ((2 + (6 * y3)) + (M4 t 10)).toNatClampNeg) = 0) → ∀ y7, y7 = ((2 + (6 * y3)) + (M4 t 10)) → f_Md_readState fu (fun r9 M8 => ((r9 = 0) → post 0 M8) ∧ (¬ (r9 = 0) → ∀ y10, y10 = ((100 * x1) + (10 * (M8 t 10))) → ((x1 = 1) → f_Md_readRule_91 fu post t x1 y7 y10 M8) ∧ (¬ (x1 = 1) → f_Md_readDigit fu (fun r12 M11 => ((r12 = 0) → f_Md_readRule_96 fu post t x1 y7 y10 0 M11) ∧ (¬ (r12 = 0) → f_Md_readRule_91 fu post t x1 y7 y10 M11)) t 0 1 M8))) t M4) ∧ (¬ ((M4 (t + 2) ((2 + (6 * y3)) + (M4 t 10)).toNatClampNeg) = 0) → post 0 M4))) t M1)) t M
set_option maxRecDepth 100000 in
theorem j_Md_readRule_96 {l : Launch} {X : CX} {g : GX} {w : WX} {fu : Nat} {post : Int32 → Mm → Prop} (hX : X.2.1 = l) (hC : Cx X g cX11_readRule 6 RX11 (some .boolean) 5) (t : Nat) (x1 : Int32) (x3 : Int32) (x4 : Int32) (kx0 : Int32) {M : Mm} (ht : ok w t 11) (h : f_Md_readRule_96 fu post t x1 x3 x4 kx0 M) : V X g w 6 0 0 (QI X g w (fun r M => zb r ∧ post r M) 0 0) 96 [some (ob g t), some (.int x1), none, some (.int x3), some (.int x4), none] [.int kx0] M := by
  unfold f_Md_readRule_96 at h
  refine V_istore hC (by decide) dX11_readRule_96 ?_
  refine V_aload_n hC rfl dX11_readRule_98 ?_
  refine gf_11_1 hC ht tw_818 dX11_readRule_99 ?_
  refine V_iload_n hC rfl dX11_readRule_102 ?_
  refine V_iload_n hC rfl dX11_readRule_103 ?_
  refine V_iconst (v := 1) hC (by decide) dX11_readRule_104 ?_
  refine V_icmp_ne (tgt := 113) hC dX11_readRule_105 (by decide) (fun b5 => ?_) (fun b5 => ?_)
  · replace h := h.2 b5
    refine V_iload hC rfl dX11_readRule_113 ?_
    refine V_aload_n hC rfl dX11_readRule_115 ?_
    refine gf_11_10 hC ht tw_827 dX11_readRule_116 ?_
    refine V_iadd hC dX11_readRule_119 ?_
    obtain ⟨q1, h⟩ := h
    refine V_iast hC (ok_11_1 ht) q1 dX11_readRule_120 ?_
    obtain ⟨M2, eM2⟩ : ∃ z, z = up M (t + 2) x3.toNatClampNeg (x4 + (M t 10)) := ⟨_, rfl⟩
    replace h := h M2 eM2
    refine V_mem eM2 ?_
    refine V_iload hC rfl dX11_readRule_121 ?_
    exact V_zret hC h.1 h.2 dX11_readRule_123
  · replace h := h.1 b5
    refine V_iload hC rfl dX11_readRule_108 ?_
    refine V_goto (tgt := 120) hC (by decide) dX11_readRule_110 ?_
    obtain ⟨q3, h⟩ := h
    refine V_iast hC (ok_11_1 ht) q3 dX11_readRule_120 ?_
    obtain ⟨M4, eM4⟩ : ∃ z, z = up M (t + 2) x3.toNatClampNeg x4 := ⟨_, rfl⟩
    replace h := h M4 eM4
    refine V_mem eM4 ?_
    refine V_iload hC rfl dX11_readRule_121 ?_
    exact V_zret hC h.1 h.2 dX11_readRule_123
set_option maxRecDepth 100000 in
theorem j_Md_readRule_91 {l : Launch} {X : CX} {g : GX} {w : WX} {fu : Nat} {post : Int32 → Mm → Prop} (hX : X.2.1 = l) (hC : Cx X g cX11_readRule 6 RX11 (some .boolean) 5) (t : Nat) (x1 : Int32) (x3 : Int32) (x4 : Int32) {M : Mm} (ht : ok w t 11) (h : f_Md_readRule_91 fu post t x1 x3 x4 M) : V X g w 6 0 0 (QI X g w (fun r M => zb r ∧ post r M) 0 0) 91 [some (ob g t), some (.int x1), none, some (.int x3), some (.int x4), none] [] M := by
  unfold f_Md_readRule_91 at h
  refine V_iconst (v := 1) hC (by decide) dX11_readRule_91 ?_
  refine V_goto (tgt := 96) hC (by decide) dX11_readRule_92 ?_
  refine V_sub (us := [some (ob g t), some (.int x1), none, some (.int x3), some (.int x4), none]) ⟨rfl, rfl, rfl, rfl, trivial⟩ ?_
  exact j_Md_readRule_96 hX hC t x1 x3 x4 1 ht h
set_option maxRecDepth 100000 in
theorem c_Md_readRule (l : Launch) (g : GX) (w : WX) (fu : Nat) (post : Int32 → Mm → Prop) (t : Nat) (x1 : Int32) (M : Mm) (ht : ok w t 11) (h : f_Md_readRule fu post t x1 M) : Met l yX11_readRule [Cond.code yX11_readRule cX11_readRule 6 (some .boolean)] (rmC 5 0 0) (va_Pc [ob g t, .int x1] (Wb g w M)) (va_Qi (fun r M => zb r ∧ post r M) (Wb g w) (Af g)) 0 0 (Af g) := by
  refine Ct_i (by decide) rfl (fun v hv => by simp only [List.mem_cons, List.not_mem_nil, or_false] at hv; rcases hv with rfl | rfl <;> rfl) (Nat.le_of_ble_eq_true rfl) (Nat.le_refl _) ?_
  intro X hX _ hC
  unfold f_Md_readRule at h
  refine V_sub (us := [some (ob g t), some (.int x1), none, none, none, none]) ⟨rfl, rfl, trivial⟩ ?_
  refine V_aload_n hC rfl dX11_readRule_0 ?_
  refine V_calli (As := []) hC (c_Md_readState X.2.1 g w fu _ t M ht h) mw_X11_readState (by decide) tw_933 ht (by decide) rfl rfl rfl (Nat.le_of_ble_eq_true rfl) ⟨Nat.zero_le _, Nat.zero_le _⟩ dX11_readRule_1 (fun r2 M1 h => ?_)
  obtain ⟨hzr2, h⟩ := h
  refine V_if_ne (tgt := 9) hC dX11_readRule_4 (by decide) (fun b18 => ?_) (fun b18 => ?_)
  · replace h := h.2 b18
    refine V_aload_n hC rfl dX11_readRule_9 ?_
    refine gf_11_10 hC ht tw_827 dX11_readRule_10 ?_
    refine V_topi (fun y3 ey3 => ?_)
    replace h := h y3 ey3
    refine V_istore_n hC (by decide) dX11_readRule_13 ?_
    refine V_aload_n hC rfl dX11_readRule_14 ?_
    refine V_calli (As := []) hC (c_Md_readKind X.2.1 g w fu _ t M1 ht h) mw_X11_readKind (by decide) tw_942 ht (by decide) rfl rfl rfl (Nat.le_of_ble_eq_true rfl) ⟨Nat.zero_le _, Nat.zero_le _⟩ dX11_readRule_15 (fun r5 M4 h => ?_)
    obtain ⟨hzr5, h⟩ := h
    refine V_if_eq (tgt := 40) hC dX11_readRule_18 (by decide) (fun b17 => ?_) (fun b17 => ?_)
    · replace h := h.1 b17
      refine V_iconst (v := 0) hC (by decide) dX11_readRule_40 ?_
      exact V_zret hC (Or.inl rfl) h dX11_readRule_41
    · replace h := h.2 b17
      refine V_aload_n hC rfl dX11_readRule_21 ?_
      refine gf_11_1 hC ht tw_818 dX11_readRule_22 ?_
      refine V_iconst (v := 2) hC (by decide) dX11_readRule_25 ?_
      refine V_bipush (v := 6) hC (by decide) dX11_readRule_26 ?_
      refine V_iload_n hC rfl dX11_readRule_28 ?_
      refine V_imul hC dX11_readRule_29 ?_
      refine V_iadd hC dX11_readRule_30 ?_
      refine V_aload_n hC rfl dX11_readRule_31 ?_
      refine gf_11_10 hC ht tw_827 dX11_readRule_32 ?_
      refine V_iadd hC dX11_readRule_35 ?_
      obtain ⟨q6, h⟩ := h
      refine V_iald hC (ok_11_1 ht) q6 dX11_readRule_36 ?_
      refine V_if_eq (tgt := 42) hC dX11_readRule_37 (by decide) (fun b16 => ?_) (fun b16 => ?_)
      · replace h := h.1 b16
        refine V_iconst (v := 2) hC (by decide) dX11_readRule_42 ?_
        refine V_bipush (v := 6) hC (by decide) dX11_readRule_43 ?_
        refine V_iload_n hC rfl dX11_readRule_45 ?_
        refine V_imul hC dX11_readRule_46 ?_
        refine V_iadd hC dX11_readRule_47 ?_
        refine V_aload_n hC rfl dX11_readRule_48 ?_
        refine gf_11_10 hC ht tw_827 dX11_readRule_49 ?_
        refine V_iadd hC dX11_readRule_52 ?_
        refine V_topi (fun y7 ey7 => ?_)
        replace h := h y7 ey7
        refine V_istore_n hC (by decide) dX11_readRule_53 ?_
        refine V_aload_n hC rfl dX11_readRule_54 ?_
        refine V_calli (As := []) hC (c_Md_readState X.2.1 g w fu _ t M4 ht h) mw_X11_readState (by decide) tw_933 ht (by decide) rfl rfl rfl (Nat.le_of_ble_eq_true rfl) ⟨Nat.zero_le _, Nat.zero_le _⟩ dX11_readRule_55 (fun r9 M8 h => ?_)
        obtain ⟨hzr9, h⟩ := h
        refine V_if_ne (tgt := 63) hC dX11_readRule_58 (by decide) (fun b15 => ?_) (fun b15 => ?_)
        · replace h := h.2 b15
          refine V_bipush (v := 100) hC (by decide) dX11_readRule_63 ?_
          refine V_iload_n hC rfl dX11_readRule_65 ?_
          refine V_imul hC dX11_readRule_66 ?_
          refine V_bipush (v := 10) hC (by decide) dX11_readRule_67 ?_
          refine V_aload_n hC rfl dX11_readRule_69 ?_
          refine gf_11_10 hC ht tw_827 dX11_readRule_70 ?_
          refine V_imul hC dX11_readRule_73 ?_
          refine V_iadd hC dX11_readRule_74 ?_
          refine V_topi (fun y10 ey10 => ?_)
          replace h := h y10 ey10
          refine V_istore hC (by decide) dX11_readRule_75 ?_
          refine V_iload_n hC rfl dX11_readRule_77 ?_
          refine V_iconst (v := 1) hC (by decide) dX11_readRule_78 ?_
          refine V_icmp_eq (tgt := 91) hC dX11_readRule_79 (by decide) (fun b14 => ?_) (fun b14 => ?_)
          · replace h := h.1 b14
            refine V_sub (us := [some (ob g t), some (.int x1), none, some (.int y7), some (.int y10), none]) ⟨rfl, rfl, rfl, rfl, trivial⟩ ?_
            exact j_Md_readRule_91 hX hC t x1 y7 y10 ht h
          · replace h := h.2 b14
            refine V_aload_n hC rfl dX11_readRule_82 ?_
            refine V_iconst (v := 0) hC (by decide) dX11_readRule_83 ?_
            refine V_iconst (v := 1) hC (by decide) dX11_readRule_84 ?_
            refine V_calli (As := [.int 0, .int 1]) hC (c_Md_readDigit X.2.1 g w fu _ t 0 1 M8 ht h) mw_X11_readDigit (by decide) tw_924 ht (by decide) rfl rfl rfl (Nat.le_of_ble_eq_true rfl) ⟨Nat.zero_le _, Nat.zero_le _⟩ dX11_readRule_85 (fun r12 M11 h => ?_)
            obtain ⟨hzr12, h⟩ := h
            refine V_if_eq (tgt := 95) hC dX11_readRule_88 (by decide) (fun b13 => ?_) (fun b13 => ?_)
            · replace h := h.1 b13
              refine V_iconst (v := 0) hC (by decide) dX11_readRule_95 ?_
              refine V_sub (us := [some (ob g t), some (.int x1), none, some (.int y7), some (.int y10), none]) ⟨rfl, rfl, rfl, rfl, trivial⟩ ?_
              exact j_Md_readRule_96 hX hC t x1 y7 y10 0 ht h
            · replace h := h.2 b13
              refine V_sub (us := [some (ob g t), some (.int x1), none, some (.int y7), some (.int y10), none]) ⟨rfl, rfl, rfl, rfl, trivial⟩ ?_
              exact j_Md_readRule_91 hX hC t x1 y7 y10 ht h
        · replace h := h.1 b15
          refine V_iconst (v := 0) hC (by decide) dX11_readRule_61 ?_
          exact V_zret hC (Or.inl rfl) h dX11_readRule_62
      · replace h := h.2 b16
        refine V_iconst (v := 0) hC (by decide) dX11_readRule_40 ?_
        exact V_zret hC (Or.inl rfl) h dX11_readRule_41
  · replace h := h.1 b18
    refine V_iconst (v := 0) hC (by decide) dX11_readRule_7 ?_
    exact V_zret hC (Or.inl rfl) h dX11_readRule_8
def f_Md_readCost_17 (fu : Nat) (post : Int32 → Mm → Prop) : Nat → Nat → Int32 → Int32 → Mm → Prop
  | 0, _, _, _, _ => False
  | kf + 1, t, x1, x2, M =>
    ((56 ≤ x2) → post 1 M) ∧ (¬ (56 ≤ x2) → f_Md_readDigit fu (fun r2 M1 => ((r2 = 0) → post 0 M1) ∧ (¬ (r2 = 0) → vp_in (x2 + x1) (ln (t + 2)) ∧ (∀ M4, M4 = up M1 (t + 2) (x2 + x1).toNatClampNeg (M1 t 10) → ∀ y5, y5 = x2 + 6 → f_Md_readCost_17 fu post kf t x1 y5 M4))) t 1 9 M)
def f_Md_readCost (fu : Nat) (post : Int32 → Mm → Prop) (t : Nat) (M : Mm) : Prop :=
  f_Md_readKind fu (fun r2 M1 => ((r2 = 0) → post 0 M1) ∧ (¬ (r2 = 0) → ∀ y3, y3 = (M1 t 10) → f_Md_readCost_17 fu post fu t y3 38 M1)) t M
set_option maxRecDepth 100000 in
theorem l_Md_readCost_17 {l : Launch} {X : CX} {g : GX} {w : WX} {fu : Nat} {post : Int32 → Mm → Prop} (hX : X.2.1 = l) (hC : Cx X g cX11_readCost 3 RX11 (some .boolean) 4) : ∀ (kf : Nat) (t : Nat) (x1 : Int32) (x2 : Int32) (M : Mm) (ht : ok w t 11) (h : f_Md_readCost_17 fu post kf t x1 x2 M), V X g w 3 0 0 (QI X g w (fun r M => zb r ∧ post r M) 0 0) 17 [some (ob g t), some (.int x1), some (.int x2)] [] M := by
  intro kf
  induction kf with
  | zero => intro t x1 x2 M ht h; exact absurd h id
  | succ kf ih =>
    intro t x1 x2 M ht h
    rw [f_Md_readCost_17] at h
    refine V_iload_n hC rfl dX11_readCost_17 ?_
    refine V_bipush (v := 56) hC (by decide) dX11_readCost_18 ?_
    refine V_icmp_ge (tgt := 53) hC dX11_readCost_20 (by decide) (fun b7 => ?_) (fun b7 => ?_)
    · replace h := h.1 b7
      refine V_iconst (v := 1) hC (by decide) dX11_readCost_53 ?_
      exact V_zret hC (Or.inr rfl) h dX11_readCost_54
    · replace h := h.2 b7
      refine V_aload_n hC rfl dX11_readCost_23 ?_
      refine V_iconst (v := 1) hC (by decide) dX11_readCost_24 ?_
      refine V_bipush (v := 9) hC (by decide) dX11_readCost_25 ?_
      refine V_calli (As := [.int 1, .int 9]) hC (c_Md_readDigit X.2.1 g w fu _ t 1 9 M ht h) mw_X11_readDigit (by decide) tw_924 ht (by decide) rfl rfl rfl (Nat.le_of_ble_eq_true rfl) ⟨Nat.zero_le _, Nat.zero_le _⟩ dX11_readCost_27 (fun r2 M1 h => ?_)
      obtain ⟨hzr2, h⟩ := h
      refine V_if_ne (tgt := 35) hC dX11_readCost_30 (by decide) (fun b6 => ?_) (fun b6 => ?_)
      · replace h := h.2 b6
        refine V_aload_n hC rfl dX11_readCost_35 ?_
        refine gf_11_1 hC ht tw_818 dX11_readCost_36 ?_
        refine V_iload_n hC rfl dX11_readCost_39 ?_
        refine V_iload_n hC rfl dX11_readCost_40 ?_
        refine V_iadd hC dX11_readCost_41 ?_
        refine V_aload_n hC rfl dX11_readCost_42 ?_
        refine gf_11_10 hC ht tw_827 dX11_readCost_43 ?_
        obtain ⟨q3, h⟩ := h
        refine V_iast hC (ok_11_1 ht) q3 dX11_readCost_46 ?_
        obtain ⟨M4, eM4⟩ : ∃ z, z = up M1 (t + 2) (x2 + x1).toNatClampNeg (M1 t 10) := ⟨_, rfl⟩
        replace h := h M4 eM4
        refine V_mem eM4 ?_
        obtain ⟨y5, ey5⟩ : ∃ z, z = x2 + 6 := ⟨_, rfl⟩
        replace h := h y5 ey5
        refine V_iinc (v := y5) hC rfl (by rw [ey5]; rfl) (by decide) dX11_readCost_47 ?_
        refine V_goto (tgt := 17) hC (by decide) dX11_readCost_50 ?_
        refine V_sub (us := [some (ob g t), some (.int x1), some (.int y5)]) ⟨rfl, rfl, rfl, trivial⟩ ?_
        exact ih t x1 y5 M4 ht h
      · replace h := h.1 b6
        refine V_iconst (v := 0) hC (by decide) dX11_readCost_33 ?_
        exact V_zret hC (Or.inl rfl) h dX11_readCost_34
set_option maxRecDepth 100000 in
theorem c_Md_readCost (l : Launch) (g : GX) (w : WX) (fu : Nat) (post : Int32 → Mm → Prop) (t : Nat) (M : Mm) (ht : ok w t 11) (h : f_Md_readCost fu post t M) : Met l yX11_readCost [Cond.code yX11_readCost cX11_readCost 3 (some .boolean)] (rmC 4 0 0) (va_Pc [ob g t] (Wb g w M)) (va_Qi (fun r M => zb r ∧ post r M) (Wb g w) (Af g)) 0 0 (Af g) := by
  refine Ct_i (by decide) rfl (fun v hv => by simp only [List.mem_cons, List.not_mem_nil, or_false] at hv; rcases hv with rfl <;> rfl) (Nat.le_of_ble_eq_true rfl) (Nat.le_refl _) ?_
  intro X hX _ hC
  unfold f_Md_readCost at h
  refine V_sub (us := [some (ob g t), none, none]) ⟨rfl, trivial⟩ ?_
  refine V_aload_n hC rfl dX11_readCost_0 ?_
  refine V_calli (As := []) hC (c_Md_readKind X.2.1 g w fu _ t M ht h) mw_X11_readKind (by decide) tw_942 ht (by decide) rfl rfl rfl (Nat.le_of_ble_eq_true rfl) ⟨Nat.zero_le _, Nat.zero_le _⟩ dX11_readCost_1 (fun r2 M1 h => ?_)
  obtain ⟨hzr2, h⟩ := h
  refine V_if_ne (tgt := 9) hC dX11_readCost_4 (by decide) (fun b4 => ?_) (fun b4 => ?_)
  · replace h := h.2 b4
    refine V_aload_n hC rfl dX11_readCost_9 ?_
    refine gf_11_10 hC ht tw_827 dX11_readCost_10 ?_
    refine V_topi (fun y3 ey3 => ?_)
    replace h := h y3 ey3
    refine V_istore_n hC (by decide) dX11_readCost_13 ?_
    refine V_bipush (v := 38) hC (by decide) dX11_readCost_14 ?_
    refine V_istore_n hC (by decide) dX11_readCost_16 ?_
    refine V_sub (us := [some (ob g t), some (.int y3), some (.int 38)]) ⟨rfl, rfl, rfl, trivial⟩ ?_
    exact l_Md_readCost_17 hX hC fu t y3 38 M1 ht h
  · replace h := h.1 b4
    refine V_iconst (v := 0) hC (by decide) dX11_readCost_7 ?_
    exact V_zret hC (Or.inl rfl) h dX11_readCost_8
def f_Md_readStatement_134 (fu : Nat) (post : Int32 → Mm → Prop) (t : Nat) (kx0 : Int32) (M : Mm) : Prop :=
  ((kx0 ≤ 0) → post 0 M) ∧ (¬ (kx0 ≤ 0) → f_Md_readRule fu (fun r2 M1 => ((r2 = 0) → post 0 M1) ∧ (¬ (r2 = 0) → post 1 M1)) t kx0 M)
def f_Md_readStatement_27 (fu : Nat) (post : Int32 → Mm → Prop) (t : Nat) (x1 : Int32) (kx0 : Int32) (kx1 : Int32) (M : Mm) : Prop :=
  ((kx0 = kx1) → ((x1 = 0) → (((lg_cmp (mkL (M t 24) (M t 9)) 688032865) = 0) → f_Md_readAccept fu (fun r8 M7 => post r8 M7) t M) ∧ (¬ ((lg_cmp (mkL (M t 24) (M t 9)) 688032865) = 0) → (((lg_cmp (mkL (M t 24) (M t 9)) 675299) = 0) → f_Md_readCost fu (fun r5 M4 => post r5 M4) t M) ∧ (¬ ((lg_cmp (mkL (M t 24) (M t 9)) 675299) = 0) → (((lg_cmp (mkL (M t 24) (M t 9)) 21177619) = 0) → f_Md_readStatement_134 fu post t 1 M) ∧ (¬ ((lg_cmp (mkL (M t 24) (M t 9)) 21177619) = 0) → (((lg_cmp (mkL (M t 24) (M t 9)) 282288) = 0) → f_Md_readStatement_134 fu post t 2 M) ∧ (¬ ((lg_cmp (mkL (M t 24) (M t 9)) 282288) = 0) → (((lg_cmp (mkL (M t 24) (M t 9)) 16880) = 0) → f_Md_readStatement_134 fu post t 3 M) ∧ (¬ ((lg_cmp (mkL (M t 24) (M t 9)) 16880) = 0) → f_Md_readStatement_134 fu post t 0 M)))))) ∧ (¬ (x1 = 0) → f_Md_readDigit fu (fun r11 M10 => vp_in 0 (ln (t + 2)) ∧ (∀ M13, M13 = up M10 (t + 2) 0 (M10 t 10) → post r11 M13)) t 1 6 M)) ∧ (¬ (kx0 = kx1) → post 0 M)
def f_Md_readStatement (fu : Nat) (post : Int32 → Mm → Prop) (t : Nat) (x1 : Int32) (M : Mm) : Prop :=
  (((M t 7) = 1001) → (((lg_cmp (mkL (M t 24) (M t 9)) 643434131) = 0) → f_Md_readStatement_27 fu post t x1 x1 1 M) ∧ (¬ ((lg_cmp (mkL (M t 24) (M t 9)) 643434131) = 0) → f_Md_readStatement_27 fu post t x1 x1 0 M)) ∧ (¬ ((M t 7) = 1001) → post 0 M)
set_option maxRecDepth 100000 in
theorem j_Md_readStatement_134 {l : Launch} {X : CX} {g : GX} {w : WX} {fu : Nat} {post : Int32 → Mm → Prop} (hX : X.2.1 = l) (hC : Cx X g cX11_readStatement 3 RX11 (some .boolean) 6) (t : Nat) (kx0 : Int32) {M : Mm} (ht : ok w t 11) (h : f_Md_readStatement_134 fu post t kx0 M) : V X g w 3 0 0 (QI X g w (fun r M => zb r ∧ post r M) 0 0) 134 [some (ob g t), none, none] [.int kx0] M := by
  unfold f_Md_readStatement_134 at h
  refine V_istore_n hC (by decide) dX11_readStatement_134 ?_
  refine V_iload_n hC rfl dX11_readStatement_135 ?_
  refine V_if_le (tgt := 151) hC dX11_readStatement_136 (by decide) (fun b4 => ?_) (fun b4 => ?_)
  · replace h := h.1 b4
    refine V_iconst (v := 0) hC (by decide) dX11_readStatement_151 ?_
    exact V_zret hC (Or.inl rfl) h dX11_readStatement_152
  · replace h := h.2 b4
    refine V_aload_n hC rfl dX11_readStatement_139 ?_
    refine V_iload_n hC rfl dX11_readStatement_140 ?_
    refine V_calli (As := [.int kx0]) hC (c_Md_readRule X.2.1 g w fu _ t kx0 M ht h) mw_X11_readRule (by decide) tw_950 ht (by decide) rfl rfl rfl (Nat.le_of_ble_eq_true rfl) ⟨Nat.zero_le _, Nat.zero_le _⟩ dX11_readStatement_141 (fun r2 M1 h => ?_)
    obtain ⟨hzr2, h⟩ := h
    refine V_if_eq (tgt := 151) hC dX11_readStatement_144 (by decide) (fun b3 => ?_) (fun b3 => ?_)
    · replace h := h.1 b3
      refine V_iconst (v := 0) hC (by decide) dX11_readStatement_151 ?_
      exact V_zret hC (Or.inl rfl) h dX11_readStatement_152
    · replace h := h.2 b3
      refine V_iconst (v := 1) hC (by decide) dX11_readStatement_147 ?_
      refine V_goto (tgt := 152) hC (by decide) dX11_readStatement_148 ?_
      exact V_zret hC (Or.inr rfl) h dX11_readStatement_152
set_option maxRecDepth 100000 in
theorem j_Md_readStatement_27 {l : Launch} {X : CX} {g : GX} {w : WX} {fu : Nat} {post : Int32 → Mm → Prop} (hX : X.2.1 = l) (hC : Cx X g cX11_readStatement 3 RX11 (some .boolean) 6) (t : Nat) (x1 : Int32) (kx0 : Int32) (kx1 : Int32) {M : Mm} (ht : ok w t 11) (h : f_Md_readStatement_27 fu post t x1 kx0 kx1 M) : V X g w 3 0 0 (QI X g w (fun r M => zb r ∧ post r M) 0 0) 27 [some (ob g t), some (.int x1), none] [.int kx1, .int kx0] M := by
  unfold f_Md_readStatement_27 at h
  refine V_icmp_eq (tgt := 32) hC dX11_readStatement_27 (by decide) (fun b15 => ?_) (fun b15 => ?_)
  · replace h := h.1 b15
    refine V_iload_n hC rfl dX11_readStatement_32 ?_
    refine V_if_eq (tgt := 56) hC dX11_readStatement_33 (by decide) (fun b14 => ?_) (fun b14 => ?_)
    · replace h := h.1 b14
      refine V_aload_n hC rfl dX11_readStatement_56 ?_
      refine gf_11_9 hC ht tw_826 dX11_readStatement_57 ?_
      refine V_ldc2 hC tw_928 dX11_readStatement_60 ?_
      refine V_lcmp hC dX11_readStatement_63 ?_
      refine V_if_ne (tgt := 72) hC dX11_readStatement_64 (by decide) (fun b9 => ?_) (fun b9 => ?_)
      · replace h := h.2 b9
        refine V_aload_n hC rfl dX11_readStatement_72 ?_
        refine gf_11_9 hC ht tw_826 dX11_readStatement_73 ?_
        refine V_ldc2 hC tw_937 dX11_readStatement_76 ?_
        refine V_lcmp hC dX11_readStatement_79 ?_
        refine V_if_ne (tgt := 88) hC dX11_readStatement_80 (by decide) (fun b6 => ?_) (fun b6 => ?_)
        · replace h := h.2 b6
          refine V_aload_n hC rfl dX11_readStatement_88 ?_
          refine gf_11_9 hC ht tw_826 dX11_readStatement_89 ?_
          refine V_ldc2 hC tw_947 dX11_readStatement_92 ?_
          refine V_lcmp hC dX11_readStatement_95 ?_
          refine V_if_ne (tgt := 103) hC dX11_readStatement_96 (by decide) (fun b3 => ?_) (fun b3 => ?_)
          · replace h := h.2 b3
            refine V_aload_n hC rfl dX11_readStatement_103 ?_
            refine gf_11_9 hC ht tw_826 dX11_readStatement_104 ?_
            refine V_ldc2 hC tw_948 dX11_readStatement_107 ?_
            refine V_lcmp hC dX11_readStatement_110 ?_
            refine V_if_ne (tgt := 118) hC dX11_readStatement_111 (by decide) (fun b2 => ?_) (fun b2 => ?_)
            · replace h := h.2 b2
              refine V_aload_n hC rfl dX11_readStatement_118 ?_
              refine gf_11_9 hC ht tw_826 dX11_readStatement_119 ?_
              refine V_ldc2 hC tw_949 dX11_readStatement_122 ?_
              refine V_lcmp hC dX11_readStatement_125 ?_
              refine V_if_ne (tgt := 133) hC dX11_readStatement_126 (by decide) (fun b1 => ?_) (fun b1 => ?_)
              · replace h := h.2 b1
                refine V_iconst (v := 0) hC (by decide) dX11_readStatement_133 ?_
                refine V_sub (us := [some (ob g t), none, none]) ⟨rfl, trivial⟩ ?_
                exact j_Md_readStatement_134 hX hC t 0 ht h
              · replace h := h.1 b1
                refine V_iconst (v := 3) hC (by decide) dX11_readStatement_129 ?_
                refine V_goto (tgt := 134) hC (by decide) dX11_readStatement_130 ?_
                refine V_sub (us := [some (ob g t), none, none]) ⟨rfl, trivial⟩ ?_
                exact j_Md_readStatement_134 hX hC t 3 ht h
            · replace h := h.1 b2
              refine V_iconst (v := 2) hC (by decide) dX11_readStatement_114 ?_
              refine V_goto (tgt := 134) hC (by decide) dX11_readStatement_115 ?_
              refine V_sub (us := [some (ob g t), none, none]) ⟨rfl, trivial⟩ ?_
              exact j_Md_readStatement_134 hX hC t 2 ht h
          · replace h := h.1 b3
            refine V_iconst (v := 1) hC (by decide) dX11_readStatement_99 ?_
            refine V_goto (tgt := 134) hC (by decide) dX11_readStatement_100 ?_
            refine V_sub (us := [some (ob g t), none, none]) ⟨rfl, trivial⟩ ?_
            exact j_Md_readStatement_134 hX hC t 1 ht h
        · replace h := h.1 b6
          refine V_aload_n hC rfl dX11_readStatement_83 ?_
          refine V_calli (As := []) hC (c_Md_readCost X.2.1 g w fu _ t M ht h) mw_X11_readCost (by decide) tw_938 ht (by decide) rfl rfl rfl (Nat.le_of_ble_eq_true rfl) ⟨Nat.zero_le _, Nat.zero_le _⟩ dX11_readStatement_84 (fun r5 M4 h => ?_)
          obtain ⟨hzr5, h⟩ := h
          exact V_zret hC hzr5 h dX11_readStatement_87
      · replace h := h.1 b9
        refine V_aload_n hC rfl dX11_readStatement_67 ?_
        refine V_calli (As := []) hC (c_Md_readAccept X.2.1 g w fu _ t M ht h) mw_X11_readAccept (by decide) tw_929 ht (by decide) rfl rfl rfl (Nat.le_of_ble_eq_true rfl) ⟨Nat.zero_le _, Nat.zero_le _⟩ dX11_readStatement_68 (fun r8 M7 h => ?_)
        obtain ⟨hzr8, h⟩ := h
        exact V_zret hC hzr8 h dX11_readStatement_71
    · replace h := h.2 b14
      refine V_aload_n hC rfl dX11_readStatement_36 ?_
      refine V_iconst (v := 1) hC (by decide) dX11_readStatement_37 ?_
      refine V_bipush (v := 6) hC (by decide) dX11_readStatement_38 ?_
      refine V_calli (As := [.int 1, .int 6]) hC (c_Md_readDigit X.2.1 g w fu _ t 1 6 M ht h) mw_X11_readDigit (by decide) tw_924 ht (by decide) rfl rfl rfl (Nat.le_of_ble_eq_true rfl) ⟨Nat.zero_le _, Nat.zero_le _⟩ dX11_readStatement_40 (fun r11 M10 h => ?_)
      obtain ⟨hzr11, h⟩ := h
      refine V_istore_n hC (by decide) dX11_readStatement_43 ?_
      refine V_aload_n hC rfl dX11_readStatement_44 ?_
      refine gf_11_1 hC ht tw_818 dX11_readStatement_45 ?_
      refine V_iconst (v := 0) hC (by decide) dX11_readStatement_48 ?_
      refine V_aload_n hC rfl dX11_readStatement_49 ?_
      refine gf_11_10 hC ht tw_827 dX11_readStatement_50 ?_
      obtain ⟨q12, h⟩ := h
      refine V_isL (j := 0) (by decide) hC (ok_11_1 ht) q12 dX11_readStatement_53 ?_
      obtain ⟨M13, eM13⟩ : ∃ z, z = up M10 (t + 2) 0 (M10 t 10) := ⟨_, rfl⟩
      replace h := h M13 eM13
      refine V_mem eM13 ?_
      refine V_iload_n hC rfl dX11_readStatement_54 ?_
      exact V_zret hC hzr11 h dX11_readStatement_55
  · replace h := h.2 b15
    refine V_iconst (v := 0) hC (by decide) dX11_readStatement_30 ?_
    exact V_zret hC (Or.inl rfl) h dX11_readStatement_31
set_option maxRecDepth 100000 in
theorem c_Md_readStatement (l : Launch) (g : GX) (w : WX) (fu : Nat) (post : Int32 → Mm → Prop) (t : Nat) (x1 : Int32) (M : Mm) (ht : ok w t 11) (h : f_Md_readStatement fu post t x1 M) : Met l yX11_readStatement [Cond.code yX11_readStatement cX11_readStatement 3 (some .boolean)] (rmC 6 0 0) (va_Pc [ob g t, .int x1] (Wb g w M)) (va_Qi (fun r M => zb r ∧ post r M) (Wb g w) (Af g)) 0 0 (Af g) := by
  refine Ct_i (by decide) rfl (fun v hv => by simp only [List.mem_cons, List.not_mem_nil, or_false] at hv; rcases hv with rfl | rfl <;> rfl) (Nat.le_of_ble_eq_true rfl) (Nat.le_refl _) ?_
  intro X hX _ hC
  unfold f_Md_readStatement at h
  refine V_sub (us := [some (ob g t), some (.int x1), none]) ⟨rfl, rfl, trivial⟩ ?_
  refine V_aload_n hC rfl dX11_readStatement_0 ?_
  refine gf_11_7 hC ht tw_824 dX11_readStatement_1 ?_
  refine V_sipush (v := 1001) hC (by decide) dX11_readStatement_4 ?_
  refine V_icmp_ne (tgt := 30) hC dX11_readStatement_7 (by decide) (fun b2 => ?_) (fun b2 => ?_)
  · replace h := h.2 b2
    refine V_iconst (v := 0) hC (by decide) dX11_readStatement_30 ?_
    exact V_zret hC (Or.inl rfl) h dX11_readStatement_31
  · replace h := h.1 b2
    refine V_iload_n hC rfl dX11_readStatement_10 ?_
    refine V_aload_n hC rfl dX11_readStatement_11 ?_
    refine gf_11_9 hC ht tw_826 dX11_readStatement_12 ?_
    refine V_ldc2 hC tw_923 dX11_readStatement_15 ?_
    refine V_lcmp hC dX11_readStatement_18 ?_
    refine V_if_ne (tgt := 26) hC dX11_readStatement_19 (by decide) (fun b1 => ?_) (fun b1 => ?_)
    · replace h := h.2 b1
      refine V_iconst (v := 0) hC (by decide) dX11_readStatement_26 ?_
      refine V_sub (us := [some (ob g t), some (.int x1), none]) ⟨rfl, rfl, trivial⟩ ?_
      exact j_Md_readStatement_27 hX hC t x1 x1 0 ht h
    · replace h := h.1 b1
      refine V_iconst (v := 1) hC (by decide) dX11_readStatement_22 ?_
      refine V_goto (tgt := 27) hC (by decide) dX11_readStatement_23 ?_
      refine V_sub (us := [some (ob g t), some (.int x1), none]) ⟨rfl, rfl, trivial⟩ ?_
      exact j_Md_readStatement_27 hX hC t x1 x1 1 ht h
def f_Md_parse_51 (fu : Nat) (post : Int32 → Mm → Prop) (K21 : Nat → Mm → Prop) (t : Nat) (ka0 : Nat) (kx1 : Int32) (M : Mm) : Prop :=
  f_Md_readStatement fu (fun r2 M1 => ((r2 = 0) → post (M1 t 8) M1) ∧ (¬ (r2 = 0) → f_Md_next fu (fun M3 => (((M3 t 7) = 59) → ∀ M4, M4 = up M3 t 11 ((M3 t 11) + 1) → f_Md_next fu (fun M5 => K21 t M5) t M4) ∧ (¬ ((M3 t 7) = 59) → post (M3 t 8) M3)) t M1)) ka0 kx1 M
def f_Md_parse_38 (fu : Nat) (post : Int32 → Mm → Prop) (K21 : Nat → Mm → Prop) (t : Nat) (M : Mm) : Prop :=
  (((M t 11) = 0) → f_Md_parse_51 fu post K21 t t 1 M) ∧ (¬ ((M t 11) = 0) → f_Md_parse_51 fu post K21 t t 0 M)
def f_Md_parse_21 (fu : Nat) (post : Int32 → Mm → Prop) : Nat → Nat → Mm → Prop
  | 0, _, _ => False
  | kf + 1, t, M =>
    (((M t 7) = 1000) → (((M t 11) = 0) → f_Md_parse_38 fu post (f_Md_parse_21 fu post kf) t M) ∧ (¬ ((M t 11) = 0) → post (-9) M)) ∧ (¬ ((M t 7) = 1000) → f_Md_parse_38 fu post (f_Md_parse_21 fu post kf) t M)
def f_Md_parse (fu : Nat) (post : Int32 → Mm → Prop) (t : Nat) (M : Mm) : Prop :=
  f_Md_clearData fu (fun M1 => ∀ M2, M2 = up M1 t 11 0 → ∀ M3, M3 = up M2 t 6 0 → f_Md_next fu (fun M4 => f_Md_parse_21 fu post fu t M4) t M3) (t + 2) M
set_option maxRecDepth 100000 in
theorem j_Md_parse_51 {l : Launch} {X : CX} {g : GX} {w : WX} {fu : Nat} {post : Int32 → Mm → Prop} (hX : X.2.1 = l) (hC : Cx X g cX11_parse 1 RX11 (some .int) 7) {K21 : Nat → Mm → Prop} (hK21 : ∀ (t : Nat) (M : Mm), ok w t 11 → K21 t M → V X g w 1 0 0 (QI X g w post 0 0) 21 [some (ob g t)] [] M) (t : Nat) (ka0 : Nat) (kx1 : Int32) {M : Mm} (ht : ok w t 11) (hka0 : ok w ka0 11) (h : f_Md_parse_51 fu post K21 t ka0 kx1 M) : V X g w 1 0 0 (QI X g w post 0 0) 51 [some (ob g t)] [.int kx1, ob g ka0] M := by
  unfold f_Md_parse_51 at h
  refine V_calli (As := [.int kx1]) hC (c_Md_readStatement X.2.1 g w fu _ ka0 kx1 M hka0 h) mw_X11_readStatement (by decide) tw_919 hka0 (by decide) rfl rfl rfl (Nat.le_of_ble_eq_true rfl) ⟨Nat.zero_le _, Nat.zero_le _⟩ dX11_parse_51 (fun r2 M1 h => ?_)
  obtain ⟨hzr2, h⟩ := h
  refine V_if_ne (tgt := 62) hC dX11_parse_54 (by decide) (fun b7 => ?_) (fun b7 => ?_)
  · replace h := h.2 b7
    refine V_aload_n hC rfl dX11_parse_62 ?_
    refine V_callv (As := []) hC (c_Md_next X.2.1 g w fu _ t M1 ht h) mw_X11_next (by decide) tw_909 ht (by decide) rfl rfl rfl (Nat.le_of_ble_eq_true rfl) ⟨Nat.zero_le _, Nat.zero_le _⟩ dX11_parse_63 (fun M3 h => ?_)
    refine V_aload_n hC rfl dX11_parse_66 ?_
    refine gf_11_7 hC ht tw_824 dX11_parse_67 ?_
    refine V_bipush (v := 59) hC (by decide) dX11_parse_70 ?_
    refine V_icmp_eq (tgt := 80) hC dX11_parse_72 (by decide) (fun b6 => ?_) (fun b6 => ?_)
    · replace h := h.1 b6
      refine V_aload_n hC rfl dX11_parse_80 ?_
      refine V_dup hC rfl dX11_parse_81 ?_
      refine gf_11_11 hC ht tw_828 dX11_parse_82 ?_
      refine V_iconst (v := 1) hC (by decide) dX11_parse_85 ?_
      refine V_iadd hC dX11_parse_86 ?_
      refine pf_11_11 hC ht tw_828 dX11_parse_87 ?_
      obtain ⟨M4, eM4⟩ : ∃ z, z = up M3 t 11 ((M3 t 11) + 1) := ⟨_, rfl⟩
      replace h := h M4 eM4
      refine V_mem eM4 ?_
      refine V_aload_n hC rfl dX11_parse_90 ?_
      refine V_callv (As := []) hC (c_Md_next X.2.1 g w fu _ t M4 ht h) mw_X11_next (by decide) tw_909 ht (by decide) rfl rfl rfl (Nat.le_of_ble_eq_true rfl) ⟨Nat.zero_le _, Nat.zero_le _⟩ dX11_parse_91 (fun M5 h => ?_)
      refine V_goto (tgt := 21) hC (by decide) dX11_parse_94 ?_
      refine V_sub (us := [some (ob g t)]) ⟨rfl, trivial⟩ ?_
      exact hK21 t M5 ht h
    · replace h := h.2 b6
      refine V_aload_n hC rfl dX11_parse_75 ?_
      refine gf_11_8 hC ht tw_825 dX11_parse_76 ?_
      exact V_iret hC h dX11_parse_79
  · replace h := h.1 b7
    refine V_aload_n hC rfl dX11_parse_57 ?_
    refine gf_11_8 hC ht tw_825 dX11_parse_58 ?_
    exact V_iret hC h dX11_parse_61
set_option maxRecDepth 100000 in
theorem j_Md_parse_38 {l : Launch} {X : CX} {g : GX} {w : WX} {fu : Nat} {post : Int32 → Mm → Prop} (hX : X.2.1 = l) (hC : Cx X g cX11_parse 1 RX11 (some .int) 7) {K21 : Nat → Mm → Prop} (hK21 : ∀ (t : Nat) (M : Mm), ok w t 11 → K21 t M → V X g w 1 0 0 (QI X g w post 0 0) 21 [some (ob g t)] [] M) (t : Nat) {M : Mm} (ht : ok w t 11) (h : f_Md_parse_38 fu post K21 t M) : V X g w 1 0 0 (QI X g w post 0 0) 38 [some (ob g t)] [] M := by
  unfold f_Md_parse_38 at h
  refine V_aload_n hC rfl dX11_parse_38 ?_
  refine V_aload_n hC rfl dX11_parse_39 ?_
  refine gf_11_11 hC ht tw_828 dX11_parse_40 ?_
  refine V_if_ne (tgt := 50) hC dX11_parse_43 (by decide) (fun b1 => ?_) (fun b1 => ?_)
  · replace h := h.2 b1
    refine V_iconst (v := 0) hC (by decide) dX11_parse_50 ?_
    refine V_sub (us := [some (ob g t)]) ⟨rfl, trivial⟩ ?_
    exact j_Md_parse_51 hX hC hK21 t t 0 ht ht h
  · replace h := h.1 b1
    refine V_iconst (v := 1) hC (by decide) dX11_parse_46 ?_
    refine V_goto (tgt := 51) hC (by decide) dX11_parse_47 ?_
    refine V_sub (us := [some (ob g t)]) ⟨rfl, trivial⟩ ?_
    exact j_Md_parse_51 hX hC hK21 t t 1 ht ht h
set_option maxRecDepth 100000 in
theorem l_Md_parse_21 {l : Launch} {X : CX} {g : GX} {w : WX} {fu : Nat} {post : Int32 → Mm → Prop} (hX : X.2.1 = l) (hC : Cx X g cX11_parse 1 RX11 (some .int) 7) : ∀ (kf : Nat) (t : Nat) (M : Mm) (ht : ok w t 11) (h : f_Md_parse_21 fu post kf t M), V X g w 1 0 0 (QI X g w post 0 0) 21 [some (ob g t)] [] M := by
  intro kf
  induction kf with
  | zero => intro t M ht h; exact absurd h id
  | succ kf ih =>
    intro t M ht h
    rw [f_Md_parse_21] at h
    refine V_aload_n hC rfl dX11_parse_21 ?_
    refine gf_11_7 hC ht tw_824 dX11_parse_22 ?_
    refine V_sipush (v := 1000) hC (by decide) dX11_parse_25 ?_
    refine V_icmp_ne (tgt := 38) hC dX11_parse_28 (by decide) (fun b2 => ?_) (fun b2 => ?_)
    · replace h := h.2 b2
      refine V_sub (us := [some (ob g t)]) ⟨rfl, trivial⟩ ?_
      exact j_Md_parse_38 hX hC ih t ht h
    · replace h := h.1 b2
      refine V_aload_n hC rfl dX11_parse_31 ?_
      refine gf_11_11 hC ht tw_828 dX11_parse_32 ?_
      refine V_if_ne (tgt := 97) hC dX11_parse_35 (by decide) (fun b1 => ?_) (fun b1 => ?_)
      · replace h := h.2 b1
        refine V_bipush (v := (-9)) hC (by decide) dX11_parse_97 ?_
        exact V_iret hC h dX11_parse_99
      · replace h := h.1 b1
        refine V_sub (us := [some (ob g t)]) ⟨rfl, trivial⟩ ?_
        exact j_Md_parse_38 hX hC ih t ht h
set_option maxRecDepth 100000 in
theorem c_Md_parse (l : Launch) (g : GX) (w : WX) (fu : Nat) (post : Int32 → Mm → Prop) (t : Nat) (M : Mm) (ht : ok w t 11) (h : f_Md_parse fu post t M) : Met l yX11_parse [Cond.code yX11_parse cX11_parse 1 (some .int)] (rmC 7 0 0) (va_Pc [ob g t] (Wb g w M)) (va_Qi post (Wb g w) (Af g)) 0 0 (Af g) := by
  refine Ct_i (by decide) rfl (fun v hv => by simp only [List.mem_cons, List.not_mem_nil, or_false] at hv; rcases hv with rfl <;> rfl) (Nat.le_of_ble_eq_true rfl) (Nat.le_refl _) ?_
  intro X hX _ hC
  unfold f_Md_parse at h
  refine V_sub (us := [some (ob g t)]) ⟨rfl, trivial⟩ ?_
  refine V_aload_n hC rfl dX11_parse_0 ?_
  refine gf_11_1 hC ht tw_818 dX11_parse_1 ?_
  refine V_scallv (As := [ob g (t + 2)]) hC (c_Md_clearData X.2.1 g w fu _ (t + 2) M (ok_11_1 ht) h) mw_X11_clearData (by decide) tw_814 rfl rfl (Nat.le_of_ble_eq_true rfl) ⟨Nat.zero_le _, Nat.zero_le _⟩ dX11_parse_4 (fun M1 h => ?_)
  refine V_aload_n hC rfl dX11_parse_7 ?_
  refine V_iconst (v := 0) hC (by decide) dX11_parse_8 ?_
  refine pf_11_11 hC ht tw_828 dX11_parse_9 ?_
  obtain ⟨M2, eM2⟩ : ∃ z, z = up M1 t 11 0 := ⟨_, rfl⟩
  replace h := h M2 eM2
  refine V_mem eM2 ?_
  refine V_aload_n hC rfl dX11_parse_12 ?_
  refine V_iconst (v := 0) hC (by decide) dX11_parse_13 ?_
  refine pf_11_6 hC ht tw_823 dX11_parse_14 ?_
  obtain ⟨M3, eM3⟩ : ∃ z, z = up M2 t 6 0 := ⟨_, rfl⟩
  replace h := h M3 eM3
  refine V_mem eM3 ?_
  refine V_aload_n hC rfl dX11_parse_17 ?_
  refine V_callv (As := []) hC (c_Md_next X.2.1 g w fu _ t M3 ht h) mw_X11_next (by decide) tw_909 ht (by decide) rfl rfl rfl (Nat.le_of_ble_eq_true rfl) ⟨Nat.zero_le _, Nat.zero_le _⟩ dX11_parse_18 (fun M4 h => ?_)
  refine V_sub (us := [some (ob g t)]) ⟨rfl, trivial⟩ ?_
  exact l_Md_parse_21 hX hC fu t M4 ht h
def f_Md_appendCharacter (fu : Nat) (post : Int32 → Mm → Prop) (t : Nat) (x1 : Int32) (M : Mm) : Prop :=
  f_Md_in fu (fun r2 M1 => ((r2 = 0) → post (-1) M1) ∧ (¬ (r2 = 0) → (((M1 t 5) = 150) → post (-3) M1) ∧ (¬ ((M1 t 5) = 150) → vp_in (M1 t 5) (ln (t + 4)) ∧ (∀ M4, M4 = up M1 (t + 4) (M1 t 5).toNatClampNeg x1 → ∀ M5, M5 = up M4 t 5 ((M4 t 5) + 1) → post (M5 t 5) M5)))) x1 0 255 M
set_option maxRecDepth 100000 in
theorem c_Md_appendCharacter (l : Launch) (g : GX) (w : WX) (fu : Nat) (post : Int32 → Mm → Prop) (t : Nat) (x1 : Int32) (M : Mm) (ht : ok w t 11) (h : f_Md_appendCharacter fu post t x1 M) : Met l yX11_appendCharacter [Cond.code yX11_appendCharacter cX11_appendCharacter 2 (some .int)] (rmC 1 0 0) (va_Pc [ob g t, .int x1] (Wb g w M)) (va_Qi post (Wb g w) (Af g)) 0 0 (Af g) := by
  refine Ct_i (by decide) rfl (fun v hv => by simp only [List.mem_cons, List.not_mem_nil, or_false] at hv; rcases hv with rfl | rfl <;> rfl) (Nat.le_of_ble_eq_true rfl) (Nat.le_refl _) ?_
  intro X hX _ hC
  unfold f_Md_appendCharacter at h
  refine V_sub (us := [some (ob g t), some (.int x1)]) ⟨rfl, rfl, trivial⟩ ?_
  refine V_iload_n hC rfl dX11_appendCharacter_0 ?_
  refine V_iconst (v := 0) hC (by decide) dX11_appendCharacter_1 ?_
  refine V_sipush (v := 255) hC (by decide) dX11_appendCharacter_2 ?_
  refine V_scalli (As := [.int x1, .int 0, .int 255]) hC (c_Md_in X.2.1 g w fu _ x1 0 255 M h) mw_X11_in (by decide) tw_894 rfl rfl (Nat.le_of_ble_eq_true rfl) ⟨Nat.zero_le _, Nat.zero_le _⟩ dX11_appendCharacter_5 (fun r2 M1 h => ?_)
  obtain ⟨hzr2, h⟩ := h
  refine V_if_ne (tgt := 13) hC dX11_appendCharacter_8 (by decide) (fun b7 => ?_) (fun b7 => ?_)
  · replace h := h.2 b7
    refine V_aload_n hC rfl dX11_appendCharacter_13 ?_
    refine gf_11_5 hC ht tw_822 dX11_appendCharacter_14 ?_
    refine V_sipush (v := 150) hC (by decide) dX11_appendCharacter_17 ?_
    refine V_icmp_ne (tgt := 26) hC dX11_appendCharacter_20 (by decide) (fun b6 => ?_) (fun b6 => ?_)
    · replace h := h.2 b6
      refine V_aload_n hC rfl dX11_appendCharacter_26 ?_
      refine gf_11_4 hC ht tw_821 dX11_appendCharacter_27 ?_
      refine V_aload_n hC rfl dX11_appendCharacter_30 ?_
      refine gf_11_5 hC ht tw_822 dX11_appendCharacter_31 ?_
      refine V_iload_n hC rfl dX11_appendCharacter_34 ?_
      obtain ⟨q3, h⟩ := h
      refine V_iast hC (ok_11_4 ht) q3 dX11_appendCharacter_35 ?_
      obtain ⟨M4, eM4⟩ : ∃ z, z = up M1 (t + 4) (M1 t 5).toNatClampNeg x1 := ⟨_, rfl⟩
      replace h := h M4 eM4
      refine V_mem eM4 ?_
      refine V_aload_n hC rfl dX11_appendCharacter_36 ?_
      refine V_dup hC rfl dX11_appendCharacter_37 ?_
      refine gf_11_5 hC ht tw_822 dX11_appendCharacter_38 ?_
      refine V_iconst (v := 1) hC (by decide) dX11_appendCharacter_41 ?_
      refine V_iadd hC dX11_appendCharacter_42 ?_
      refine pf_11_5 hC ht tw_822 dX11_appendCharacter_43 ?_
      obtain ⟨M5, eM5⟩ : ∃ z, z = up M4 t 5 ((M4 t 5) + 1) := ⟨_, rfl⟩
      replace h := h M5 eM5
      refine V_mem eM5 ?_
      refine V_aload_n hC rfl dX11_appendCharacter_46 ?_
      refine gf_11_5 hC ht tw_822 dX11_appendCharacter_47 ?_
      exact V_iret hC h dX11_appendCharacter_50
    · replace h := h.1 b6
      refine V_bipush (v := (-3)) hC (by decide) dX11_appendCharacter_23 ?_
      exact V_iret hC h dX11_appendCharacter_25
  · replace h := h.1 b7
    refine V_iconst (v := (-1)) hC (by decide) dX11_appendCharacter_11 ?_
    exact V_iret hC h dX11_appendCharacter_12
def f_Md_clearText (fu : Nat) (post : Int32 → Mm → Prop) (t : Nat) (M : Mm) : Prop :=
  ∀ y1, y1 = (M t 5) → ∀ M2, M2 = up M t 5 0 → post y1 M2
set_option maxRecDepth 100000 in
theorem c_Md_clearText (l : Launch) (g : GX) (w : WX) (fu : Nat) (post : Int32 → Mm → Prop) (t : Nat) (M : Mm) (ht : ok w t 11) (h : f_Md_clearText fu post t M) : Met l yX11_clearText [Cond.code yX11_clearText cX11_clearText 2 (some .int)] (rmC 0 0 0) (va_Pc [ob g t] (Wb g w M)) (va_Qi post (Wb g w) (Af g)) 0 0 (Af g) := by
  refine Ct_i (by decide) rfl (fun v hv => by simp only [List.mem_cons, List.not_mem_nil, or_false] at hv; rcases hv with rfl <;> rfl) (Nat.le_of_ble_eq_true rfl) (Nat.le_refl _) ?_
  intro X hX _ hC
  unfold f_Md_clearText at h
  refine V_sub (us := [some (ob g t), none]) ⟨rfl, trivial⟩ ?_
  refine V_aload_n hC rfl dX11_clearText_0 ?_
  refine gf_11_5 hC ht tw_822 dX11_clearText_1 ?_
  refine V_topi (fun y1 ey1 => ?_)
  replace h := h y1 ey1
  refine V_istore_n hC (by decide) dX11_clearText_4 ?_
  refine V_aload_n hC rfl dX11_clearText_5 ?_
  refine V_iconst (v := 0) hC (by decide) dX11_clearText_6 ?_
  refine pf_11_5 hC ht tw_822 dX11_clearText_7 ?_
  obtain ⟨M2, eM2⟩ : ∃ z, z = up M t 5 0 := ⟨_, rfl⟩
  replace h := h M2 eM2
  refine V_mem eM2 ?_
  refine V_iload_n hC rfl dX11_clearText_10 ?_
  exact V_iret hC h dX11_clearText_11
def f_Md_loadGrammar (fu : Nat) (post : Int32 → Mm → Prop) (t : Nat) (M : Mm) : Prop :=
  f_Md_parse fu (fun r2 M1 => ((r2 = (-9)) → f_Md_save fu (fun M3 => f_Md_copyData fu (fun M4 => ∀ M5, M5 = up M4 t 5 0 → post (M5 t 11) M5) (t + 2) 0 (t + 1) 0 M3) t M1) ∧ (¬ (r2 = (-9)) → post ((-10) - r2) M1)) t M
set_option maxRecDepth 100000 in
theorem c_Md_loadGrammar (l : Launch) (g : GX) (w : WX) (fu : Nat) (post : Int32 → Mm → Prop) (t : Nat) (M : Mm) (ht : ok w t 11) (h : f_Md_loadGrammar fu post t M) : Met l yX11_loadGrammar [Cond.code yX11_loadGrammar cX11_loadGrammar 2 (some .int)] (rmC 8 0 0) (va_Pc [ob g t] (Wb g w M)) (va_Qi post (Wb g w) (Af g)) 0 0 (Af g) := by
  refine Ct_i (by decide) rfl (fun v hv => by simp only [List.mem_cons, List.not_mem_nil, or_false] at hv; rcases hv with rfl <;> rfl) (Nat.le_of_ble_eq_true rfl) (Nat.le_refl _) ?_
  intro X hX _ hC
  unfold f_Md_loadGrammar at h
  refine V_sub (us := [some (ob g t), none]) ⟨rfl, trivial⟩ ?_
  refine V_aload_n hC rfl dX11_loadGrammar_0 ?_
  refine V_calli (As := []) hC (c_Md_parse X.2.1 g w fu _ t M ht h) mw_X11_parse (by decide) tw_905 ht (by decide) rfl rfl rfl (Nat.le_of_ble_eq_true rfl) ⟨Nat.zero_le _, Nat.zero_le _⟩ dX11_loadGrammar_1 (fun r2 M1 h => ?_)
  refine V_istore_n hC (by decide) dX11_loadGrammar_4 ?_
  refine V_iload_n hC rfl dX11_loadGrammar_5 ?_
  refine V_bipush (v := (-9)) hC (by decide) dX11_loadGrammar_6 ?_
  refine V_icmp_eq (tgt := 16) hC dX11_loadGrammar_8 (by decide) (fun b6 => ?_) (fun b6 => ?_)
  · replace h := h.1 b6
    refine V_aload_n hC rfl dX11_loadGrammar_16 ?_
    refine V_callv (As := []) hC (c_Md_save X.2.1 g w fu _ t M1 ht h) mw_X11_save (by decide) tw_954 ht (by decide) rfl rfl rfl (Nat.le_of_ble_eq_true rfl) ⟨Nat.zero_le _, Nat.zero_le _⟩ dX11_loadGrammar_17 (fun M3 h => ?_)
    refine V_aload_n hC rfl dX11_loadGrammar_20 ?_
    refine gf_11_1 hC ht tw_818 dX11_loadGrammar_21 ?_
    refine V_iconst (v := 0) hC (by decide) dX11_loadGrammar_24 ?_
    refine V_aload_n hC rfl dX11_loadGrammar_25 ?_
    refine gf_11_0 hC ht tw_817 dX11_loadGrammar_26 ?_
    refine V_iconst (v := 0) hC (by decide) dX11_loadGrammar_29 ?_
    refine V_scallv (As := [ob g (t + 2), .int 0, ob g (t + 1), .int 0]) hC (c_Md_copyData X.2.1 g w fu _ (t + 2) 0 (t + 1) 0 M3 (ok_11_1 ht) (ok_11_0 ht) h) mw_X11_copyData (by decide) tw_958 rfl rfl (Nat.le_of_ble_eq_true rfl) ⟨Nat.zero_le _, Nat.zero_le _⟩ dX11_loadGrammar_30 (fun M4 h => ?_)
    refine V_aload_n hC rfl dX11_loadGrammar_33 ?_
    refine V_iconst (v := 0) hC (by decide) dX11_loadGrammar_34 ?_
    refine pf_11_5 hC ht tw_822 dX11_loadGrammar_35 ?_
    obtain ⟨M5, eM5⟩ : ∃ z, z = up M4 t 5 0 := ⟨_, rfl⟩
    replace h := h M5 eM5
    refine V_mem eM5 ?_
    refine V_aload_n hC rfl dX11_loadGrammar_38 ?_
    refine gf_11_11 hC ht tw_828 dX11_loadGrammar_39 ?_
    exact V_iret hC h dX11_loadGrammar_42
  · replace h := h.2 b6
    refine V_bipush (v := (-10)) hC (by decide) dX11_loadGrammar_11 ?_
    refine V_iload_n hC rfl dX11_loadGrammar_13 ?_
    refine V_isub hC dX11_loadGrammar_14 ?_
    exact V_iret hC h dX11_loadGrammar_15
def f_Md_isKind (fu : Nat) (post : Int32 → Mm → Prop) (x0 : Int32) (M : Mm) : Prop :=
  f_Md_in fu (fun r2 M1 => post r2 M1) x0 0 5 M
set_option maxRecDepth 100000 in
theorem c_Md_isKind (l : Launch) (g : GX) (w : WX) (fu : Nat) (post : Int32 → Mm → Prop) (x0 : Int32) (M : Mm) (h : f_Md_isKind fu post x0 M) : Met l yX11_isKind [Cond.code yX11_isKind cX11_isKind 1 (some .boolean)] (rmC 1 0 0) (va_Pc [.int x0] (Wb g w M)) (va_Qi (fun r M => zb r ∧ post r M) (Wb g w) (Af g)) 0 0 (Af g) := by
  refine Ct_i (by decide) rfl (fun v hv => by simp only [List.mem_cons, List.not_mem_nil, or_false] at hv; rcases hv with rfl <;> rfl) (Nat.le_of_ble_eq_true rfl) (Nat.le_refl _) ?_
  intro X hX _ hC
  unfold f_Md_isKind at h
  refine V_sub (us := [some (.int x0)]) ⟨rfl, trivial⟩ ?_
  refine V_iload_n hC rfl dX11_isKind_0 ?_
  refine V_iconst (v := 0) hC (by decide) dX11_isKind_1 ?_
  refine V_iconst (v := 5) hC (by decide) dX11_isKind_2 ?_
  refine V_scalli (As := [.int x0, .int 0, .int 5]) hC (c_Md_in X.2.1 g w fu _ x0 0 5 M h) mw_X11_in (by decide) tw_894 rfl rfl (Nat.le_of_ble_eq_true rfl) ⟨Nat.zero_le _, Nat.zero_le _⟩ dX11_isKind_3 (fun r2 M1 h => ?_)
  obtain ⟨hzr2, h⟩ := h
  exact V_zret hC hzr2 h dX11_isKind_6
def f_Md_isToken (fu : Nat) (post : Int32 → Mm → Prop) (t : Nat) (x1 : Int32) (M : Mm) : Prop :=
  vp_in 56 (ln (t + 1)) ∧ f_Md_in fu (fun r3 M2 => post r3 M2) x1 0 ((M (t + 1) 56) - 1) M
set_option maxRecDepth 100000 in
theorem c_Md_isToken (l : Launch) (g : GX) (w : WX) (fu : Nat) (post : Int32 → Mm → Prop) (t : Nat) (x1 : Int32) (M : Mm) (ht : ok w t 11) (h : f_Md_isToken fu post t x1 M) : Met l yX11_isToken [Cond.code yX11_isToken cX11_isToken 2 (some .boolean)] (rmC 1 0 0) (va_Pc [ob g t, .int x1] (Wb g w M)) (va_Qi (fun r M => zb r ∧ post r M) (Wb g w) (Af g)) 0 0 (Af g) := by
  refine Ct_i (by decide) rfl (fun v hv => by simp only [List.mem_cons, List.not_mem_nil, or_false] at hv; rcases hv with rfl | rfl <;> rfl) (Nat.le_of_ble_eq_true rfl) (Nat.le_refl _) ?_
  intro X hX _ hC
  unfold f_Md_isToken at h
  refine V_sub (us := [some (ob g t), some (.int x1)]) ⟨rfl, rfl, trivial⟩ ?_
  refine V_iload_n hC rfl dX11_isToken_0 ?_
  refine V_iconst (v := 0) hC (by decide) dX11_isToken_1 ?_
  refine V_aload_n hC rfl dX11_isToken_2 ?_
  refine gf_11_0 hC ht tw_817 dX11_isToken_3 ?_
  refine V_bipush (v := 56) hC (by decide) dX11_isToken_6 ?_
  obtain ⟨q1, h⟩ := h
  refine V_iaL (j := 56) (by decide) hC (ok_11_0 ht) q1 dX11_isToken_8 ?_
  refine V_iconst (v := 1) hC (by decide) dX11_isToken_9 ?_
  refine V_isub hC dX11_isToken_10 ?_
  refine V_scalli (As := [.int x1, .int 0, .int ((M (t + 1) 56) - 1)]) hC (c_Md_in X.2.1 g w fu _ x1 0 ((M (t + 1) 56) - 1) M h) mw_X11_in (by decide) tw_894 rfl rfl (Nat.le_of_ble_eq_true rfl) ⟨Nat.zero_le _, Nat.zero_le _⟩ dX11_isToken_11 (fun r3 M2 h => ?_)
  obtain ⟨hzr3, h⟩ := h
  exact V_zret hC hzr3 h dX11_isToken_14
def f_Md_insertToken_51 (fu : Nat) (post : Int32 → Mm → Prop) : Nat → Nat → Int32 → Int32 → Int32 → Mm → Prop
  | 0, _, _, _, _, _ => False
  | kf + 1, t, x1, x2, x3, M =>
    ((x3 ≤ x1) → vp_in (57 + x1) (ln (t + 1)) ∧ (∀ M2, M2 = up M (t + 1) (57 + x1).toNatClampNeg x2 → vp_in 56 (ln (t + 1)) ∧ vp_in 56 (ln (t + 1)) ∧ (∀ M5, M5 = up M2 (t + 1) 56 ((M2 (t + 1) 56) + 1) → vp_in 56 (ln (t + 1)) ∧ post (M5 (t + 1) 56) M5))) ∧ (¬ (x3 ≤ x1) → vp_in ((57 + x3) - 1) (ln (t + 1)) ∧ vp_in (57 + x3) (ln (t + 1)) ∧ (∀ M9, M9 = up M (t + 1) (57 + x3).toNatClampNeg (M (t + 1) ((57 + x3) - 1).toNatClampNeg) → ∀ y10, y10 = x3 + (-1) → f_Md_insertToken_51 fu post kf t x1 x2 y10 M9))
def f_Md_insertToken (fu : Nat) (post : Int32 → Mm → Prop) (t : Nat) (x1 : Int32) (x2 : Int32) (M : Mm) : Prop :=
  vp_in 56 (ln (t + 1)) ∧ f_Md_in fu (fun r3 M2 => ((r3 = 0) → post (-1) M2) ∧ (¬ (r3 = 0) → f_Md_isKind fu (fun r5 M4 => ((r5 = 0) → post (-1) M4) ∧ (¬ (r5 = 0) → vp_in 56 (ln (t + 1)) ∧ (((M4 (t + 1) 56) = 12) → post (-3) M4) ∧ (¬ ((M4 (t + 1) 56) = 12) → f_Md_save fu (fun M7 => vp_in 56 (ln (t + 1)) ∧ ∀ y9, y9 = (M7 (t + 1) 56) → f_Md_insertToken_51 fu post fu t x1 x2 y9 M7) t M4))) x2 M2)) x1 0 (M (t + 1) 56) M
set_option maxRecDepth 100000 in
theorem l_Md_insertToken_51 {l : Launch} {X : CX} {g : GX} {w : WX} {fu : Nat} {post : Int32 → Mm → Prop} (hX : X.2.1 = l) (hC : Cx X g cX11_insertToken 4 RX11 (some .int) 2) : ∀ (kf : Nat) (t : Nat) (x1 : Int32) (x2 : Int32) (x3 : Int32) (M : Mm) (ht : ok w t 11) (h : f_Md_insertToken_51 fu post kf t x1 x2 x3 M), V X g w 4 0 0 (QI X g w post 0 0) 51 [some (ob g t), some (.int x1), some (.int x2), some (.int x3)] [] M := by
  intro kf
  induction kf with
  | zero => intro t x1 x2 x3 M ht h; exact absurd h id
  | succ kf ih =>
    intro t x1 x2 x3 M ht h
    rw [f_Md_insertToken_51] at h
    refine V_iload_n hC rfl dX11_insertToken_51 ?_
    refine V_iload_n hC rfl dX11_insertToken_52 ?_
    refine V_icmp_le (tgt := 82) hC dX11_insertToken_53 (by decide) (fun b11 => ?_) (fun b11 => ?_)
    · replace h := h.1 b11
      refine V_aload_n hC rfl dX11_insertToken_82 ?_
      refine gf_11_0 hC ht tw_817 dX11_insertToken_83 ?_
      refine V_bipush (v := 57) hC (by decide) dX11_insertToken_86 ?_
      refine V_iload_n hC rfl dX11_insertToken_88 ?_
      refine V_iadd hC dX11_insertToken_89 ?_
      refine V_iload_n hC rfl dX11_insertToken_90 ?_
      obtain ⟨q1, h⟩ := h
      refine V_iast hC (ok_11_0 ht) q1 dX11_insertToken_91 ?_
      obtain ⟨M2, eM2⟩ : ∃ z, z = up M (t + 1) (57 + x1).toNatClampNeg x2 := ⟨_, rfl⟩
      replace h := h M2 eM2
      refine V_mem eM2 ?_
      refine V_aload_n hC rfl dX11_insertToken_92 ?_
      refine gf_11_0 hC ht tw_817 dX11_insertToken_93 ?_
      refine V_bipush (v := 56) hC (by decide) dX11_insertToken_96 ?_
      refine V_dup2 hC rfl rfl dX11_insertToken_98 ?_
      obtain ⟨q3, h⟩ := h
      refine V_iaL (j := 56) (by decide) hC (ok_11_0 ht) q3 dX11_insertToken_99 ?_
      refine V_iconst (v := 1) hC (by decide) dX11_insertToken_100 ?_
      refine V_iadd hC dX11_insertToken_101 ?_
      obtain ⟨q4, h⟩ := h
      refine V_isL (j := 56) (by decide) hC (ok_11_0 ht) q4 dX11_insertToken_102 ?_
      obtain ⟨M5, eM5⟩ : ∃ z, z = up M2 (t + 1) 56 ((M2 (t + 1) 56) + 1) := ⟨_, rfl⟩
      replace h := h M5 eM5
      refine V_mem eM5 ?_
      refine V_aload_n hC rfl dX11_insertToken_103 ?_
      refine gf_11_0 hC ht tw_817 dX11_insertToken_104 ?_
      refine V_bipush (v := 56) hC (by decide) dX11_insertToken_107 ?_
      obtain ⟨q6, h⟩ := h
      refine V_iaL (j := 56) (by decide) hC (ok_11_0 ht) q6 dX11_insertToken_109 ?_
      exact V_iret hC h dX11_insertToken_110
    · replace h := h.2 b11
      refine V_aload_n hC rfl dX11_insertToken_56 ?_
      refine gf_11_0 hC ht tw_817 dX11_insertToken_57 ?_
      refine V_bipush (v := 57) hC (by decide) dX11_insertToken_60 ?_
      refine V_iload_n hC rfl dX11_insertToken_62 ?_
      refine V_iadd hC dX11_insertToken_63 ?_
      refine V_aload_n hC rfl dX11_insertToken_64 ?_
      refine gf_11_0 hC ht tw_817 dX11_insertToken_65 ?_
      refine V_bipush (v := 57) hC (by decide) dX11_insertToken_68 ?_
      refine V_iload_n hC rfl dX11_insertToken_70 ?_
      refine V_iadd hC dX11_insertToken_71 ?_
      refine V_iconst (v := 1) hC (by decide) dX11_insertToken_72 ?_
      refine V_isub hC dX11_insertToken_73 ?_
      obtain ⟨q7, h⟩ := h
      refine V_iald hC (ok_11_0 ht) q7 dX11_insertToken_74 ?_
      obtain ⟨q8, h⟩ := h
      refine V_iast hC (ok_11_0 ht) q8 dX11_insertToken_75 ?_
      obtain ⟨M9, eM9⟩ : ∃ z, z = up M (t + 1) (57 + x3).toNatClampNeg (M (t + 1) ((57 + x3) - 1).toNatClampNeg) := ⟨_, rfl⟩
      replace h := h M9 eM9
      refine V_mem eM9 ?_
      obtain ⟨y10, ey10⟩ : ∃ z, z = x3 + (-1) := ⟨_, rfl⟩
      replace h := h y10 ey10
      refine V_iinc (v := y10) hC rfl (by rw [ey10]; rfl) (by decide) dX11_insertToken_76 ?_
      refine V_goto (tgt := 51) hC (by decide) dX11_insertToken_79 ?_
      refine V_sub (us := [some (ob g t), some (.int x1), some (.int x2), some (.int y10)]) ⟨rfl, rfl, rfl, rfl, trivial⟩ ?_
      exact ih t x1 x2 y10 M9 ht h
set_option maxRecDepth 100000 in
theorem c_Md_insertToken (l : Launch) (g : GX) (w : WX) (fu : Nat) (post : Int32 → Mm → Prop) (t : Nat) (x1 : Int32) (x2 : Int32) (M : Mm) (ht : ok w t 11) (h : f_Md_insertToken fu post t x1 x2 M) : Met l yX11_insertToken [Cond.code yX11_insertToken cX11_insertToken 4 (some .int)] (rmC 2 0 0) (va_Pc [ob g t, .int x1, .int x2] (Wb g w M)) (va_Qi post (Wb g w) (Af g)) 0 0 (Af g) := by
  refine Ct_i (by decide) rfl (fun v hv => by simp only [List.mem_cons, List.not_mem_nil, or_false] at hv; rcases hv with rfl | rfl | rfl <;> rfl) (Nat.le_of_ble_eq_true rfl) (Nat.le_refl _) ?_
  intro X hX _ hC
  unfold f_Md_insertToken at h
  refine V_sub (us := [some (ob g t), some (.int x1), some (.int x2), none]) ⟨rfl, rfl, rfl, trivial⟩ ?_
  refine V_iload_n hC rfl dX11_insertToken_0 ?_
  refine V_iconst (v := 0) hC (by decide) dX11_insertToken_1 ?_
  refine V_aload_n hC rfl dX11_insertToken_2 ?_
  refine gf_11_0 hC ht tw_817 dX11_insertToken_3 ?_
  refine V_bipush (v := 56) hC (by decide) dX11_insertToken_6 ?_
  obtain ⟨q1, h⟩ := h
  refine V_iaL (j := 56) (by decide) hC (ok_11_0 ht) q1 dX11_insertToken_8 ?_
  refine V_scalli (As := [.int x1, .int 0, .int (M (t + 1) 56)]) hC (c_Md_in X.2.1 g w fu _ x1 0 (M (t + 1) 56) M h) mw_X11_in (by decide) tw_894 rfl rfl (Nat.le_of_ble_eq_true rfl) ⟨Nat.zero_le _, Nat.zero_le _⟩ dX11_insertToken_9 (fun r3 M2 h => ?_)
  obtain ⟨hzr3, h⟩ := h
  refine V_if_eq (tgt := 22) hC dX11_insertToken_12 (by decide) (fun b12 => ?_) (fun b12 => ?_)
  · replace h := h.1 b12
    refine V_iconst (v := (-1)) hC (by decide) dX11_insertToken_22 ?_
    exact V_iret hC h dX11_insertToken_23
  · replace h := h.2 b12
    refine V_iload_n hC rfl dX11_insertToken_15 ?_
    refine V_scalli (As := [.int x2]) hC (c_Md_isKind X.2.1 g w fu _ x2 M2 h) mw_X11_isKind (by decide) tw_969 rfl rfl (Nat.le_of_ble_eq_true rfl) ⟨Nat.zero_le _, Nat.zero_le _⟩ dX11_insertToken_16 (fun r5 M4 h => ?_)
    obtain ⟨hzr5, h⟩ := h
    refine V_if_ne (tgt := 24) hC dX11_insertToken_19 (by decide) (fun b11 => ?_) (fun b11 => ?_)
    · replace h := h.2 b11
      refine V_aload_n hC rfl dX11_insertToken_24 ?_
      refine gf_11_0 hC ht tw_817 dX11_insertToken_25 ?_
      refine V_bipush (v := 56) hC (by decide) dX11_insertToken_28 ?_
      obtain ⟨q6, h⟩ := h
      refine V_iaL (j := 56) (by decide) hC (ok_11_0 ht) q6 dX11_insertToken_30 ?_
      refine V_bipush (v := 12) hC (by decide) dX11_insertToken_31 ?_
      refine V_icmp_ne (tgt := 39) hC dX11_insertToken_33 (by decide) (fun b10 => ?_) (fun b10 => ?_)
      · replace h := h.2 b10
        refine V_aload_n hC rfl dX11_insertToken_39 ?_
        refine V_callv (As := []) hC (c_Md_save X.2.1 g w fu _ t M4 ht h) mw_X11_save (by decide) tw_954 ht (by decide) rfl rfl rfl (Nat.le_of_ble_eq_true rfl) ⟨Nat.zero_le _, Nat.zero_le _⟩ dX11_insertToken_40 (fun M7 h => ?_)
        refine V_aload_n hC rfl dX11_insertToken_43 ?_
        refine gf_11_0 hC ht tw_817 dX11_insertToken_44 ?_
        refine V_bipush (v := 56) hC (by decide) dX11_insertToken_47 ?_
        obtain ⟨q8, h⟩ := h
        refine V_iaL (j := 56) (by decide) hC (ok_11_0 ht) q8 dX11_insertToken_49 ?_
        refine V_topi (fun y9 ey9 => ?_)
        replace h := h y9 ey9
        refine V_istore_n hC (by decide) dX11_insertToken_50 ?_
        refine V_sub (us := [some (ob g t), some (.int x1), some (.int x2), some (.int y9)]) ⟨rfl, rfl, rfl, rfl, trivial⟩ ?_
        exact l_Md_insertToken_51 hX hC fu t x1 x2 y9 M7 ht h
      · replace h := h.1 b10
        refine V_bipush (v := (-3)) hC (by decide) dX11_insertToken_36 ?_
        exact V_iret hC h dX11_insertToken_38
    · replace h := h.1 b11
      refine V_iconst (v := (-1)) hC (by decide) dX11_insertToken_22 ?_
      exact V_iret hC h dX11_insertToken_23
def f_Md_appendToken (fu : Nat) (post : Int32 → Mm → Prop) (t : Nat) (x1 : Int32) (M : Mm) : Prop :=
  vp_in 56 (ln (t + 1)) ∧ f_Md_insertToken fu (fun r3 M2 => post r3 M2) t (M (t + 1) 56) x1 M
set_option maxRecDepth 100000 in
theorem c_Md_appendToken (l : Launch) (g : GX) (w : WX) (fu : Nat) (post : Int32 → Mm → Prop) (t : Nat) (x1 : Int32) (M : Mm) (ht : ok w t 11) (h : f_Md_appendToken fu post t x1 M) : Met l yX11_appendToken [Cond.code yX11_appendToken cX11_appendToken 2 (some .int)] (rmC 3 0 0) (va_Pc [ob g t, .int x1] (Wb g w M)) (va_Qi post (Wb g w) (Af g)) 0 0 (Af g) := by
  refine Ct_i (by decide) rfl (fun v hv => by simp only [List.mem_cons, List.not_mem_nil, or_false] at hv; rcases hv with rfl | rfl <;> rfl) (Nat.le_of_ble_eq_true rfl) (Nat.le_refl _) ?_
  intro X hX _ hC
  unfold f_Md_appendToken at h
  refine V_sub (us := [some (ob g t), some (.int x1)]) ⟨rfl, rfl, trivial⟩ ?_
  refine V_aload_n hC rfl dX11_appendToken_0 ?_
  refine V_aload_n hC rfl dX11_appendToken_1 ?_
  refine gf_11_0 hC ht tw_817 dX11_appendToken_2 ?_
  refine V_bipush (v := 56) hC (by decide) dX11_appendToken_5 ?_
  obtain ⟨q1, h⟩ := h
  refine V_iaL (j := 56) (by decide) hC (ok_11_0 ht) q1 dX11_appendToken_7 ?_
  refine V_iload_n hC rfl dX11_appendToken_8 ?_
  refine V_calli (As := [.int (M (t + 1) 56), .int x1]) hC (c_Md_insertToken X.2.1 g w fu _ t (M (t + 1) 56) x1 M ht h) mw_X11_insertToken (by decide) tw_965 ht (by decide) rfl rfl rfl (Nat.le_of_ble_eq_true rfl) ⟨Nat.zero_le _, Nat.zero_le _⟩ dX11_appendToken_9 (fun r3 M2 h => ?_)
  exact V_iret hC h dX11_appendToken_12
def f_Md_removeToken_26 (fu : Nat) (post : Int32 → Mm → Prop) : Nat → Nat → Int32 → Int32 → Mm → Prop
  | 0, _, _, _, _ => False
  | kf + 1, t, x2, x3, M =>
    vp_in 56 (ln (t + 1)) ∧ (((M (t + 1) 56) ≤ (x3 + 1)) → vp_in 56 (ln (t + 1)) ∧ vp_in 56 (ln (t + 1)) ∧ (∀ M4, M4 = up M (t + 1) 56 ((M (t + 1) 56) - 1) → post x2 M4)) ∧ (¬ ((M (t + 1) 56) ≤ (x3 + 1)) → vp_in ((57 + x3) + 1) (ln (t + 1)) ∧ vp_in (57 + x3) (ln (t + 1)) ∧ (∀ M7, M7 = up M (t + 1) (57 + x3).toNatClampNeg (M (t + 1) ((57 + x3) + 1).toNatClampNeg) → ∀ y8, y8 = x3 + 1 → f_Md_removeToken_26 fu post kf t x2 y8 M7))
def f_Md_removeToken (fu : Nat) (post : Int32 → Mm → Prop) (t : Nat) (x1 : Int32) (M : Mm) : Prop :=
  f_Md_isToken fu (fun r2 M1 => ((r2 = 0) → post (-1) M1) ∧ (¬ (r2 = 0) → f_Md_save fu (fun M3 => vp_in (57 + x1) (ln (t + 1)) ∧ ∀ y5, y5 = (M3 (t + 1) (57 + x1).toNatClampNeg) → f_Md_removeToken_26 fu post fu t y5 x1 M3) t M1)) t x1 M
set_option maxRecDepth 100000 in
theorem l_Md_removeToken_26 {l : Launch} {X : CX} {g : GX} {w : WX} {fu : Nat} {post : Int32 → Mm → Prop} (hX : X.2.1 = l) (hC : Cx X g cX11_removeToken 4 RX11 (some .int) 2) : ∀ (kf : Nat) (t : Nat) (x2 : Int32) (x3 : Int32) (M : Mm) (ht : ok w t 11) (h : f_Md_removeToken_26 fu post kf t x2 x3 M), V X g w 4 0 0 (QI X g w post 0 0) 26 [some (ob g t), none, some (.int x2), some (.int x3)] [] M := by
  intro kf
  induction kf with
  | zero => intro t x2 x3 M ht h; exact absurd h id
  | succ kf ih =>
    intro t x2 x3 M ht h
    rw [f_Md_removeToken_26] at h
    refine V_iload_n hC rfl dX11_removeToken_26 ?_
    refine V_iconst (v := 1) hC (by decide) dX11_removeToken_27 ?_
    refine V_iadd hC dX11_removeToken_28 ?_
    refine V_aload_n hC rfl dX11_removeToken_29 ?_
    refine gf_11_0 hC ht tw_817 dX11_removeToken_30 ?_
    refine V_bipush (v := 56) hC (by decide) dX11_removeToken_33 ?_
    obtain ⟨q1, h⟩ := h
    refine V_iaL (j := 56) (by decide) hC (ok_11_0 ht) q1 dX11_removeToken_35 ?_
    refine V_icmp_ge (tgt := 65) hC dX11_removeToken_36 (by decide) (fun b9 => ?_) (fun b9 => ?_)
    · replace h := h.1 b9
      refine V_aload_n hC rfl dX11_removeToken_65 ?_
      refine gf_11_0 hC ht tw_817 dX11_removeToken_66 ?_
      refine V_bipush (v := 56) hC (by decide) dX11_removeToken_69 ?_
      refine V_dup2 hC rfl rfl dX11_removeToken_71 ?_
      obtain ⟨q2, h⟩ := h
      refine V_iaL (j := 56) (by decide) hC (ok_11_0 ht) q2 dX11_removeToken_72 ?_
      refine V_iconst (v := 1) hC (by decide) dX11_removeToken_73 ?_
      refine V_isub hC dX11_removeToken_74 ?_
      obtain ⟨q3, h⟩ := h
      refine V_isL (j := 56) (by decide) hC (ok_11_0 ht) q3 dX11_removeToken_75 ?_
      obtain ⟨M4, eM4⟩ : ∃ z, z = up M (t + 1) 56 ((M (t + 1) 56) - 1) := ⟨_, rfl⟩
      replace h := h M4 eM4
      refine V_mem eM4 ?_
      refine V_iload_n hC rfl dX11_removeToken_76 ?_
      exact V_iret hC h dX11_removeToken_77
    · replace h := h.2 b9
      refine V_aload_n hC rfl dX11_removeToken_39 ?_
      refine gf_11_0 hC ht tw_817 dX11_removeToken_40 ?_
      refine V_bipush (v := 57) hC (by decide) dX11_removeToken_43 ?_
      refine V_iload_n hC rfl dX11_removeToken_45 ?_
      refine V_iadd hC dX11_removeToken_46 ?_
      refine V_aload_n hC rfl dX11_removeToken_47 ?_
      refine gf_11_0 hC ht tw_817 dX11_removeToken_48 ?_
      refine V_bipush (v := 57) hC (by decide) dX11_removeToken_51 ?_
      refine V_iload_n hC rfl dX11_removeToken_53 ?_
      refine V_iadd hC dX11_removeToken_54 ?_
      refine V_iconst (v := 1) hC (by decide) dX11_removeToken_55 ?_
      refine V_iadd hC dX11_removeToken_56 ?_
      obtain ⟨q5, h⟩ := h
      refine V_iald hC (ok_11_0 ht) q5 dX11_removeToken_57 ?_
      obtain ⟨q6, h⟩ := h
      refine V_iast hC (ok_11_0 ht) q6 dX11_removeToken_58 ?_
      obtain ⟨M7, eM7⟩ : ∃ z, z = up M (t + 1) (57 + x3).toNatClampNeg (M (t + 1) ((57 + x3) + 1).toNatClampNeg) := ⟨_, rfl⟩
      replace h := h M7 eM7
      refine V_mem eM7 ?_
      obtain ⟨y8, ey8⟩ : ∃ z, z = x3 + 1 := ⟨_, rfl⟩
      replace h := h y8 ey8
      refine V_iinc (v := y8) hC rfl (by rw [ey8]; rfl) (by decide) dX11_removeToken_59 ?_
      refine V_goto (tgt := 26) hC (by decide) dX11_removeToken_62 ?_
      refine V_sub (us := [some (ob g t), none, some (.int x2), some (.int y8)]) ⟨rfl, rfl, rfl, trivial⟩ ?_
      exact ih t x2 y8 M7 ht h
set_option maxRecDepth 100000 in
theorem c_Md_removeToken (l : Launch) (g : GX) (w : WX) (fu : Nat) (post : Int32 → Mm → Prop) (t : Nat) (x1 : Int32) (M : Mm) (ht : ok w t 11) (h : f_Md_removeToken fu post t x1 M) : Met l yX11_removeToken [Cond.code yX11_removeToken cX11_removeToken 4 (some .int)] (rmC 2 0 0) (va_Pc [ob g t, .int x1] (Wb g w M)) (va_Qi post (Wb g w) (Af g)) 0 0 (Af g) := by
  refine Ct_i (by decide) rfl (fun v hv => by simp only [List.mem_cons, List.not_mem_nil, or_false] at hv; rcases hv with rfl | rfl <;> rfl) (Nat.le_of_ble_eq_true rfl) (Nat.le_refl _) ?_
  intro X hX _ hC
  unfold f_Md_removeToken at h
  refine V_sub (us := [some (ob g t), some (.int x1), none, none]) ⟨rfl, rfl, trivial⟩ ?_
  refine V_aload_n hC rfl dX11_removeToken_0 ?_
  refine V_iload_n hC rfl dX11_removeToken_1 ?_
  refine V_calli (As := [.int x1]) hC (c_Md_isToken X.2.1 g w fu _ t x1 M ht h) mw_X11_isToken (by decide) tw_977 ht (by decide) rfl rfl rfl (Nat.le_of_ble_eq_true rfl) ⟨Nat.zero_le _, Nat.zero_le _⟩ dX11_removeToken_2 (fun r2 M1 h => ?_)
  obtain ⟨hzr2, h⟩ := h
  refine V_if_ne (tgt := 10) hC dX11_removeToken_5 (by decide) (fun b6 => ?_) (fun b6 => ?_)
  · replace h := h.2 b6
    refine V_aload_n hC rfl dX11_removeToken_10 ?_
    refine V_callv (As := []) hC (c_Md_save X.2.1 g w fu _ t M1 ht h) mw_X11_save (by decide) tw_954 ht (by decide) rfl rfl rfl (Nat.le_of_ble_eq_true rfl) ⟨Nat.zero_le _, Nat.zero_le _⟩ dX11_removeToken_11 (fun M3 h => ?_)
    refine V_aload_n hC rfl dX11_removeToken_14 ?_
    refine gf_11_0 hC ht tw_817 dX11_removeToken_15 ?_
    refine V_bipush (v := 57) hC (by decide) dX11_removeToken_18 ?_
    refine V_iload_n hC rfl dX11_removeToken_20 ?_
    refine V_iadd hC dX11_removeToken_21 ?_
    obtain ⟨q4, h⟩ := h
    refine V_iald hC (ok_11_0 ht) q4 dX11_removeToken_22 ?_
    refine V_topi (fun y5 ey5 => ?_)
    replace h := h y5 ey5
    refine V_istore_n hC (by decide) dX11_removeToken_23 ?_
    refine V_iload_n hC rfl dX11_removeToken_24 ?_
    refine V_istore_n hC (by decide) dX11_removeToken_25 ?_
    refine V_sub (us := [some (ob g t), none, some (.int y5), some (.int x1)]) ⟨rfl, rfl, rfl, trivial⟩ ?_
    exact l_Md_removeToken_26 hX hC fu t y5 x1 M3 ht h
  · replace h := h.1 b6
    refine V_iconst (v := (-1)) hC (by decide) dX11_removeToken_8 ?_
    exact V_iret hC h dX11_removeToken_9
def f_Md_clearTokens (fu : Nat) (post : Int32 → Mm → Prop) (t : Nat) (M : Mm) : Prop :=
  vp_in 56 (ln (t + 1)) ∧ ∀ y2, y2 = (M (t + 1) 56) → ((y2 = 0) → post (-2) M) ∧ (¬ (y2 = 0) → f_Md_save fu (fun M3 => vp_in 56 (ln (t + 1)) ∧ (∀ M5, M5 = up M3 (t + 1) 56 0 → post y2 M5)) t M)
set_option maxRecDepth 100000 in
theorem c_Md_clearTokens (l : Launch) (g : GX) (w : WX) (fu : Nat) (post : Int32 → Mm → Prop) (t : Nat) (M : Mm) (ht : ok w t 11) (h : f_Md_clearTokens fu post t M) : Met l yX11_clearTokens [Cond.code yX11_clearTokens cX11_clearTokens 2 (some .int)] (rmC 2 0 0) (va_Pc [ob g t] (Wb g w M)) (va_Qi post (Wb g w) (Af g)) 0 0 (Af g) := by
  refine Ct_i (by decide) rfl (fun v hv => by simp only [List.mem_cons, List.not_mem_nil, or_false] at hv; rcases hv with rfl <;> rfl) (Nat.le_of_ble_eq_true rfl) (Nat.le_refl _) ?_
  intro X hX _ hC
  unfold f_Md_clearTokens at h
  refine V_sub (us := [some (ob g t), none]) ⟨rfl, trivial⟩ ?_
  refine V_aload_n hC rfl dX11_clearTokens_0 ?_
  refine gf_11_0 hC ht tw_817 dX11_clearTokens_1 ?_
  refine V_bipush (v := 56) hC (by decide) dX11_clearTokens_4 ?_
  obtain ⟨q1, h⟩ := h
  refine V_iaL (j := 56) (by decide) hC (ok_11_0 ht) q1 dX11_clearTokens_6 ?_
  refine V_topi (fun y2 ey2 => ?_)
  replace h := h y2 ey2
  refine V_istore_n hC (by decide) dX11_clearTokens_7 ?_
  refine V_iload_n hC rfl dX11_clearTokens_8 ?_
  refine V_if_ne (tgt := 15) hC dX11_clearTokens_9 (by decide) (fun b6 => ?_) (fun b6 => ?_)
  · replace h := h.2 b6
    refine V_aload_n hC rfl dX11_clearTokens_15 ?_
    refine V_callv (As := []) hC (c_Md_save X.2.1 g w fu _ t M ht h) mw_X11_save (by decide) tw_954 ht (by decide) rfl rfl rfl (Nat.le_of_ble_eq_true rfl) ⟨Nat.zero_le _, Nat.zero_le _⟩ dX11_clearTokens_16 (fun M3 h => ?_)
    refine V_aload_n hC rfl dX11_clearTokens_19 ?_
    refine gf_11_0 hC ht tw_817 dX11_clearTokens_20 ?_
    refine V_bipush (v := 56) hC (by decide) dX11_clearTokens_23 ?_
    refine V_iconst (v := 0) hC (by decide) dX11_clearTokens_25 ?_
    obtain ⟨q4, h⟩ := h
    refine V_isL (j := 56) (by decide) hC (ok_11_0 ht) q4 dX11_clearTokens_26 ?_
    obtain ⟨M5, eM5⟩ : ∃ z, z = up M3 (t + 1) 56 0 := ⟨_, rfl⟩
    replace h := h M5 eM5
    refine V_mem eM5 ?_
    refine V_iload_n hC rfl dX11_clearTokens_27 ?_
    exact V_iret hC h dX11_clearTokens_28
  · replace h := h.1 b6
    refine V_bipush (v := (-2)) hC (by decide) dX11_clearTokens_12 ?_
    exact V_iret hC h dX11_clearTokens_14
def f_Md_setCost (fu : Nat) (post : Int32 → Mm → Prop) (t : Nat) (x1 : Int32) (x2 : Int32) (x3 : Int32) (M : Mm) : Prop :=
  f_Md_isKind fu (fun r2 M1 => ((r2 = 0) → post (-1) M1) ∧ (¬ (r2 = 0) → f_Md_in fu (fun r4 M3 => ((r4 = 0) → post (-1) M3) ∧ (¬ (r4 = 0) → f_Md_save fu (fun M5 => vp_in (x1 + x2) (ln (t + 1)) ∧ ∀ y7, y7 = (M5 (t + 1) (x1 + x2).toNatClampNeg) → vp_in (x1 + x2) (ln (t + 1)) ∧ (∀ M9, M9 = up M5 (t + 1) (x1 + x2).toNatClampNeg x3 → post y7 M9)) t M3)) x3 1 9 M1)) x2 M
set_option maxRecDepth 100000 in
theorem c_Md_setCost (l : Launch) (g : GX) (w : WX) (fu : Nat) (post : Int32 → Mm → Prop) (t : Nat) (x1 : Int32) (x2 : Int32) (x3 : Int32) (M : Mm) (ht : ok w t 11) (h : f_Md_setCost fu post t x1 x2 x3 M) : Met l yX11_setCost [Cond.code yX11_setCost cX11_setCost 5 (some .int)] (rmC 2 0 0) (va_Pc [ob g t, .int x1, .int x2, .int x3] (Wb g w M)) (va_Qi post (Wb g w) (Af g)) 0 0 (Af g) := by
  refine Ct_i (by decide) rfl (fun v hv => by simp only [List.mem_cons, List.not_mem_nil, or_false] at hv; rcases hv with rfl | rfl | rfl | rfl <;> rfl) (Nat.le_of_ble_eq_true rfl) (Nat.le_refl _) ?_
  intro X hX _ hC
  unfold f_Md_setCost at h
  refine V_sub (us := [some (ob g t), some (.int x1), some (.int x2), some (.int x3), none]) ⟨rfl, rfl, rfl, rfl, trivial⟩ ?_
  refine V_iload_n hC rfl dX11_setCost_0 ?_
  refine V_scalli (As := [.int x2]) hC (c_Md_isKind X.2.1 g w fu _ x2 M h) mw_X11_isKind (by decide) tw_969 rfl rfl (Nat.le_of_ble_eq_true rfl) ⟨Nat.zero_le _, Nat.zero_le _⟩ dX11_setCost_1 (fun r2 M1 h => ?_)
  obtain ⟨hzr2, h⟩ := h
  refine V_if_eq (tgt := 17) hC dX11_setCost_4 (by decide) (fun b11 => ?_) (fun b11 => ?_)
  · replace h := h.1 b11
    refine V_iconst (v := (-1)) hC (by decide) dX11_setCost_17 ?_
    exact V_iret hC h dX11_setCost_18
  · replace h := h.2 b11
    refine V_iload_n hC rfl dX11_setCost_7 ?_
    refine V_iconst (v := 1) hC (by decide) dX11_setCost_8 ?_
    refine V_bipush (v := 9) hC (by decide) dX11_setCost_9 ?_
    refine V_scalli (As := [.int x3, .int 1, .int 9]) hC (c_Md_in X.2.1 g w fu _ x3 1 9 M1 h) mw_X11_in (by decide) tw_894 rfl rfl (Nat.le_of_ble_eq_true rfl) ⟨Nat.zero_le _, Nat.zero_le _⟩ dX11_setCost_11 (fun r4 M3 h => ?_)
    obtain ⟨hzr4, h⟩ := h
    refine V_if_ne (tgt := 19) hC dX11_setCost_14 (by decide) (fun b10 => ?_) (fun b10 => ?_)
    · replace h := h.2 b10
      refine V_aload_n hC rfl dX11_setCost_19 ?_
      refine V_callv (As := []) hC (c_Md_save X.2.1 g w fu _ t M3 ht h) mw_X11_save (by decide) tw_954 ht (by decide) rfl rfl rfl (Nat.le_of_ble_eq_true rfl) ⟨Nat.zero_le _, Nat.zero_le _⟩ dX11_setCost_20 (fun M5 h => ?_)
      refine V_aload_n hC rfl dX11_setCost_23 ?_
      refine gf_11_0 hC ht tw_817 dX11_setCost_24 ?_
      refine V_iload_n hC rfl dX11_setCost_27 ?_
      refine V_iload_n hC rfl dX11_setCost_28 ?_
      refine V_iadd hC dX11_setCost_29 ?_
      obtain ⟨q6, h⟩ := h
      refine V_iald hC (ok_11_0 ht) q6 dX11_setCost_30 ?_
      refine V_topi (fun y7 ey7 => ?_)
      replace h := h y7 ey7
      refine V_istore hC (by decide) dX11_setCost_31 ?_
      refine V_aload_n hC rfl dX11_setCost_33 ?_
      refine gf_11_0 hC ht tw_817 dX11_setCost_34 ?_
      refine V_iload_n hC rfl dX11_setCost_37 ?_
      refine V_iload_n hC rfl dX11_setCost_38 ?_
      refine V_iadd hC dX11_setCost_39 ?_
      refine V_iload_n hC rfl dX11_setCost_40 ?_
      obtain ⟨q8, h⟩ := h
      refine V_iast hC (ok_11_0 ht) q8 dX11_setCost_41 ?_
      obtain ⟨M9, eM9⟩ : ∃ z, z = up M5 (t + 1) (x1 + x2).toNatClampNeg x3 := ⟨_, rfl⟩
      replace h := h M9 eM9
      refine V_mem eM9 ?_
      refine V_iload hC rfl dX11_setCost_42 ?_
      exact V_iret hC h dX11_setCost_44
    · replace h := h.1 b10
      refine V_iconst (v := (-1)) hC (by decide) dX11_setCost_17 ?_
      exact V_iret hC h dX11_setCost_18
def f_Md_setInsertionCost (fu : Nat) (post : Int32 → Mm → Prop) (t : Nat) (x1 : Int32) (x2 : Int32) (M : Mm) : Prop :=
  f_Md_setCost fu (fun r2 M1 => post r2 M1) t 38 x1 x2 M
set_option maxRecDepth 100000 in
theorem c_Md_setInsertionCost (l : Launch) (g : GX) (w : WX) (fu : Nat) (post : Int32 → Mm → Prop) (t : Nat) (x1 : Int32) (x2 : Int32) (M : Mm) (ht : ok w t 11) (h : f_Md_setInsertionCost fu post t x1 x2 M) : Met l yX11_setInsertionCost [Cond.code yX11_setInsertionCost cX11_setInsertionCost 3 (some .int)] (rmC 3 0 0) (va_Pc [ob g t, .int x1, .int x2] (Wb g w M)) (va_Qi post (Wb g w) (Af g)) 0 0 (Af g) := by
  refine Ct_i (by decide) rfl (fun v hv => by simp only [List.mem_cons, List.not_mem_nil, or_false] at hv; rcases hv with rfl | rfl | rfl <;> rfl) (Nat.le_of_ble_eq_true rfl) (Nat.le_refl _) ?_
  intro X hX _ hC
  unfold f_Md_setInsertionCost at h
  refine V_sub (us := [some (ob g t), some (.int x1), some (.int x2)]) ⟨rfl, rfl, rfl, trivial⟩ ?_
  refine V_aload_n hC rfl dX11_setInsertionCost_0 ?_
  refine V_bipush (v := 38) hC (by decide) dX11_setInsertionCost_1 ?_
  refine V_iload_n hC rfl dX11_setInsertionCost_3 ?_
  refine V_iload_n hC rfl dX11_setInsertionCost_4 ?_
  refine V_calli (As := [.int 38, .int x1, .int x2]) hC (c_Md_setCost X.2.1 g w fu _ t 38 x1 x2 M ht h) mw_X11_setCost (by decide) tw_989 ht (by decide) rfl rfl rfl (Nat.le_of_ble_eq_true rfl) ⟨Nat.zero_le _, Nat.zero_le _⟩ dX11_setInsertionCost_5 (fun r2 M1 h => ?_)
  exact V_iret hC h dX11_setInsertionCost_8
def f_Md_setDeletionCost (fu : Nat) (post : Int32 → Mm → Prop) (t : Nat) (x1 : Int32) (x2 : Int32) (M : Mm) : Prop :=
  f_Md_setCost fu (fun r2 M1 => post r2 M1) t 44 x1 x2 M
set_option maxRecDepth 100000 in
theorem c_Md_setDeletionCost (l : Launch) (g : GX) (w : WX) (fu : Nat) (post : Int32 → Mm → Prop) (t : Nat) (x1 : Int32) (x2 : Int32) (M : Mm) (ht : ok w t 11) (h : f_Md_setDeletionCost fu post t x1 x2 M) : Met l yX11_setDeletionCost [Cond.code yX11_setDeletionCost cX11_setDeletionCost 3 (some .int)] (rmC 3 0 0) (va_Pc [ob g t, .int x1, .int x2] (Wb g w M)) (va_Qi post (Wb g w) (Af g)) 0 0 (Af g) := by
  refine Ct_i (by decide) rfl (fun v hv => by simp only [List.mem_cons, List.not_mem_nil, or_false] at hv; rcases hv with rfl | rfl | rfl <;> rfl) (Nat.le_of_ble_eq_true rfl) (Nat.le_refl _) ?_
  intro X hX _ hC
  unfold f_Md_setDeletionCost at h
  refine V_sub (us := [some (ob g t), some (.int x1), some (.int x2)]) ⟨rfl, rfl, rfl, trivial⟩ ?_
  refine V_aload_n hC rfl dX11_setDeletionCost_0 ?_
  refine V_bipush (v := 44) hC (by decide) dX11_setDeletionCost_1 ?_
  refine V_iload_n hC rfl dX11_setDeletionCost_3 ?_
  refine V_iload_n hC rfl dX11_setDeletionCost_4 ?_
  refine V_calli (As := [.int 44, .int x1, .int x2]) hC (c_Md_setCost X.2.1 g w fu _ t 44 x1 x2 M ht h) mw_X11_setCost (by decide) tw_989 ht (by decide) rfl rfl rfl (Nat.le_of_ble_eq_true rfl) ⟨Nat.zero_le _, Nat.zero_le _⟩ dX11_setDeletionCost_5 (fun r2 M1 h => ?_)
  exact V_iret hC h dX11_setDeletionCost_8
def f_Md_setReplacementCost (fu : Nat) (post : Int32 → Mm → Prop) (t : Nat) (x1 : Int32) (x2 : Int32) (M : Mm) : Prop :=
  f_Md_setCost fu (fun r2 M1 => post r2 M1) t 50 x1 x2 M
set_option maxRecDepth 100000 in
theorem c_Md_setReplacementCost (l : Launch) (g : GX) (w : WX) (fu : Nat) (post : Int32 → Mm → Prop) (t : Nat) (x1 : Int32) (x2 : Int32) (M : Mm) (ht : ok w t 11) (h : f_Md_setReplacementCost fu post t x1 x2 M) : Met l yX11_setReplacementCost [Cond.code yX11_setReplacementCost cX11_setReplacementCost 3 (some .int)] (rmC 3 0 0) (va_Pc [ob g t, .int x1, .int x2] (Wb g w M)) (va_Qi post (Wb g w) (Af g)) 0 0 (Af g) := by
  refine Ct_i (by decide) rfl (fun v hv => by simp only [List.mem_cons, List.not_mem_nil, or_false] at hv; rcases hv with rfl | rfl | rfl <;> rfl) (Nat.le_of_ble_eq_true rfl) (Nat.le_refl _) ?_
  intro X hX _ hC
  unfold f_Md_setReplacementCost at h
  refine V_sub (us := [some (ob g t), some (.int x1), some (.int x2)]) ⟨rfl, rfl, rfl, trivial⟩ ?_
  refine V_aload_n hC rfl dX11_setReplacementCost_0 ?_
  refine V_bipush (v := 50) hC (by decide) dX11_setReplacementCost_1 ?_
  refine V_iload_n hC rfl dX11_setReplacementCost_3 ?_
  refine V_iload_n hC rfl dX11_setReplacementCost_4 ?_
  refine V_calli (As := [.int 50, .int x1, .int x2]) hC (c_Md_setCost X.2.1 g w fu _ t 50 x1 x2 M ht h) mw_X11_setCost (by decide) tw_989 ht (by decide) rfl rfl rfl (Nat.le_of_ble_eq_true rfl) ⟨Nat.zero_le _, Nat.zero_le _⟩ dX11_setReplacementCost_5 (fun r2 M1 h => ?_)
  exact V_iret hC h dX11_setReplacementCost_8
def f_Md_undo (fu : Nat) (post : Int32 → Mm → Prop) (t : Nat) (M : Mm) : Prop :=
  (((M t 3) = 0) → post (-2) M) ∧ (¬ ((M t 3) = 0) → ∀ M1, M1 = up M t 3 ((M t 3) - 1) → f_Md_copyData fu (fun M2 => post (M2 t 3) M2) (t + 3) (69 * (M1 t 3)) (t + 1) 0 M1)
set_option maxRecDepth 100000 in
theorem c_Md_undo (l : Launch) (g : GX) (w : WX) (fu : Nat) (post : Int32 → Mm → Prop) (t : Nat) (M : Mm) (ht : ok w t 11) (h : f_Md_undo fu post t M) : Met l yX11_undo [Cond.code yX11_undo cX11_undo 1 (some .int)] (rmC 1 0 0) (va_Pc [ob g t] (Wb g w M)) (va_Qi post (Wb g w) (Af g)) 0 0 (Af g) := by
  refine Ct_i (by decide) rfl (fun v hv => by simp only [List.mem_cons, List.not_mem_nil, or_false] at hv; rcases hv with rfl <;> rfl) (Nat.le_of_ble_eq_true rfl) (Nat.le_refl _) ?_
  intro X hX _ hC
  unfold f_Md_undo at h
  refine V_sub (us := [some (ob g t)]) ⟨rfl, trivial⟩ ?_
  refine V_aload_n hC rfl dX11_undo_0 ?_
  refine gf_11_3 hC ht tw_820 dX11_undo_1 ?_
  refine V_if_ne (tgt := 10) hC dX11_undo_4 (by decide) (fun b3 => ?_) (fun b3 => ?_)
  · replace h := h.2 b3
    refine V_aload_n hC rfl dX11_undo_10 ?_
    refine V_dup hC rfl dX11_undo_11 ?_
    refine gf_11_3 hC ht tw_820 dX11_undo_12 ?_
    refine V_iconst (v := 1) hC (by decide) dX11_undo_15 ?_
    refine V_isub hC dX11_undo_16 ?_
    refine pf_11_3 hC ht tw_820 dX11_undo_17 ?_
    obtain ⟨M1, eM1⟩ : ∃ z, z = up M t 3 ((M t 3) - 1) := ⟨_, rfl⟩
    replace h := h M1 eM1
    refine V_mem eM1 ?_
    refine V_aload_n hC rfl dX11_undo_20 ?_
    refine gf_11_2 hC ht tw_819 dX11_undo_21 ?_
    refine V_bipush (v := 69) hC (by decide) dX11_undo_24 ?_
    refine V_aload_n hC rfl dX11_undo_26 ?_
    refine gf_11_3 hC ht tw_820 dX11_undo_27 ?_
    refine V_imul hC dX11_undo_30 ?_
    refine V_aload_n hC rfl dX11_undo_31 ?_
    refine gf_11_0 hC ht tw_817 dX11_undo_32 ?_
    refine V_iconst (v := 0) hC (by decide) dX11_undo_35 ?_
    refine V_scallv (As := [ob g (t + 3), .int (69 * (M1 t 3)), ob g (t + 1), .int 0]) hC (c_Md_copyData X.2.1 g w fu _ (t + 3) (69 * (M1 t 3)) (t + 1) 0 M1 (ok_11_2 ht) (ok_11_0 ht) h) mw_X11_copyData (by decide) tw_958 rfl rfl (Nat.le_of_ble_eq_true rfl) ⟨Nat.zero_le _, Nat.zero_le _⟩ dX11_undo_36 (fun M2 h => ?_)
    refine V_aload_n hC rfl dX11_undo_39 ?_
    refine gf_11_3 hC ht tw_820 dX11_undo_40 ?_
    exact V_iret hC h dX11_undo_43
  · replace h := h.1 b3
    refine V_bipush (v := (-2)) hC (by decide) dX11_undo_7 ?_
    exact V_iret hC h dX11_undo_9
def f_Md_stateCount (fu : Nat) (post : Int32 → Mm → Prop) (t : Nat) (M : Mm) : Prop :=
  vp_in 0 (ln (t + 1)) ∧ post (M (t + 1) 0) M
set_option maxRecDepth 100000 in
theorem c_Md_stateCount (l : Launch) (g : GX) (w : WX) (fu : Nat) (post : Int32 → Mm → Prop) (t : Nat) (M : Mm) (ht : ok w t 11) (h : f_Md_stateCount fu post t M) : Met l yX11_stateCount [Cond.code yX11_stateCount cX11_stateCount 1 (some .int)] (rmC 0 0 0) (va_Pc [ob g t] (Wb g w M)) (va_Qi post (Wb g w) (Af g)) 0 0 (Af g) := by
  refine Ct_i (by decide) rfl (fun v hv => by simp only [List.mem_cons, List.not_mem_nil, or_false] at hv; rcases hv with rfl <;> rfl) (Nat.le_of_ble_eq_true rfl) (Nat.le_refl _) ?_
  intro X hX _ hC
  unfold f_Md_stateCount at h
  refine V_sub (us := [some (ob g t)]) ⟨rfl, trivial⟩ ?_
  refine V_aload_n hC rfl dX11_stateCount_0 ?_
  refine gf_11_0 hC ht tw_817 dX11_stateCount_1 ?_
  refine V_iconst (v := 0) hC (by decide) dX11_stateCount_4 ?_
  obtain ⟨q1, h⟩ := h
  refine V_iaL (j := 0) (by decide) hC (ok_11_0 ht) q1 dX11_stateCount_5 ?_
  exact V_iret hC h dX11_stateCount_6
def f_Md_isAccepting (fu : Nat) (post : Int32 → Mm → Prop) (t : Nat) (x1 : Int32) (M : Mm) : Prop :=
  f_Md_in fu (fun r2 M1 => ((r2 = 0) → post (-1) M1) ∧ (¬ (r2 = 0) → vp_in 1 (ln (t + 1)) ∧ post (((M1 (t + 1) 1) >>> (x1 &&& 31)) &&& 1) M1)) x1 0 5 M
set_option maxRecDepth 100000 in
theorem c_Md_isAccepting (l : Launch) (g : GX) (w : WX) (fu : Nat) (post : Int32 → Mm → Prop) (t : Nat) (x1 : Int32) (M : Mm) (ht : ok w t 11) (h : f_Md_isAccepting fu post t x1 M) : Met l yX11_isAccepting [Cond.code yX11_isAccepting cX11_isAccepting 2 (some .int)] (rmC 1 0 0) (va_Pc [ob g t, .int x1] (Wb g w M)) (va_Qi post (Wb g w) (Af g)) 0 0 (Af g) := by
  refine Ct_i (by decide) rfl (fun v hv => by simp only [List.mem_cons, List.not_mem_nil, or_false] at hv; rcases hv with rfl | rfl <;> rfl) (Nat.le_of_ble_eq_true rfl) (Nat.le_refl _) ?_
  intro X hX _ hC
  unfold f_Md_isAccepting at h
  refine V_sub (us := [some (ob g t), some (.int x1)]) ⟨rfl, rfl, trivial⟩ ?_
  refine V_iload_n hC rfl dX11_isAccepting_0 ?_
  refine V_iconst (v := 0) hC (by decide) dX11_isAccepting_1 ?_
  refine V_iconst (v := 5) hC (by decide) dX11_isAccepting_2 ?_
  refine V_scalli (As := [.int x1, .int 0, .int 5]) hC (c_Md_in X.2.1 g w fu _ x1 0 5 M h) mw_X11_in (by decide) tw_894 rfl rfl (Nat.le_of_ble_eq_true rfl) ⟨Nat.zero_le _, Nat.zero_le _⟩ dX11_isAccepting_3 (fun r2 M1 h => ?_)
  obtain ⟨hzr2, h⟩ := h
  refine V_if_eq (tgt := 22) hC dX11_isAccepting_6 (by decide) (fun b4 => ?_) (fun b4 => ?_)
  · replace h := h.1 b4
    refine V_iconst (v := (-1)) hC (by decide) dX11_isAccepting_22 ?_
    exact V_iret hC h dX11_isAccepting_23
  · replace h := h.2 b4
    refine V_aload_n hC rfl dX11_isAccepting_9 ?_
    refine gf_11_0 hC ht tw_817 dX11_isAccepting_10 ?_
    refine V_iconst (v := 1) hC (by decide) dX11_isAccepting_13 ?_
    obtain ⟨q3, h⟩ := h
    refine V_iaL (j := 1) (by decide) hC (ok_11_0 ht) q3 dX11_isAccepting_14 ?_
    refine V_iload_n hC rfl dX11_isAccepting_15 ?_
    refine V_ishr hC dX11_isAccepting_16 ?_
    refine V_iconst (v := 1) hC (by decide) dX11_isAccepting_17 ?_
    refine V_iand hC dX11_isAccepting_18 ?_
    refine V_goto (tgt := 23) hC (by decide) dX11_isAccepting_19 ?_
    exact V_iret hC h dX11_isAccepting_23
def f_Md_ruleCount_25 (fu : Nat) (post : Int32 → Mm → Prop) (K4 : Nat → Int32 → Int32 → Mm → Prop) (t : Nat) (x2 : Int32) (kx0 : Int32) (kx1 : Int32) (M : Mm) : Prop :=
  ∀ y1, y1 = (kx0 + kx1) → ∀ y2, y2 = x2 + 1 → K4 t y1 y2 M
def f_Md_ruleCount_4 (fu : Nat) (post : Int32 → Mm → Prop) : Nat → Nat → Int32 → Int32 → Mm → Prop
  | 0, _, _, _, _ => False
  | kf + 1, t, x1, x2, M =>
    ((38 ≤ x2) → post x1 M) ∧ (¬ (38 ≤ x2) → vp_in x2 (ln (t + 1)) ∧ (((M (t + 1) x2.toNatClampNeg) = 0) → f_Md_ruleCount_25 fu post (f_Md_ruleCount_4 fu post kf) t x2 x1 0 M) ∧ (¬ ((M (t + 1) x2.toNatClampNeg) = 0) → f_Md_ruleCount_25 fu post (f_Md_ruleCount_4 fu post kf) t x2 x1 1 M))
def f_Md_ruleCount (fu : Nat) (post : Int32 → Mm → Prop) (t : Nat) (M : Mm) : Prop :=
  f_Md_ruleCount_4 fu post fu t 0 2 M
set_option maxRecDepth 100000 in
theorem j_Md_ruleCount_25 {l : Launch} {X : CX} {g : GX} {w : WX} {fu : Nat} {post : Int32 → Mm → Prop} (hX : X.2.1 = l) (hC : Cx X g cX11_ruleCount 3 RX11 (some .int) 0) {K4 : Nat → Int32 → Int32 → Mm → Prop} (hK4 : ∀ (t : Nat) (x1 : Int32) (x2 : Int32) (M : Mm), ok w t 11 → K4 t x1 x2 M → V X g w 3 0 0 (QI X g w post 0 0) 4 [some (ob g t), some (.int x1), some (.int x2)] [] M) (t : Nat) (x2 : Int32) (kx0 : Int32) (kx1 : Int32) {M : Mm} (ht : ok w t 11) (h : f_Md_ruleCount_25 fu post K4 t x2 kx0 kx1 M) : V X g w 3 0 0 (QI X g w post 0 0) 25 [some (ob g t), none, some (.int x2)] [.int kx1, .int kx0] M := by
  unfold f_Md_ruleCount_25 at h
  refine V_iadd hC dX11_ruleCount_25 ?_
  refine V_topi (fun y1 ey1 => ?_)
  replace h := h y1 ey1
  refine V_istore_n hC (by decide) dX11_ruleCount_26 ?_
  obtain ⟨y2, ey2⟩ : ∃ z, z = x2 + 1 := ⟨_, rfl⟩
  replace h := h y2 ey2
  refine V_iinc (v := y2) hC rfl (by rw [ey2]; rfl) (by decide) dX11_ruleCount_27 ?_
  refine V_goto (tgt := 4) hC (by decide) dX11_ruleCount_30 ?_
  refine V_sub (us := [some (ob g t), some (.int y1), some (.int y2)]) ⟨rfl, rfl, rfl, trivial⟩ ?_
  exact hK4 t y1 y2 M ht h
set_option maxRecDepth 100000 in
theorem l_Md_ruleCount_4 {l : Launch} {X : CX} {g : GX} {w : WX} {fu : Nat} {post : Int32 → Mm → Prop} (hX : X.2.1 = l) (hC : Cx X g cX11_ruleCount 3 RX11 (some .int) 0) : ∀ (kf : Nat) (t : Nat) (x1 : Int32) (x2 : Int32) (M : Mm) (ht : ok w t 11) (h : f_Md_ruleCount_4 fu post kf t x1 x2 M), V X g w 3 0 0 (QI X g w post 0 0) 4 [some (ob g t), some (.int x1), some (.int x2)] [] M := by
  intro kf
  induction kf with
  | zero => intro t x1 x2 M ht h; exact absurd h id
  | succ kf ih =>
    intro t x1 x2 M ht h
    rw [f_Md_ruleCount_4] at h
    refine V_iload_n hC rfl dX11_ruleCount_4 ?_
    refine V_bipush (v := 38) hC (by decide) dX11_ruleCount_5 ?_
    refine V_icmp_ge (tgt := 33) hC dX11_ruleCount_7 (by decide) (fun b3 => ?_) (fun b3 => ?_)
    · replace h := h.1 b3
      refine V_iload_n hC rfl dX11_ruleCount_33 ?_
      exact V_iret hC h dX11_ruleCount_34
    · replace h := h.2 b3
      refine V_iload_n hC rfl dX11_ruleCount_10 ?_
      refine V_aload_n hC rfl dX11_ruleCount_11 ?_
      refine gf_11_0 hC ht tw_817 dX11_ruleCount_12 ?_
      refine V_iload_n hC rfl dX11_ruleCount_15 ?_
      obtain ⟨q1, h⟩ := h
      refine V_iald hC (ok_11_0 ht) q1 dX11_ruleCount_16 ?_
      refine V_if_ne (tgt := 24) hC dX11_ruleCount_17 (by decide) (fun b2 => ?_) (fun b2 => ?_)
      · replace h := h.2 b2
        refine V_iconst (v := 1) hC (by decide) dX11_ruleCount_24 ?_
        refine V_sub (us := [some (ob g t), none, some (.int x2)]) ⟨rfl, rfl, trivial⟩ ?_
        exact j_Md_ruleCount_25 hX hC ih t x2 x1 1 ht h
      · replace h := h.1 b2
        refine V_iconst (v := 0) hC (by decide) dX11_ruleCount_20 ?_
        refine V_goto (tgt := 25) hC (by decide) dX11_ruleCount_21 ?_
        refine V_sub (us := [some (ob g t), none, some (.int x2)]) ⟨rfl, rfl, trivial⟩ ?_
        exact j_Md_ruleCount_25 hX hC ih t x2 x1 0 ht h
set_option maxRecDepth 100000 in
theorem c_Md_ruleCount (l : Launch) (g : GX) (w : WX) (fu : Nat) (post : Int32 → Mm → Prop) (t : Nat) (M : Mm) (ht : ok w t 11) (h : f_Md_ruleCount fu post t M) : Met l yX11_ruleCount [Cond.code yX11_ruleCount cX11_ruleCount 3 (some .int)] (rmC 0 0 0) (va_Pc [ob g t] (Wb g w M)) (va_Qi post (Wb g w) (Af g)) 0 0 (Af g) := by
  refine Ct_i (by decide) rfl (fun v hv => by simp only [List.mem_cons, List.not_mem_nil, or_false] at hv; rcases hv with rfl <;> rfl) (Nat.le_of_ble_eq_true rfl) (Nat.le_refl _) ?_
  intro X hX _ hC
  unfold f_Md_ruleCount at h
  refine V_sub (us := [some (ob g t), none, none]) ⟨rfl, trivial⟩ ?_
  refine V_iconst (v := 0) hC (by decide) dX11_ruleCount_0 ?_
  refine V_istore_n hC (by decide) dX11_ruleCount_1 ?_
  refine V_iconst (v := 2) hC (by decide) dX11_ruleCount_2 ?_
  refine V_istore_n hC (by decide) dX11_ruleCount_3 ?_
  refine V_sub (us := [some (ob g t), some (.int 0), some (.int 2)]) ⟨rfl, rfl, rfl, trivial⟩ ?_
  exact l_Md_ruleCount_4 hX hC fu t 0 2 M ht h
def f_Md_tokenCount (fu : Nat) (post : Int32 → Mm → Prop) (t : Nat) (M : Mm) : Prop :=
  vp_in 56 (ln (t + 1)) ∧ post (M (t + 1) 56) M
set_option maxRecDepth 100000 in
theorem c_Md_tokenCount (l : Launch) (g : GX) (w : WX) (fu : Nat) (post : Int32 → Mm → Prop) (t : Nat) (M : Mm) (ht : ok w t 11) (h : f_Md_tokenCount fu post t M) : Met l yX11_tokenCount [Cond.code yX11_tokenCount cX11_tokenCount 1 (some .int)] (rmC 0 0 0) (va_Pc [ob g t] (Wb g w M)) (va_Qi post (Wb g w) (Af g)) 0 0 (Af g) := by
  refine Ct_i (by decide) rfl (fun v hv => by simp only [List.mem_cons, List.not_mem_nil, or_false] at hv; rcases hv with rfl <;> rfl) (Nat.le_of_ble_eq_true rfl) (Nat.le_refl _) ?_
  intro X hX _ hC
  unfold f_Md_tokenCount at h
  refine V_sub (us := [some (ob g t)]) ⟨rfl, trivial⟩ ?_
  refine V_aload_n hC rfl dX11_tokenCount_0 ?_
  refine gf_11_0 hC ht tw_817 dX11_tokenCount_1 ?_
  refine V_bipush (v := 56) hC (by decide) dX11_tokenCount_4 ?_
  obtain ⟨q1, h⟩ := h
  refine V_iaL (j := 56) (by decide) hC (ok_11_0 ht) q1 dX11_tokenCount_6 ?_
  exact V_iret hC h dX11_tokenCount_7
def f_Md_tokenAt (fu : Nat) (post : Int32 → Mm → Prop) (t : Nat) (x1 : Int32) (M : Mm) : Prop :=
  f_Md_isToken fu (fun r2 M1 => ((r2 = 0) → post (-1) M1) ∧ (¬ (r2 = 0) → vp_in (57 + x1) (ln (t + 1)) ∧ post (M1 (t + 1) (57 + x1).toNatClampNeg) M1)) t x1 M
set_option maxRecDepth 100000 in
theorem c_Md_tokenAt (l : Launch) (g : GX) (w : WX) (fu : Nat) (post : Int32 → Mm → Prop) (t : Nat) (x1 : Int32) (M : Mm) (ht : ok w t 11) (h : f_Md_tokenAt fu post t x1 M) : Met l yX11_tokenAt [Cond.code yX11_tokenAt cX11_tokenAt 2 (some .int)] (rmC 2 0 0) (va_Pc [ob g t, .int x1] (Wb g w M)) (va_Qi post (Wb g w) (Af g)) 0 0 (Af g) := by
  refine Ct_i (by decide) rfl (fun v hv => by simp only [List.mem_cons, List.not_mem_nil, or_false] at hv; rcases hv with rfl | rfl <;> rfl) (Nat.le_of_ble_eq_true rfl) (Nat.le_refl _) ?_
  intro X hX _ hC
  unfold f_Md_tokenAt at h
  refine V_sub (us := [some (ob g t), some (.int x1)]) ⟨rfl, rfl, trivial⟩ ?_
  refine V_aload_n hC rfl dX11_tokenAt_0 ?_
  refine V_iload_n hC rfl dX11_tokenAt_1 ?_
  refine V_calli (As := [.int x1]) hC (c_Md_isToken X.2.1 g w fu _ t x1 M ht h) mw_X11_isToken (by decide) tw_977 ht (by decide) rfl rfl rfl (Nat.le_of_ble_eq_true rfl) ⟨Nat.zero_le _, Nat.zero_le _⟩ dX11_tokenAt_2 (fun r2 M1 h => ?_)
  obtain ⟨hzr2, h⟩ := h
  refine V_if_eq (tgt := 20) hC dX11_tokenAt_5 (by decide) (fun b4 => ?_) (fun b4 => ?_)
  · replace h := h.1 b4
    refine V_iconst (v := (-1)) hC (by decide) dX11_tokenAt_20 ?_
    exact V_iret hC h dX11_tokenAt_21
  · replace h := h.2 b4
    refine V_aload_n hC rfl dX11_tokenAt_8 ?_
    refine gf_11_0 hC ht tw_817 dX11_tokenAt_9 ?_
    refine V_bipush (v := 57) hC (by decide) dX11_tokenAt_12 ?_
    refine V_iload_n hC rfl dX11_tokenAt_14 ?_
    refine V_iadd hC dX11_tokenAt_15 ?_
    obtain ⟨q3, h⟩ := h
    refine V_iald hC (ok_11_0 ht) q3 dX11_tokenAt_16 ?_
    refine V_goto (tgt := 21) hC (by decide) dX11_tokenAt_17 ?_
    exact V_iret hC h dX11_tokenAt_21
def f_Md_depth (fu : Nat) (post : Int32 → Mm → Prop) (x0 : Int32) (M : Mm) : Prop :=
  ∀ y1, y1 = (x0 - x0 / 16 * 16) → ((y1 ≤ 7) → ((y1 ≤ 3) → ((y1 ≤ 1) → post 0 M) ∧ (¬ (y1 ≤ 1) → post 1 M)) ∧ (¬ (y1 ≤ 3) → post 2 M)) ∧ (¬ (y1 ≤ 7) → post 3 M)
set_option maxRecDepth 100000 in
theorem c_Md_depth (l : Launch) (g : GX) (w : WX) (fu : Nat) (post : Int32 → Mm → Prop) (x0 : Int32) (M : Mm) (h : f_Md_depth fu post x0 M) : Met l yX11_depth [Cond.code yX11_depth cX11_depth 2 (some .int)] (rmC 0 0 0) (va_Pc [.int x0] (Wb g w M)) (va_Qi post (Wb g w) (Af g)) 0 0 (Af g) := by
  refine Ct_i (by decide) rfl (fun v hv => by simp only [List.mem_cons, List.not_mem_nil, or_false] at hv; rcases hv with rfl <;> rfl) (Nat.le_of_ble_eq_true rfl) (Nat.le_refl _) ?_
  intro X hX _ hC
  unfold f_Md_depth at h
  refine V_sub (us := [some (.int x0), none]) ⟨rfl, trivial⟩ ?_
  refine V_iload_n hC rfl dX11_depth_0 ?_
  refine V_bipush (v := 16) hC (by decide) dX11_depth_1 ?_
  refine V_irem hC (by decide) dX11_depth_3 ?_
  refine V_topi (fun y1 ey1 => ?_)
  replace h := h y1 ey1
  refine V_istore_n hC (by decide) dX11_depth_4 ?_
  refine V_iload_n hC rfl dX11_depth_5 ?_
  refine V_bipush (v := 7) hC (by decide) dX11_depth_6 ?_
  refine V_icmp_le (tgt := 15) hC dX11_depth_8 (by decide) (fun b4 => ?_) (fun b4 => ?_)
  · replace h := h.1 b4
    refine V_iload_n hC rfl dX11_depth_15 ?_
    refine V_iconst (v := 3) hC (by decide) dX11_depth_16 ?_
    refine V_icmp_le (tgt := 24) hC dX11_depth_17 (by decide) (fun b3 => ?_) (fun b3 => ?_)
    · replace h := h.1 b3
      refine V_iload_n hC rfl dX11_depth_24 ?_
      refine V_iconst (v := 1) hC (by decide) dX11_depth_25 ?_
      refine V_icmp_le (tgt := 33) hC dX11_depth_26 (by decide) (fun b2 => ?_) (fun b2 => ?_)
      · replace h := h.1 b2
        refine V_iconst (v := 0) hC (by decide) dX11_depth_33 ?_
        exact V_iret hC h dX11_depth_34
      · replace h := h.2 b2
        refine V_iconst (v := 1) hC (by decide) dX11_depth_29 ?_
        refine V_goto (tgt := 34) hC (by decide) dX11_depth_30 ?_
        exact V_iret hC h dX11_depth_34
    · replace h := h.2 b3
      refine V_iconst (v := 2) hC (by decide) dX11_depth_20 ?_
      refine V_goto (tgt := 34) hC (by decide) dX11_depth_21 ?_
      exact V_iret hC h dX11_depth_34
  · replace h := h.2 b4
    refine V_iconst (v := 3) hC (by decide) dX11_depth_11 ?_
    refine V_goto (tgt := 34) hC (by decide) dX11_depth_12 ?_
    exact V_iret hC h dX11_depth_34
def f_Md_consume (fu : Nat) (post : Int32 → Mm → Prop) (t : Nat) (x1 : Int32) (x2 : Int32) (M : Mm) : Prop :=
  vp_in ((2 + (6 * (x1 / 16))) + x2) (ln (t + 1)) ∧ ∀ y2, y2 = (M (t + 1) ((2 + (6 * (x1 / 16))) + x2).toNatClampNeg) → ∀ y3, y3 = (x1 - x1 / 16 * 16) → ∀ y4, y4 = (y2 - y2 / 10 * 10) → ∀ y5, y5 = (16 * ((y2 / 10) - (y2 / 10) / 10 * 10)) → ((y2 / 100) = 1 → post (y5 + y3) M) ∧ ((y2 / 100) = 2 → ((y3 ≤ 7) → post ((y5 + (2 * y3)) + y4) M) ∧ (¬ (y3 ≤ 7) → post (-9) M)) ∧ ((y2 / 100) = 3 → ((y3 ≤ 1) → post (-9) M) ∧ (¬ (y3 ≤ 1) → (((y3 - y3 / 2 * 2) = y4) → post (y5 + (y3 / 2)) M) ∧ (¬ ((y3 - y3 / 2 * 2) = y4) → post (-9) M))) ∧ (¬ (y2 / 100) = 1 → ¬ (y2 / 100) = 2 → ¬ (y2 / 100) = 3 → post (-9) M)
set_option maxRecDepth 100000 in
theorem c_Md_consume (l : Launch) (g : GX) (w : WX) (fu : Nat) (post : Int32 → Mm → Prop) (t : Nat) (x1 : Int32) (x2 : Int32) (M : Mm) (ht : ok w t 11) (h : f_Md_consume fu post t x1 x2 M) : Met l yX11_consume [Cond.code yX11_consume cX11_consume 7 (some .int)] (rmC 0 0 0) (va_Pc [ob g t, .int x1, .int x2] (Wb g w M)) (va_Qi post (Wb g w) (Af g)) 0 0 (Af g) := by
  refine Ct_i (by decide) rfl (fun v hv => by simp only [List.mem_cons, List.not_mem_nil, or_false] at hv; rcases hv with rfl | rfl | rfl <;> rfl) (Nat.le_of_ble_eq_true rfl) (Nat.le_refl _) ?_
  intro X hX _ hC
  unfold f_Md_consume at h
  refine V_sub (us := [some (ob g t), some (.int x1), some (.int x2), none, none, none, none]) ⟨rfl, rfl, rfl, trivial⟩ ?_
  refine V_aload_n hC rfl dX11_consume_0 ?_
  refine gf_11_0 hC ht tw_817 dX11_consume_1 ?_
  refine V_iconst (v := 2) hC (by decide) dX11_consume_4 ?_
  refine V_bipush (v := 6) hC (by decide) dX11_consume_5 ?_
  refine V_iload_n hC rfl dX11_consume_7 ?_
  refine V_bipush (v := 16) hC (by decide) dX11_consume_8 ?_
  refine V_idiv hC (by decide) dX11_consume_10 ?_
  refine V_imul hC dX11_consume_11 ?_
  refine V_iadd hC dX11_consume_12 ?_
  refine V_iload_n hC rfl dX11_consume_13 ?_
  refine V_iadd hC dX11_consume_14 ?_
  obtain ⟨q1, h⟩ := h
  refine V_iald hC (ok_11_0 ht) q1 dX11_consume_15 ?_
  refine V_topi (fun y2 ey2 => ?_)
  replace h := h y2 ey2
  refine V_istore_n hC (by decide) dX11_consume_16 ?_
  refine V_iload_n hC rfl dX11_consume_17 ?_
  refine V_bipush (v := 16) hC (by decide) dX11_consume_18 ?_
  refine V_irem hC (by decide) dX11_consume_20 ?_
  refine V_topi (fun y3 ey3 => ?_)
  replace h := h y3 ey3
  refine V_istore hC (by decide) dX11_consume_21 ?_
  refine V_iload_n hC rfl dX11_consume_23 ?_
  refine V_bipush (v := 10) hC (by decide) dX11_consume_24 ?_
  refine V_irem hC (by decide) dX11_consume_26 ?_
  refine V_topi (fun y4 ey4 => ?_)
  replace h := h y4 ey4
  refine V_istore hC (by decide) dX11_consume_27 ?_
  refine V_bipush (v := 16) hC (by decide) dX11_consume_29 ?_
  refine V_iload_n hC rfl dX11_consume_31 ?_
  refine V_bipush (v := 10) hC (by decide) dX11_consume_32 ?_
  refine V_idiv hC (by decide) dX11_consume_34 ?_
  refine V_bipush (v := 10) hC (by decide) dX11_consume_35 ?_
  refine V_irem hC (by decide) dX11_consume_37 ?_
  refine V_imul hC dX11_consume_38 ?_
  refine V_topi (fun y5 ey5 => ?_)
  replace h := h y5 ey5
  refine V_istore hC (by decide) dX11_consume_39 ?_
  refine V_iload_n hC rfl dX11_consume_41 ?_
  refine V_bipush (v := 100) hC (by decide) dX11_consume_42 ?_
  refine V_idiv hC (by decide) dX11_consume_44 ?_
  by_cases b6 : (y2 / 100) = 1
  · replace h := h.1 b6
    refine V_tin (tgt := 72) hC dX11_consume_45 (by rw [b6]; decide) (by rw [b6]; decide) (by rw [b6]; rfl) (by decide) ?_
    refine V_iload hC rfl dX11_consume_72 ?_
    refine V_iload hC rfl dX11_consume_74 ?_
    refine V_iadd hC dX11_consume_76 ?_
    exact V_iret hC h dX11_consume_77
  by_cases b7 : (y2 / 100) = 2
  · replace h := h.2.1 b7
    refine V_tin (tgt := 78) hC dX11_consume_45 (by rw [b7]; decide) (by rw [b7]; decide) (by rw [b7]; rfl) (by decide) ?_
    refine V_iload hC rfl dX11_consume_78 ?_
    refine V_bipush (v := 7) hC (by decide) dX11_consume_80 ?_
    refine V_icmp_le (tgt := 90) hC dX11_consume_82 (by decide) (fun b8 => ?_) (fun b8 => ?_)
    · replace h := h.1 b8
      refine V_iload hC rfl dX11_consume_90 ?_
      refine V_iconst (v := 2) hC (by decide) dX11_consume_92 ?_
      refine V_iload hC rfl dX11_consume_93 ?_
      refine V_imul hC dX11_consume_95 ?_
      refine V_iadd hC dX11_consume_96 ?_
      refine V_iload hC rfl dX11_consume_97 ?_
      refine V_iadd hC dX11_consume_99 ?_
      exact V_iret hC h dX11_consume_100
    · replace h := h.2 b8
      refine V_bipush (v := (-9)) hC (by decide) dX11_consume_85 ?_
      refine V_goto (tgt := 100) hC (by decide) dX11_consume_87 ?_
      exact V_iret hC h dX11_consume_100
  by_cases b9 : (y2 / 100) = 3
  · replace h := h.2.2.1 b9
    refine V_tin (tgt := 101) hC dX11_consume_45 (by rw [b9]; decide) (by rw [b9]; decide) (by rw [b9]; rfl) (by decide) ?_
    refine V_iload hC rfl dX11_consume_101 ?_
    refine V_iconst (v := 1) hC (by decide) dX11_consume_103 ?_
    refine V_icmp_le (tgt := 126) hC dX11_consume_104 (by decide) (fun b11 => ?_) (fun b11 => ?_)
    · replace h := h.1 b11
      refine V_bipush (v := (-9)) hC (by decide) dX11_consume_126 ?_
      exact V_iret hC h dX11_consume_128
    · replace h := h.2 b11
      refine V_iload hC rfl dX11_consume_107 ?_
      refine V_iconst (v := 2) hC (by decide) dX11_consume_109 ?_
      refine V_irem hC (by decide) dX11_consume_110 ?_
      refine V_iload hC rfl dX11_consume_111 ?_
      refine V_icmp_ne (tgt := 126) hC dX11_consume_113 (by decide) (fun b10 => ?_) (fun b10 => ?_)
      · replace h := h.2 b10
        refine V_bipush (v := (-9)) hC (by decide) dX11_consume_126 ?_
        exact V_iret hC h dX11_consume_128
      · replace h := h.1 b10
        refine V_iload hC rfl dX11_consume_116 ?_
        refine V_iload hC rfl dX11_consume_118 ?_
        refine V_iconst (v := 2) hC (by decide) dX11_consume_120 ?_
        refine V_idiv hC (by decide) dX11_consume_121 ?_
        refine V_iadd hC dX11_consume_122 ?_
        refine V_goto (tgt := 128) hC (by decide) dX11_consume_123 ?_
        exact V_iret hC h dX11_consume_128
  replace h := h.2.2.2 b6 b7 b9
  refine V_tout (tgt := 129) hC dX11_consume_45 (tout3 b6 b7 b9) (by decide) ?_
  refine V_bipush (v := (-9)) hC (by decide) dX11_consume_129 ?_
  exact V_iret hC h dX11_consume_131
def f_Md_isFinal (fu : Nat) (post : Int32 → Mm → Prop) (t : Nat) (x1 : Int32) (M : Mm) : Prop :=
  (((x1 - x1 / 16 * 16) = 1) → vp_in 1 (ln (t + 1)) ∧ (((((M (t + 1) 1) >>> ((x1 / 16) &&& 31)) &&& 1) = 1) → post 1 M) ∧ (¬ ((((M (t + 1) 1) >>> ((x1 / 16) &&& 31)) &&& 1) = 1) → post 0 M)) ∧ (¬ ((x1 - x1 / 16 * 16) = 1) → post 0 M)
set_option maxRecDepth 100000 in
theorem c_Md_isFinal (l : Launch) (g : GX) (w : WX) (fu : Nat) (post : Int32 → Mm → Prop) (t : Nat) (x1 : Int32) (M : Mm) (ht : ok w t 11) (h : f_Md_isFinal fu post t x1 M) : Met l yX11_isFinal [Cond.code yX11_isFinal cX11_isFinal 2 (some .boolean)] (rmC 0 0 0) (va_Pc [ob g t, .int x1] (Wb g w M)) (va_Qi (fun r M => zb r ∧ post r M) (Wb g w) (Af g)) 0 0 (Af g) := by
  refine Ct_i (by decide) rfl (fun v hv => by simp only [List.mem_cons, List.not_mem_nil, or_false] at hv; rcases hv with rfl | rfl <;> rfl) (Nat.le_of_ble_eq_true rfl) (Nat.le_refl _) ?_
  intro X hX _ hC
  unfold f_Md_isFinal at h
  refine V_sub (us := [some (ob g t), some (.int x1)]) ⟨rfl, rfl, trivial⟩ ?_
  refine V_iload_n hC rfl dX11_isFinal_0 ?_
  refine V_bipush (v := 16) hC (by decide) dX11_isFinal_1 ?_
  refine V_irem hC (by decide) dX11_isFinal_3 ?_
  refine V_iconst (v := 1) hC (by decide) dX11_isFinal_4 ?_
  refine V_icmp_ne (tgt := 29) hC dX11_isFinal_5 (by decide) (fun b3 => ?_) (fun b3 => ?_)
  · replace h := h.2 b3
    refine V_iconst (v := 0) hC (by decide) dX11_isFinal_29 ?_
    exact V_zret hC (Or.inl rfl) h dX11_isFinal_30
  · replace h := h.1 b3
    refine V_aload_n hC rfl dX11_isFinal_8 ?_
    refine gf_11_0 hC ht tw_817 dX11_isFinal_9 ?_
    refine V_iconst (v := 1) hC (by decide) dX11_isFinal_12 ?_
    obtain ⟨q1, h⟩ := h
    refine V_iaL (j := 1) (by decide) hC (ok_11_0 ht) q1 dX11_isFinal_13 ?_
    refine V_iload_n hC rfl dX11_isFinal_14 ?_
    refine V_bipush (v := 16) hC (by decide) dX11_isFinal_15 ?_
    refine V_idiv hC (by decide) dX11_isFinal_17 ?_
    refine V_ishr hC dX11_isFinal_18 ?_
    refine V_iconst (v := 1) hC (by decide) dX11_isFinal_19 ?_
    refine V_iand hC dX11_isFinal_20 ?_
    refine V_iconst (v := 1) hC (by decide) dX11_isFinal_21 ?_
    refine V_icmp_ne (tgt := 29) hC dX11_isFinal_22 (by decide) (fun b2 => ?_) (fun b2 => ?_)
    · replace h := h.2 b2
      refine V_iconst (v := 0) hC (by decide) dX11_isFinal_29 ?_
      exact V_zret hC (Or.inl rfl) h dX11_isFinal_30
    · replace h := h.1 b2
      refine V_iconst (v := 1) hC (by decide) dX11_isFinal_25 ?_
      refine V_goto (tgt := 30) hC (by decide) dX11_isFinal_26 ?_
      exact V_zret hC (Or.inr rfl) h dX11_isFinal_30
def f_Md_run_8 (fu : Nat) (post : Int32 → Mm → Prop) : Nat → Nat → Int32 → Int32 → Mm → Prop
  | 0, _, _, _, _ => False
  | kf + 1, t, x3, x4, M =>
    ((x3 ≤ x4) → post x4 M) ∧ (¬ (x3 ≤ x4) → vp_in (57 + x4) (ln (t + 1)) ∧ f_Md_consume fu (fun r3 M2 => ((r3 = (-9)) → post x4 M2) ∧ (¬ (r3 = (-9)) → vp_in (57 + x4) (ln (t + 1)) ∧ f_Md_consume fu (fun r6 M5 => ∀ M7, M7 = up M5 t 12 r6 → ∀ y8, y8 = x4 + 1 → f_Md_run_8 fu post kf t x3 y8 M7) t (M2 t 12) (M2 (t + 1) (57 + x4).toNatClampNeg) M2)) t (M t 12) (M (t + 1) (57 + x4).toNatClampNeg) M)
def f_Md_run (fu : Nat) (post : Int32 → Mm → Prop) (t : Nat) (x1 : Int32) (x2 : Int32) (x3 : Int32) (M : Mm) : Prop :=
  ∀ M1, M1 = up M t 12 x2 → f_Md_run_8 fu post fu t x3 x1 M1
set_option maxRecDepth 100000 in
theorem l_Md_run_8 {l : Launch} {X : CX} {g : GX} {w : WX} {fu : Nat} {post : Int32 → Mm → Prop} (hX : X.2.1 = l) (hC : Cx X g cX11_run 5 RX11 (some .int) 1) : ∀ (kf : Nat) (t : Nat) (x3 : Int32) (x4 : Int32) (M : Mm) (ht : ok w t 11) (h : f_Md_run_8 fu post kf t x3 x4 M), V X g w 5 0 0 (QI X g w post 0 0) 8 [some (ob g t), none, none, some (.int x3), some (.int x4)] [] M := by
  intro kf
  induction kf with
  | zero => intro t x3 x4 M ht h; exact absurd h id
  | succ kf ih =>
    intro t x3 x4 M ht h
    rw [f_Md_run_8] at h
    refine V_iload hC rfl dX11_run_8 ?_
    refine V_iload_n hC rfl dX11_run_10 ?_
    refine V_icmp_ge (tgt := 65) hC dX11_run_11 (by decide) (fun b10 => ?_) (fun b10 => ?_)
    · replace h := h.1 b10
      refine V_iload hC rfl dX11_run_65 ?_
      exact V_iret hC h dX11_run_67
    · replace h := h.2 b10
      refine V_aload_n hC rfl dX11_run_14 ?_
      refine V_aload_n hC rfl dX11_run_15 ?_
      refine gf_11_12 hC ht tw_829 dX11_run_16 ?_
      refine V_aload_n hC rfl dX11_run_19 ?_
      refine gf_11_0 hC ht tw_817 dX11_run_20 ?_
      refine V_bipush (v := 57) hC (by decide) dX11_run_23 ?_
      refine V_iload hC rfl dX11_run_25 ?_
      refine V_iadd hC dX11_run_27 ?_
      obtain ⟨q1, h⟩ := h
      refine V_iald hC (ok_11_0 ht) q1 dX11_run_28 ?_
      refine V_calli (As := [.int (M t 12), .int (M (t + 1) (57 + x4).toNatClampNeg)]) hC (c_Md_consume X.2.1 g w fu _ t (M t 12) (M (t + 1) (57 + x4).toNatClampNeg) M ht h) mw_X11_consume (by decide) tw_1037 ht (by decide) rfl rfl rfl (Nat.le_of_ble_eq_true rfl) ⟨Nat.zero_le _, Nat.zero_le _⟩ dX11_run_29 (fun r3 M2 h => ?_)
      refine V_bipush (v := (-9)) hC (by decide) dX11_run_32 ?_
      refine V_icmp_eq (tgt := 65) hC dX11_run_34 (by decide) (fun b9 => ?_) (fun b9 => ?_)
      · replace h := h.1 b9
        refine V_iload hC rfl dX11_run_65 ?_
        exact V_iret hC h dX11_run_67
      · replace h := h.2 b9
        refine V_aload_n hC rfl dX11_run_37 ?_
        refine V_aload_n hC rfl dX11_run_38 ?_
        refine V_aload_n hC rfl dX11_run_39 ?_
        refine gf_11_12 hC ht tw_829 dX11_run_40 ?_
        refine V_aload_n hC rfl dX11_run_43 ?_
        refine gf_11_0 hC ht tw_817 dX11_run_44 ?_
        refine V_bipush (v := 57) hC (by decide) dX11_run_47 ?_
        refine V_iload hC rfl dX11_run_49 ?_
        refine V_iadd hC dX11_run_51 ?_
        obtain ⟨q4, h⟩ := h
        refine V_iald hC (ok_11_0 ht) q4 dX11_run_52 ?_
        refine V_calli (As := [.int (M2 t 12), .int (M2 (t + 1) (57 + x4).toNatClampNeg)]) hC (c_Md_consume X.2.1 g w fu _ t (M2 t 12) (M2 (t + 1) (57 + x4).toNatClampNeg) M2 ht h) mw_X11_consume (by decide) tw_1037 ht (by decide) rfl rfl rfl (Nat.le_of_ble_eq_true rfl) ⟨Nat.zero_le _, Nat.zero_le _⟩ dX11_run_53 (fun r6 M5 h => ?_)
        refine pf_11_12 hC ht tw_829 dX11_run_56 ?_
        obtain ⟨M7, eM7⟩ : ∃ z, z = up M5 t 12 r6 := ⟨_, rfl⟩
        replace h := h M7 eM7
        refine V_mem eM7 ?_
        obtain ⟨y8, ey8⟩ : ∃ z, z = x4 + 1 := ⟨_, rfl⟩
        replace h := h y8 ey8
        refine V_iinc (v := y8) hC rfl (by rw [ey8]; rfl) (by decide) dX11_run_59 ?_
        refine V_goto (tgt := 8) hC (by decide) dX11_run_62 ?_
        refine V_sub (us := [some (ob g t), none, none, some (.int x3), some (.int y8)]) ⟨rfl, rfl, rfl, trivial⟩ ?_
        exact ih t x3 y8 M7 ht h
set_option maxRecDepth 100000 in
theorem c_Md_run (l : Launch) (g : GX) (w : WX) (fu : Nat) (post : Int32 → Mm → Prop) (t : Nat) (x1 : Int32) (x2 : Int32) (x3 : Int32) (M : Mm) (ht : ok w t 11) (h : f_Md_run fu post t x1 x2 x3 M) : Met l yX11_run [Cond.code yX11_run cX11_run 5 (some .int)] (rmC 1 0 0) (va_Pc [ob g t, .int x1, .int x2, .int x3] (Wb g w M)) (va_Qi post (Wb g w) (Af g)) 0 0 (Af g) := by
  refine Ct_i (by decide) rfl (fun v hv => by simp only [List.mem_cons, List.not_mem_nil, or_false] at hv; rcases hv with rfl | rfl | rfl | rfl <;> rfl) (Nat.le_of_ble_eq_true rfl) (Nat.le_refl _) ?_
  intro X hX _ hC
  unfold f_Md_run at h
  refine V_sub (us := [some (ob g t), some (.int x1), some (.int x2), some (.int x3), none]) ⟨rfl, rfl, rfl, rfl, trivial⟩ ?_
  refine V_iload_n hC rfl dX11_run_0 ?_
  refine V_istore hC (by decide) dX11_run_1 ?_
  refine V_aload_n hC rfl dX11_run_3 ?_
  refine V_iload_n hC rfl dX11_run_4 ?_
  refine pf_11_12 hC ht tw_829 dX11_run_5 ?_
  obtain ⟨M1, eM1⟩ : ∃ z, z = up M t 12 x2 := ⟨_, rfl⟩
  replace h := h M1 eM1
  refine V_mem eM1 ?_
  refine V_sub (us := [some (ob g t), none, none, some (.int x3), some (.int x1)]) ⟨rfl, rfl, rfl, trivial⟩ ?_
  exact l_Md_run_8 hX hC fu t x3 x1 M1 ht h
def f_Md_findError (fu : Nat) (post : Int32 → Mm → Prop) (t : Nat) (x1 : Int32) (x2 : Int32) (M : Mm) : Prop :=
  vp_in 56 (ln (t + 1)) ∧ f_Md_run fu (fun r3 M2 => vp_in 56 (ln (t + 1)) ∧ ((r3 = (M2 (t + 1) 56)) → f_Md_isFinal fu (fun r6 M5 => ((r6 = 0) → post r3 M5) ∧ (¬ (r6 = 0) → post (-9) M5)) t (M2 t 12) M2) ∧ (¬ (r3 = (M2 (t + 1) 56)) → post r3 M2)) t x1 x2 (M (t + 1) 56) M
set_option maxRecDepth 100000 in
theorem c_Md_findError (l : Launch) (g : GX) (w : WX) (fu : Nat) (post : Int32 → Mm → Prop) (t : Nat) (x1 : Int32) (x2 : Int32) (M : Mm) (ht : ok w t 11) (h : f_Md_findError fu post t x1 x2 M) : Met l yX11_findError [Cond.code yX11_findError cX11_findError 4 (some .int)] (rmC 2 0 0) (va_Pc [ob g t, .int x1, .int x2] (Wb g w M)) (va_Qi post (Wb g w) (Af g)) 0 0 (Af g) := by
  refine Ct_i (by decide) rfl (fun v hv => by simp only [List.mem_cons, List.not_mem_nil, or_false] at hv; rcases hv with rfl | rfl | rfl <;> rfl) (Nat.le_of_ble_eq_true rfl) (Nat.le_refl _) ?_
  intro X hX _ hC
  unfold f_Md_findError at h
  refine V_sub (us := [some (ob g t), some (.int x1), some (.int x2), none]) ⟨rfl, rfl, rfl, trivial⟩ ?_
  refine V_aload_n hC rfl dX11_findError_0 ?_
  refine V_iload_n hC rfl dX11_findError_1 ?_
  refine V_iload_n hC rfl dX11_findError_2 ?_
  refine V_aload_n hC rfl dX11_findError_3 ?_
  refine gf_11_0 hC ht tw_817 dX11_findError_4 ?_
  refine V_bipush (v := 56) hC (by decide) dX11_findError_7 ?_
  obtain ⟨q1, h⟩ := h
  refine V_iaL (j := 56) (by decide) hC (ok_11_0 ht) q1 dX11_findError_9 ?_
  refine V_calli (As := [.int x1, .int x2, .int (M (t + 1) 56)]) hC (c_Md_run X.2.1 g w fu _ t x1 x2 (M (t + 1) 56) M ht h) mw_X11_run (by decide) tw_1033 ht (by decide) rfl rfl rfl (Nat.le_of_ble_eq_true rfl) ⟨Nat.zero_le _, Nat.zero_le _⟩ dX11_findError_10 (fun r3 M2 h => ?_)
  refine V_istore_n hC (by decide) dX11_findError_13 ?_
  refine V_iload_n hC rfl dX11_findError_14 ?_
  refine V_aload_n hC rfl dX11_findError_15 ?_
  refine gf_11_0 hC ht tw_817 dX11_findError_16 ?_
  refine V_bipush (v := 56) hC (by decide) dX11_findError_19 ?_
  obtain ⟨q4, h⟩ := h
  refine V_iaL (j := 56) (by decide) hC (ok_11_0 ht) q4 dX11_findError_21 ?_
  refine V_icmp_ne (tgt := 41) hC dX11_findError_22 (by decide) (fun b8 => ?_) (fun b8 => ?_)
  · replace h := h.2 b8
    refine V_iload_n hC rfl dX11_findError_41 ?_
    exact V_iret hC h dX11_findError_42
  · replace h := h.1 b8
    refine V_aload_n hC rfl dX11_findError_25 ?_
    refine V_aload_n hC rfl dX11_findError_26 ?_
    refine gf_11_12 hC ht tw_829 dX11_findError_27 ?_
    refine V_calli (As := [.int (M2 t 12)]) hC (c_Md_isFinal X.2.1 g w fu _ t (M2 t 12) M2 ht h) mw_X11_isFinal (by decide) tw_1041 ht (by decide) rfl rfl rfl (Nat.le_of_ble_eq_true rfl) ⟨Nat.zero_le _, Nat.zero_le _⟩ dX11_findError_30 (fun r6 M5 h => ?_)
    obtain ⟨hzr6, h⟩ := h
    refine V_if_eq (tgt := 41) hC dX11_findError_33 (by decide) (fun b7 => ?_) (fun b7 => ?_)
    · replace h := h.1 b7
      refine V_iload_n hC rfl dX11_findError_41 ?_
      exact V_iret hC h dX11_findError_42
    · replace h := h.2 b7
      refine V_bipush (v := (-9)) hC (by decide) dX11_findError_36 ?_
      refine V_goto (tgt := 42) hC (by decide) dX11_findError_38 ?_
      exact V_iret hC h dX11_findError_42
def f_Md_errorPosition (fu : Nat) (post : Int32 → Mm → Prop) (t : Nat) (M : Mm) : Prop :=
  f_Md_findError fu (fun r2 M1 => post r2 M1) t 0 1 M
set_option maxRecDepth 100000 in
theorem c_Md_errorPosition (l : Launch) (g : GX) (w : WX) (fu : Nat) (post : Int32 → Mm → Prop) (t : Nat) (M : Mm) (ht : ok w t 11) (h : f_Md_errorPosition fu post t M) : Met l yX11_errorPosition [Cond.code yX11_errorPosition cX11_errorPosition 1 (some .int)] (rmC 3 0 0) (va_Pc [ob g t] (Wb g w M)) (va_Qi post (Wb g w) (Af g)) 0 0 (Af g) := by
  refine Ct_i (by decide) rfl (fun v hv => by simp only [List.mem_cons, List.not_mem_nil, or_false] at hv; rcases hv with rfl <;> rfl) (Nat.le_of_ble_eq_true rfl) (Nat.le_refl _) ?_
  intro X hX _ hC
  unfold f_Md_errorPosition at h
  refine V_sub (us := [some (ob g t)]) ⟨rfl, trivial⟩ ?_
  refine V_aload_n hC rfl dX11_errorPosition_0 ?_
  refine V_iconst (v := 0) hC (by decide) dX11_errorPosition_1 ?_
  refine V_iconst (v := 1) hC (by decide) dX11_errorPosition_2 ?_
  refine V_calli (As := [.int 0, .int 1]) hC (c_Md_findError X.2.1 g w fu _ t 0 1 M ht h) mw_X11_findError (by decide) tw_1029 ht (by decide) rfl rfl rfl (Nat.le_of_ble_eq_true rfl) ⟨Nat.zero_le _, Nat.zero_le _⟩ dX11_errorPosition_3 (fun r2 M1 h => ?_)
  exact V_iret hC h dX11_errorPosition_6
def f_Md_runTokens (fu : Nat) (post : Int32 → Mm → Prop) (t : Nat) (x1 : Int32) (M : Mm) : Prop :=
  vp_in 56 (ln (t + 1)) ∧ f_Md_in fu (fun r3 M2 => ((r3 = 0) → post (-1) M2) ∧ (¬ (r3 = 0) → f_Md_run fu (fun r5 M4 => ((x1 ≤ r5) → post 0 M4) ∧ (¬ (x1 ≤ r5) → post (-2) M4)) t 0 1 x1 M2)) x1 0 (M (t + 1) 56) M
set_option maxRecDepth 100000 in
theorem c_Md_runTokens (l : Launch) (g : GX) (w : WX) (fu : Nat) (post : Int32 → Mm → Prop) (t : Nat) (x1 : Int32) (M : Mm) (ht : ok w t 11) (h : f_Md_runTokens fu post t x1 M) : Met l yX11_runTokens [Cond.code yX11_runTokens cX11_runTokens 2 (some .int)] (rmC 2 0 0) (va_Pc [ob g t, .int x1] (Wb g w M)) (va_Qi post (Wb g w) (Af g)) 0 0 (Af g) := by
  refine Ct_i (by decide) rfl (fun v hv => by simp only [List.mem_cons, List.not_mem_nil, or_false] at hv; rcases hv with rfl | rfl <;> rfl) (Nat.le_of_ble_eq_true rfl) (Nat.le_refl _) ?_
  intro X hX _ hC
  unfold f_Md_runTokens at h
  refine V_sub (us := [some (ob g t), some (.int x1)]) ⟨rfl, rfl, trivial⟩ ?_
  refine V_iload_n hC rfl dX11_runTokens_0 ?_
  refine V_iconst (v := 0) hC (by decide) dX11_runTokens_1 ?_
  refine V_aload_n hC rfl dX11_runTokens_2 ?_
  refine gf_11_0 hC ht tw_817 dX11_runTokens_3 ?_
  refine V_bipush (v := 56) hC (by decide) dX11_runTokens_6 ?_
  obtain ⟨q1, h⟩ := h
  refine V_iaL (j := 56) (by decide) hC (ok_11_0 ht) q1 dX11_runTokens_8 ?_
  refine V_scalli (As := [.int x1, .int 0, .int (M (t + 1) 56)]) hC (c_Md_in X.2.1 g w fu _ x1 0 (M (t + 1) 56) M h) mw_X11_in (by decide) tw_894 rfl rfl (Nat.le_of_ble_eq_true rfl) ⟨Nat.zero_le _, Nat.zero_le _⟩ dX11_runTokens_9 (fun r3 M2 h => ?_)
  obtain ⟨hzr3, h⟩ := h
  refine V_if_ne (tgt := 17) hC dX11_runTokens_12 (by decide) (fun b7 => ?_) (fun b7 => ?_)
  · replace h := h.2 b7
    refine V_aload_n hC rfl dX11_runTokens_17 ?_
    refine V_iconst (v := 0) hC (by decide) dX11_runTokens_18 ?_
    refine V_iconst (v := 1) hC (by decide) dX11_runTokens_19 ?_
    refine V_iload_n hC rfl dX11_runTokens_20 ?_
    refine V_calli (As := [.int 0, .int 1, .int x1]) hC (c_Md_run X.2.1 g w fu _ t 0 1 x1 M2 ht h) mw_X11_run (by decide) tw_1033 ht (by decide) rfl rfl rfl (Nat.le_of_ble_eq_true rfl) ⟨Nat.zero_le _, Nat.zero_le _⟩ dX11_runTokens_21 (fun r5 M4 h => ?_)
    refine V_iload_n hC rfl dX11_runTokens_24 ?_
    refine V_icmp_ge (tgt := 33) hC dX11_runTokens_25 (by decide) (fun b6 => ?_) (fun b6 => ?_)
    · replace h := h.1 b6
      refine V_iconst (v := 0) hC (by decide) dX11_runTokens_33 ?_
      exact V_iret hC h dX11_runTokens_34
    · replace h := h.2 b6
      refine V_bipush (v := (-2)) hC (by decide) dX11_runTokens_28 ?_
      refine V_goto (tgt := 34) hC (by decide) dX11_runTokens_30 ?_
      exact V_iret hC h dX11_runTokens_34
  · replace h := h.1 b7
    refine V_iconst (v := (-1)) hC (by decide) dX11_runTokens_15 ?_
    exact V_iret hC h dX11_runTokens_16
def f_Md_stateAfter (fu : Nat) (post : Int32 → Mm → Prop) (t : Nat) (x1 : Int32) (M : Mm) : Prop :=
  f_Md_runTokens fu (fun r2 M1 => ((0 ≤ r2) → post ((M1 t 12) / 16) M1) ∧ (¬ (0 ≤ r2) → post r2 M1)) t x1 M
set_option maxRecDepth 100000 in
theorem c_Md_stateAfter (l : Launch) (g : GX) (w : WX) (fu : Nat) (post : Int32 → Mm → Prop) (t : Nat) (x1 : Int32) (M : Mm) (ht : ok w t 11) (h : f_Md_stateAfter fu post t x1 M) : Met l yX11_stateAfter [Cond.code yX11_stateAfter cX11_stateAfter 3 (some .int)] (rmC 3 0 0) (va_Pc [ob g t, .int x1] (Wb g w M)) (va_Qi post (Wb g w) (Af g)) 0 0 (Af g) := by
  refine Ct_i (by decide) rfl (fun v hv => by simp only [List.mem_cons, List.not_mem_nil, or_false] at hv; rcases hv with rfl | rfl <;> rfl) (Nat.le_of_ble_eq_true rfl) (Nat.le_refl _) ?_
  intro X hX _ hC
  unfold f_Md_stateAfter at h
  refine V_sub (us := [some (ob g t), some (.int x1), none]) ⟨rfl, rfl, trivial⟩ ?_
  refine V_aload_n hC rfl dX11_stateAfter_0 ?_
  refine V_iload_n hC rfl dX11_stateAfter_1 ?_
  refine V_calli (As := [.int x1]) hC (c_Md_runTokens X.2.1 g w fu _ t x1 M ht h) mw_X11_runTokens (by decide) tw_1049 ht (by decide) rfl rfl rfl (Nat.le_of_ble_eq_true rfl) ⟨Nat.zero_le _, Nat.zero_le _⟩ dX11_stateAfter_2 (fun r2 M1 h => ?_)
  refine V_istore_n hC (by decide) dX11_stateAfter_5 ?_
  refine V_iload_n hC rfl dX11_stateAfter_6 ?_
  refine V_if_ge (tgt := 14) hC dX11_stateAfter_7 (by decide) (fun b3 => ?_) (fun b3 => ?_)
  · replace h := h.1 b3
    refine V_aload_n hC rfl dX11_stateAfter_14 ?_
    refine gf_11_12 hC ht tw_829 dX11_stateAfter_15 ?_
    refine V_bipush (v := 16) hC (by decide) dX11_stateAfter_18 ?_
    refine V_idiv hC (by decide) dX11_stateAfter_20 ?_
    exact V_iret hC h dX11_stateAfter_21
  · replace h := h.2 b3
    refine V_iload_n hC rfl dX11_stateAfter_10 ?_
    refine V_goto (tgt := 21) hC (by decide) dX11_stateAfter_11 ?_
    exact V_iret hC h dX11_stateAfter_21
def f_Md_depthAfter (fu : Nat) (post : Int32 → Mm → Prop) (t : Nat) (x1 : Int32) (M : Mm) : Prop :=
  f_Md_runTokens fu (fun r2 M1 => ((0 ≤ r2) → f_Md_depth fu (fun r4 M3 => post r4 M3) (M1 t 12) M1) ∧ (¬ (0 ≤ r2) → post r2 M1)) t x1 M
set_option maxRecDepth 100000 in
theorem c_Md_depthAfter (l : Launch) (g : GX) (w : WX) (fu : Nat) (post : Int32 → Mm → Prop) (t : Nat) (x1 : Int32) (M : Mm) (ht : ok w t 11) (h : f_Md_depthAfter fu post t x1 M) : Met l yX11_depthAfter [Cond.code yX11_depthAfter cX11_depthAfter 3 (some .int)] (rmC 3 0 0) (va_Pc [ob g t, .int x1] (Wb g w M)) (va_Qi post (Wb g w) (Af g)) 0 0 (Af g) := by
  refine Ct_i (by decide) rfl (fun v hv => by simp only [List.mem_cons, List.not_mem_nil, or_false] at hv; rcases hv with rfl | rfl <;> rfl) (Nat.le_of_ble_eq_true rfl) (Nat.le_refl _) ?_
  intro X hX _ hC
  unfold f_Md_depthAfter at h
  refine V_sub (us := [some (ob g t), some (.int x1), none]) ⟨rfl, rfl, trivial⟩ ?_
  refine V_aload_n hC rfl dX11_depthAfter_0 ?_
  refine V_iload_n hC rfl dX11_depthAfter_1 ?_
  refine V_calli (As := [.int x1]) hC (c_Md_runTokens X.2.1 g w fu _ t x1 M ht h) mw_X11_runTokens (by decide) tw_1049 ht (by decide) rfl rfl rfl (Nat.le_of_ble_eq_true rfl) ⟨Nat.zero_le _, Nat.zero_le _⟩ dX11_depthAfter_2 (fun r2 M1 h => ?_)
  refine V_istore_n hC (by decide) dX11_depthAfter_5 ?_
  refine V_iload_n hC rfl dX11_depthAfter_6 ?_
  refine V_if_ge (tgt := 14) hC dX11_depthAfter_7 (by decide) (fun b5 => ?_) (fun b5 => ?_)
  · replace h := h.1 b5
    refine V_aload_n hC rfl dX11_depthAfter_14 ?_
    refine gf_11_12 hC ht tw_829 dX11_depthAfter_15 ?_
    refine V_scalli (As := [.int (M1 t 12)]) hC (c_Md_depth X.2.1 g w fu _ (M1 t 12) M1 h) mw_X11_depth (by decide) tw_1057 rfl rfl (Nat.le_of_ble_eq_true rfl) ⟨Nat.zero_le _, Nat.zero_le _⟩ dX11_depthAfter_18 (fun r4 M3 h => ?_)
    exact V_iret hC h dX11_depthAfter_21
  · replace h := h.2 b5
    refine V_iload_n hC rfl dX11_depthAfter_10 ?_
    refine V_goto (tgt := 21) hC (by decide) dX11_depthAfter_11 ?_
    exact V_iret hC h dX11_depthAfter_21
def f_Md_expectedKinds_46 (fu : Nat) (post : Int32 → Mm → Prop) (K18 : Nat → Int32 → Int32 → Mm → Prop) (t : Nat) (x2 : Int32) (kx0 : Int32) (kx1 : Int32) (M : Mm) : Prop :=
  ∀ y1, y1 = (kx0 ||| kx1) → ∀ y2, y2 = x2 + 1 → K18 t y1 y2 M
def f_Md_expectedKinds_18 (fu : Nat) (post : Int32 → Mm → Prop) : Nat → Nat → Int32 → Int32 → Mm → Prop
  | 0, _, _, _, _ => False
  | kf + 1, t, x1, x2, M =>
    ((6 ≤ x2) → post x1 M) ∧ (¬ (6 ≤ x2) → f_Md_consume fu (fun r2 M1 => ((r2 = (-9)) → f_Md_expectedKinds_46 fu post (f_Md_expectedKinds_18 fu post kf) t x2 x1 0 M1) ∧ (¬ (r2 = (-9)) → f_Md_expectedKinds_46 fu post (f_Md_expectedKinds_18 fu post kf) t x2 x1 (1 <<< (x2 &&& 31)) M1)) t (M t 12) x2 M)
def f_Md_expectedKinds (fu : Nat) (post : Int32 → Mm → Prop) (t : Nat) (M : Mm) : Prop :=
  f_Md_findError fu (fun r2 M1 => ((r2 = (-9)) → post (-2) M1) ∧ (¬ (r2 = (-9)) → f_Md_expectedKinds_18 fu post fu t 0 0 M1)) t 0 1 M
set_option maxRecDepth 100000 in
theorem j_Md_expectedKinds_46 {l : Launch} {X : CX} {g : GX} {w : WX} {fu : Nat} {post : Int32 → Mm → Prop} (hX : X.2.1 = l) (hC : Cx X g cX11_expectedKinds 3 RX11 (some .int) 3) {K18 : Nat → Int32 → Int32 → Mm → Prop} (hK18 : ∀ (t : Nat) (x1 : Int32) (x2 : Int32) (M : Mm), ok w t 11 → K18 t x1 x2 M → V X g w 3 0 0 (QI X g w post 0 0) 18 [some (ob g t), some (.int x1), some (.int x2)] [] M) (t : Nat) (x2 : Int32) (kx0 : Int32) (kx1 : Int32) {M : Mm} (ht : ok w t 11) (h : f_Md_expectedKinds_46 fu post K18 t x2 kx0 kx1 M) : V X g w 3 0 0 (QI X g w post 0 0) 46 [some (ob g t), none, some (.int x2)] [.int kx1, .int kx0] M := by
  unfold f_Md_expectedKinds_46 at h
  refine V_ior hC dX11_expectedKinds_46 ?_
  refine V_topi (fun y1 ey1 => ?_)
  replace h := h y1 ey1
  refine V_istore_n hC (by decide) dX11_expectedKinds_47 ?_
  obtain ⟨y2, ey2⟩ : ∃ z, z = x2 + 1 := ⟨_, rfl⟩
  replace h := h y2 ey2
  refine V_iinc (v := y2) hC rfl (by rw [ey2]; rfl) (by decide) dX11_expectedKinds_48 ?_
  refine V_goto (tgt := 18) hC (by decide) dX11_expectedKinds_51 ?_
  refine V_sub (us := [some (ob g t), some (.int y1), some (.int y2)]) ⟨rfl, rfl, rfl, trivial⟩ ?_
  exact hK18 t y1 y2 M ht h
set_option maxRecDepth 100000 in
theorem l_Md_expectedKinds_18 {l : Launch} {X : CX} {g : GX} {w : WX} {fu : Nat} {post : Int32 → Mm → Prop} (hX : X.2.1 = l) (hC : Cx X g cX11_expectedKinds 3 RX11 (some .int) 3) : ∀ (kf : Nat) (t : Nat) (x1 : Int32) (x2 : Int32) (M : Mm) (ht : ok w t 11) (h : f_Md_expectedKinds_18 fu post kf t x1 x2 M), V X g w 3 0 0 (QI X g w post 0 0) 18 [some (ob g t), some (.int x1), some (.int x2)] [] M := by
  intro kf
  induction kf with
  | zero => intro t x1 x2 M ht h; exact absurd h id
  | succ kf ih =>
    intro t x1 x2 M ht h
    rw [f_Md_expectedKinds_18] at h
    refine V_iload_n hC rfl dX11_expectedKinds_18 ?_
    refine V_bipush (v := 6) hC (by decide) dX11_expectedKinds_19 ?_
    refine V_icmp_ge (tgt := 54) hC dX11_expectedKinds_21 (by decide) (fun b4 => ?_) (fun b4 => ?_)
    · replace h := h.1 b4
      refine V_iload_n hC rfl dX11_expectedKinds_54 ?_
      exact V_iret hC h dX11_expectedKinds_55
    · replace h := h.2 b4
      refine V_iload_n hC rfl dX11_expectedKinds_24 ?_
      refine V_aload_n hC rfl dX11_expectedKinds_25 ?_
      refine V_aload_n hC rfl dX11_expectedKinds_26 ?_
      refine gf_11_12 hC ht tw_829 dX11_expectedKinds_27 ?_
      refine V_iload_n hC rfl dX11_expectedKinds_30 ?_
      refine V_calli (As := [.int (M t 12), .int x2]) hC (c_Md_consume X.2.1 g w fu _ t (M t 12) x2 M ht h) mw_X11_consume (by decide) tw_1037 ht (by decide) rfl rfl rfl (Nat.le_of_ble_eq_true rfl) ⟨Nat.zero_le _, Nat.zero_le _⟩ dX11_expectedKinds_31 (fun r2 M1 h => ?_)
      refine V_bipush (v := (-9)) hC (by decide) dX11_expectedKinds_34 ?_
      refine V_icmp_ne (tgt := 43) hC dX11_expectedKinds_36 (by decide) (fun b3 => ?_) (fun b3 => ?_)
      · replace h := h.2 b3
        refine V_iconst (v := 1) hC (by decide) dX11_expectedKinds_43 ?_
        refine V_iload_n hC rfl dX11_expectedKinds_44 ?_
        refine V_ishl hC dX11_expectedKinds_45 ?_
        refine V_sub (us := [some (ob g t), none, some (.int x2)]) ⟨rfl, rfl, trivial⟩ ?_
        exact j_Md_expectedKinds_46 hX hC ih t x2 x1 (1 <<< (x2 &&& 31)) ht h
      · replace h := h.1 b3
        refine V_iconst (v := 0) hC (by decide) dX11_expectedKinds_39 ?_
        refine V_goto (tgt := 46) hC (by decide) dX11_expectedKinds_40 ?_
        refine V_sub (us := [some (ob g t), none, some (.int x2)]) ⟨rfl, rfl, trivial⟩ ?_
        exact j_Md_expectedKinds_46 hX hC ih t x2 x1 0 ht h
set_option maxRecDepth 100000 in
theorem c_Md_expectedKinds (l : Launch) (g : GX) (w : WX) (fu : Nat) (post : Int32 → Mm → Prop) (t : Nat) (M : Mm) (ht : ok w t 11) (h : f_Md_expectedKinds fu post t M) : Met l yX11_expectedKinds [Cond.code yX11_expectedKinds cX11_expectedKinds 3 (some .int)] (rmC 3 0 0) (va_Pc [ob g t] (Wb g w M)) (va_Qi post (Wb g w) (Af g)) 0 0 (Af g) := by
  refine Ct_i (by decide) rfl (fun v hv => by simp only [List.mem_cons, List.not_mem_nil, or_false] at hv; rcases hv with rfl <;> rfl) (Nat.le_of_ble_eq_true rfl) (Nat.le_refl _) ?_
  intro X hX _ hC
  unfold f_Md_expectedKinds at h
  refine V_sub (us := [some (ob g t), none, none]) ⟨rfl, trivial⟩ ?_
  refine V_aload_n hC rfl dX11_expectedKinds_0 ?_
  refine V_iconst (v := 0) hC (by decide) dX11_expectedKinds_1 ?_
  refine V_iconst (v := 1) hC (by decide) dX11_expectedKinds_2 ?_
  refine V_calli (As := [.int 0, .int 1]) hC (c_Md_findError X.2.1 g w fu _ t 0 1 M ht h) mw_X11_findError (by decide) tw_1029 ht (by decide) rfl rfl rfl (Nat.le_of_ble_eq_true rfl) ⟨Nat.zero_le _, Nat.zero_le _⟩ dX11_expectedKinds_3 (fun r2 M1 h => ?_)
  refine V_bipush (v := (-9)) hC (by decide) dX11_expectedKinds_6 ?_
  refine V_icmp_ne (tgt := 14) hC dX11_expectedKinds_8 (by decide) (fun b3 => ?_) (fun b3 => ?_)
  · replace h := h.2 b3
    refine V_iconst (v := 0) hC (by decide) dX11_expectedKinds_14 ?_
    refine V_istore_n hC (by decide) dX11_expectedKinds_15 ?_
    refine V_iconst (v := 0) hC (by decide) dX11_expectedKinds_16 ?_
    refine V_istore_n hC (by decide) dX11_expectedKinds_17 ?_
    refine V_sub (us := [some (ob g t), some (.int 0), some (.int 0)]) ⟨rfl, rfl, rfl, trivial⟩ ?_
    exact l_Md_expectedKinds_18 hX hC fu t 0 0 M1 ht h
  · replace h := h.1 b3
    refine V_bipush (v := (-2)) hC (by decide) dX11_expectedKinds_11 ?_
    exact V_iret hC h dX11_expectedKinds_13
def f_Md_offer (fu : Nat) (post : Mm → Prop) (t : Nat) (x1 : Int32) (M : Mm) : Prop :=
  (((M t 16) ≤ x1) → ((x1 ≤ (M t 16)) → post M) ∧ (¬ (x1 ≤ (M t 16)) → (((M t 17) ≤ x1) → post M) ∧ (¬ ((M t 17) ≤ x1) → ∀ M1, M1 = up M t 17 x1 → post M1))) ∧ (¬ ((M t 16) ≤ x1) → ∀ M4, M4 = up M t 17 (M t 16) → ∀ M5, M5 = up M4 t 16 x1 → post M5)
set_option maxRecDepth 100000 in
theorem c_Md_offer (l : Launch) (g : GX) (w : WX) (fu : Nat) (post : Mm → Prop) (t : Nat) (x1 : Int32) (M : Mm) (ht : ok w t 11) (h : f_Md_offer fu post t x1 M) : Met l yX11_offer [Cond.code yX11_offer cX11_offer 2 (none)] (rmC 0 0 0) (va_Pc [ob g t, .int x1] (Wb g w M)) (va_Qv post (Wb g w) (Af g)) 0 0 (Af g) := by
  refine Ct_v (by decide) rfl (fun v hv => by simp only [List.mem_cons, List.not_mem_nil, or_false] at hv; rcases hv with rfl | rfl <;> rfl) (Nat.le_of_ble_eq_true rfl) (Nat.le_refl _) ?_
  intro X hX _ hC
  unfold f_Md_offer at h
  refine V_sub (us := [some (ob g t), some (.int x1)]) ⟨rfl, rfl, trivial⟩ ?_
  refine V_iload_n hC rfl dX11_offer_0 ?_
  refine V_aload_n hC rfl dX11_offer_1 ?_
  refine gf_11_16 hC ht tw_833 dX11_offer_2 ?_
  refine V_icmp_ge (tgt := 24) hC dX11_offer_5 (by decide) (fun b6 => ?_) (fun b6 => ?_)
  · replace h := h.1 b6
    refine V_iload_n hC rfl dX11_offer_24 ?_
    refine V_aload_n hC rfl dX11_offer_25 ?_
    refine gf_11_16 hC ht tw_833 dX11_offer_26 ?_
    refine V_icmp_le (tgt := 45) hC dX11_offer_29 (by decide) (fun b3 => ?_) (fun b3 => ?_)
    · replace h := h.1 b3
      exact V_vret hC h dX11_offer_45
    · replace h := h.2 b3
      refine V_iload_n hC rfl dX11_offer_32 ?_
      refine V_aload_n hC rfl dX11_offer_33 ?_
      refine gf_11_17 hC ht tw_834 dX11_offer_34 ?_
      refine V_icmp_ge (tgt := 45) hC dX11_offer_37 (by decide) (fun b2 => ?_) (fun b2 => ?_)
      · replace h := h.1 b2
        exact V_vret hC h dX11_offer_45
      · replace h := h.2 b2
        refine V_aload_n hC rfl dX11_offer_40 ?_
        refine V_iload_n hC rfl dX11_offer_41 ?_
        refine pf_11_17 hC ht tw_834 dX11_offer_42 ?_
        obtain ⟨M1, eM1⟩ : ∃ z, z = up M t 17 x1 := ⟨_, rfl⟩
        replace h := h M1 eM1
        refine V_mem eM1 ?_
        exact V_vret hC h dX11_offer_45
  · replace h := h.2 b6
    refine V_aload_n hC rfl dX11_offer_8 ?_
    refine V_aload_n hC rfl dX11_offer_9 ?_
    refine gf_11_16 hC ht tw_833 dX11_offer_10 ?_
    refine pf_11_17 hC ht tw_834 dX11_offer_13 ?_
    obtain ⟨M4, eM4⟩ : ∃ z, z = up M t 17 (M t 16) := ⟨_, rfl⟩
    replace h := h M4 eM4
    refine V_mem eM4 ?_
    refine V_aload_n hC rfl dX11_offer_16 ?_
    refine V_iload_n hC rfl dX11_offer_17 ?_
    refine pf_11_16 hC ht tw_833 dX11_offer_18 ?_
    obtain ⟨M5, eM5⟩ : ∃ z, z = up M4 t 16 x1 := ⟨_, rfl⟩
    replace h := h M5 eM5
    refine V_mem eM5 ?_
    refine V_goto (tgt := 45) hC (by decide) dX11_offer_21 ?_
    exact V_vret hC h dX11_offer_45
def f_Md_offerNode (fu : Nat) (post : Mm → Prop) (t : Nat) (x1 : Int32) (x2 : Int32) (M : Mm) : Prop :=
  vp_in x1 (ln (t + 5)) ∧ f_Md_offer fu (fun M2 => vp_in x1 (ln (t + 6)) ∧ f_Md_offer fu (fun M4 => post M4) t ((M2 (t + 6) x1.toNatClampNeg) + x2) M2) t ((M (t + 5) x1.toNatClampNeg) + x2) M
set_option maxRecDepth 100000 in
theorem c_Md_offerNode (l : Launch) (g : GX) (w : WX) (fu : Nat) (post : Mm → Prop) (t : Nat) (x1 : Int32) (x2 : Int32) (M : Mm) (ht : ok w t 11) (h : f_Md_offerNode fu post t x1 x2 M) : Met l yX11_offerNode [Cond.code yX11_offerNode cX11_offerNode 3 (none)] (rmC 1 0 0) (va_Pc [ob g t, .int x1, .int x2] (Wb g w M)) (va_Qv post (Wb g w) (Af g)) 0 0 (Af g) := by
  refine Ct_v (by decide) rfl (fun v hv => by simp only [List.mem_cons, List.not_mem_nil, or_false] at hv; rcases hv with rfl | rfl | rfl <;> rfl) (Nat.le_of_ble_eq_true rfl) (Nat.le_refl _) ?_
  intro X hX _ hC
  unfold f_Md_offerNode at h
  refine V_sub (us := [some (ob g t), some (.int x1), some (.int x2)]) ⟨rfl, rfl, rfl, trivial⟩ ?_
  refine V_aload_n hC rfl dX11_offerNode_0 ?_
  refine V_aload_n hC rfl dX11_offerNode_1 ?_
  refine gf_11_13 hC ht tw_830 dX11_offerNode_2 ?_
  refine V_iload_n hC rfl dX11_offerNode_5 ?_
  obtain ⟨q1, h⟩ := h
  refine V_iald hC (ok_11_13 ht) q1 dX11_offerNode_6 ?_
  refine V_iload_n hC rfl dX11_offerNode_7 ?_
  refine V_iadd hC dX11_offerNode_8 ?_
  refine V_callv (As := [.int ((M (t + 5) x1.toNatClampNeg) + x2)]) hC (c_Md_offer X.2.1 g w fu _ t ((M (t + 5) x1.toNatClampNeg) + x2) M ht h) mw_X11_offer (by decide) tw_1080 ht (by decide) rfl rfl rfl (Nat.le_of_ble_eq_true rfl) ⟨Nat.zero_le _, Nat.zero_le _⟩ dX11_offerNode_9 (fun M2 h => ?_)
  refine V_aload_n hC rfl dX11_offerNode_12 ?_
  refine V_aload_n hC rfl dX11_offerNode_13 ?_
  refine gf_11_14 hC ht tw_831 dX11_offerNode_14 ?_
  refine V_iload_n hC rfl dX11_offerNode_17 ?_
  obtain ⟨q3, h⟩ := h
  refine V_iald hC (ok_11_14 ht) q3 dX11_offerNode_18 ?_
  refine V_iload_n hC rfl dX11_offerNode_19 ?_
  refine V_iadd hC dX11_offerNode_20 ?_
  refine V_callv (As := [.int ((M2 (t + 6) x1.toNatClampNeg) + x2)]) hC (c_Md_offer X.2.1 g w fu _ t ((M2 (t + 6) x1.toNatClampNeg) + x2) M2 ht h) mw_X11_offer (by decide) tw_1080 ht (by decide) rfl rfl rfl (Nat.le_of_ble_eq_true rfl) ⟨Nat.zero_le _, Nat.zero_le _⟩ dX11_offerNode_21 (fun M4 h => ?_)
  exact V_vret hC h dX11_offerNode_24
def f_Md_edge_219 (fu : Nat) (post : Int32 → Mm → Prop) (x9 : Int32) (kx0 : Int32) (kx1 : Int32) (M : Mm) : Prop :=
  post ((kx0 * kx1) + x9) M
def f_Md_edge_200 (fu : Nat) (post : Int32 → Mm → Prop) (x4 : Int32) (x6 : Int32) (x9 : Int32) (ka0 : Nat) (kx1 : Int32) (M : Mm) : Prop :=
  ∀ M1, M1 = up M ka0 18 kx1 → ((x6 = 0) → f_Md_edge_219 fu post x9 96 x4 M1) ∧ (¬ (x6 = 0) → f_Md_edge_219 fu post x9 96 (x4 + 1) M1)
def f_Md_edge_153 (fu : Nat) (post : Int32 → Mm → Prop) (t : Nat) (x2 : Int32) (x3 : Int32) (x4 : Int32) (x6 : Int32) (kx0 : Int32) (M : Mm) : Prop :=
  ((kx0 = (-9)) → post (-9) M) ∧ (¬ (kx0 = (-9)) → ((x2 = 3) → vp_in (38 + x3) (ln (t + 1)) ∧ f_Md_edge_200 fu post x4 x6 kx0 t (M (t + 1) (38 + x3).toNatClampNeg) M) ∧ (¬ (x2 = 3) → ((x2 = 0) → f_Md_edge_200 fu post x4 x6 kx0 t 0 M) ∧ (¬ (x2 = 0) → vp_in (50 + x3) (ln (t + 1)) ∧ f_Md_edge_200 fu post x4 x6 kx0 t (M (t + 1) (50 + x3).toNatClampNeg) M)))
def f_Md_edge_134 (fu : Nat) (post : Int32 → Mm → Prop) (t : Nat) (x2 : Int32) (x3 : Int32) (x4 : Int32) (x5 : Int32) (x6 : Int32) (kx0 : Int32) (M : Mm) : Prop :=
  ((kx0 = 0) → f_Md_edge_153 fu post t x2 x3 x4 x6 (-9) M) ∧ (¬ (kx0 = 0) → f_Md_consume fu (fun r2 M1 => f_Md_edge_153 fu post t x2 x3 x4 x6 r2 M1) t x5 x3 M)
def f_Md_edge_129 (fu : Nat) (post : Int32 → Mm → Prop) (t : Nat) (x2 : Int32) (x3 : Int32) (x4 : Int32) (x5 : Int32) (x6 : Int32) (M : Mm) : Prop :=
  f_Md_edge_134 fu post t x2 x3 x4 x5 x6 1 M
def f_Md_edge_126 (fu : Nat) (post : Int32 → Mm → Prop) (t : Nat) (x2 : Int32) (x3 : Int32) (x4 : Int32) (x5 : Int32) (x6 : Int32) (kx0 : Int32) (kx1 : Int32) (M : Mm) : Prop :=
  ((kx0 = kx1) → f_Md_edge_129 fu post t x2 x3 x4 x5 x6 M) ∧ (¬ (kx0 = kx1) → f_Md_edge_134 fu post t x2 x3 x4 x5 x6 0 M)
def f_Md_edge_115 (fu : Nat) (post : Int32 → Mm → Prop) (t : Nat) (x2 : Int32) (x3 : Int32) (x4 : Int32) (x5 : Int32) (x6 : Int32) (x7 : Int32) (kx0 : Int32) (M : Mm) : Prop :=
  ((x3 = x7) → f_Md_edge_126 fu post t x2 x3 x4 x5 x6 kx0 1 M) ∧ (¬ (x3 = x7) → f_Md_edge_126 fu post t x2 x3 x4 x5 x6 kx0 0 M)
def f_Md_edge_64 (fu : Nat) (post : Int32 → Mm → Prop) (t : Nat) (x1 : Int32) (x2 : Int32) (x3 : Int32) (x4 : Int32) (x5 : Int32) (x6 : Int32) (kx0 : Int32) (M : Mm) : Prop :=
  ((x2 = 2) → vp_in (44 + kx0) (ln (t + 1)) ∧ ∀ M4, M4 = up M t 18 (M (t + 1) (44 + kx0).toNatClampNeg) → ((x3 = kx0) → post (x1 + 96) M4) ∧ (¬ (x3 = kx0) → post (-9) M4)) ∧ (¬ (x2 = 2) → ((x2 = 3) → f_Md_edge_129 fu post t x2 x3 x4 x5 x6 M) ∧ (¬ (x2 = 3) → ((x2 = 0) → f_Md_edge_115 fu post t x2 x3 x4 x5 x6 kx0 1 M) ∧ (¬ (x2 = 0) → f_Md_edge_115 fu post t x2 x3 x4 x5 x6 kx0 0 M)))
def f_Md_edge_44 (fu : Nat) (post : Int32 → Mm → Prop) (t : Nat) (x1 : Int32) (x2 : Int32) (x3 : Int32) (x4 : Int32) (x5 : Int32) (x6 : Int32) (M : Mm) : Prop :=
  ((x6 = 0) → f_Md_edge_64 fu post t x1 x2 x3 x4 x5 x6 (-9) M) ∧ (¬ (x6 = 0) → vp_in (57 + x4) (ln (t + 1)) ∧ f_Md_edge_64 fu post t x1 x2 x3 x4 x5 x6 (M (t + 1) (57 + x4).toNatClampNeg) M)
def f_Md_edge_22 (fu : Nat) (post : Int32 → Mm → Prop) (t : Nat) (x1 : Int32) (x2 : Int32) (x3 : Int32) (x4 : Int32) (x5 : Int32) (kx0 : Int32) (M : Mm) : Prop :=
  ((kx0 = 0) → f_Md_edge_44 fu post t x1 x2 x3 x4 x5 kx0 M) ∧ (¬ (kx0 = 0) → vp_in 56 (ln (t + 1)) ∧ ((x4 = (M (t + 1) 56)) → post (-9) M) ∧ (¬ (x4 = (M (t + 1) 56)) → f_Md_edge_44 fu post t x1 x2 x3 x4 x5 kx0 M))
def f_Md_edge (fu : Nat) (post : Int32 → Mm → Prop) (t : Nat) (x1 : Int32) (x2 : Int32) (x3 : Int32) (M : Mm) : Prop :=
  ∀ y1, y1 = (x1 / 96) → ∀ y2, y2 = (x1 - x1 / 96 * 96) → ((x2 = 3) → f_Md_edge_22 fu post t x1 x2 x3 y1 y2 0 M) ∧ (¬ (x2 = 3) → f_Md_edge_22 fu post t x1 x2 x3 y1 y2 1 M)
set_option maxRecDepth 100000 in
theorem j_Md_edge_219 {l : Launch} {X : CX} {g : GX} {w : WX} {fu : Nat} {post : Int32 → Mm → Prop} (hX : X.2.1 = l) (hC : Cx X g cX11_edge 10 RX11 (some .int) 1) (x9 : Int32) (kx0 : Int32) (kx1 : Int32) {M : Mm} (h : f_Md_edge_219 fu post x9 kx0 kx1 M) : V X g w 10 0 0 (QI X g w post 0 0) 219 [none, none, none, none, none, none, none, none, none, some (.int x9)] [.int kx1, .int kx0] M := by
  unfold f_Md_edge_219 at h
  refine V_imul hC dX11_edge_219 ?_
  refine V_iload hC rfl dX11_edge_220 ?_
  refine V_iadd hC dX11_edge_222 ?_
  exact V_iret hC h dX11_edge_223
set_option maxRecDepth 100000 in
theorem j_Md_edge_200 {l : Launch} {X : CX} {g : GX} {w : WX} {fu : Nat} {post : Int32 → Mm → Prop} (hX : X.2.1 = l) (hC : Cx X g cX11_edge 10 RX11 (some .int) 1) (x4 : Int32) (x6 : Int32) (x9 : Int32) (ka0 : Nat) (kx1 : Int32) {M : Mm} (hka0 : ok w ka0 11) (h : f_Md_edge_200 fu post x4 x6 x9 ka0 kx1 M) : V X g w 10 0 0 (QI X g w post 0 0) 200 [none, none, none, none, some (.int x4), none, some (.int x6), none, none, some (.int x9)] [.int kx1, ob g ka0] M := by
  unfold f_Md_edge_200 at h
  refine pf_11_18 hC hka0 tw_835 dX11_edge_200 ?_
  obtain ⟨M1, eM1⟩ : ∃ z, z = up M ka0 18 kx1 := ⟨_, rfl⟩
  replace h := h M1 eM1
  refine V_mem eM1 ?_
  refine V_bipush (v := 96) hC (by decide) dX11_edge_203 ?_
  refine V_iload hC rfl dX11_edge_205 ?_
  refine V_if_eq (tgt := 217) hC dX11_edge_207 (by decide) (fun b2 => ?_) (fun b2 => ?_)
  · replace h := h.1 b2
    refine V_iload hC rfl dX11_edge_217 ?_
    refine V_sub (us := [none, none, none, none, none, none, none, none, none, some (.int x9)]) ⟨rfl, trivial⟩ ?_
    exact j_Md_edge_219 hX hC x9 96 x4 h
  · replace h := h.2 b2
    refine V_iload hC rfl dX11_edge_210 ?_
    refine V_iconst (v := 1) hC (by decide) dX11_edge_212 ?_
    refine V_iadd hC dX11_edge_213 ?_
    refine V_goto (tgt := 219) hC (by decide) dX11_edge_214 ?_
    refine V_sub (us := [none, none, none, none, none, none, none, none, none, some (.int x9)]) ⟨rfl, trivial⟩ ?_
    exact j_Md_edge_219 hX hC x9 96 (x4 + 1) h
set_option maxRecDepth 100000 in
theorem j_Md_edge_153 {l : Launch} {X : CX} {g : GX} {w : WX} {fu : Nat} {post : Int32 → Mm → Prop} (hX : X.2.1 = l) (hC : Cx X g cX11_edge 10 RX11 (some .int) 1) (t : Nat) (x2 : Int32) (x3 : Int32) (x4 : Int32) (x6 : Int32) (kx0 : Int32) {M : Mm} (ht : ok w t 11) (h : f_Md_edge_153 fu post t x2 x3 x4 x6 kx0 M) : V X g w 10 0 0 (QI X g w post 0 0) 153 [some (ob g t), none, some (.int x2), some (.int x3), some (.int x4), none, some (.int x6), none, none, none] [.int kx0] M := by
  unfold f_Md_edge_153 at h
  refine V_istore hC (by decide) dX11_edge_153 ?_
  refine V_iload hC rfl dX11_edge_155 ?_
  refine V_bipush (v := (-9)) hC (by decide) dX11_edge_157 ?_
  refine V_icmp_ne (tgt := 165) hC dX11_edge_159 (by decide) (fun b5 => ?_) (fun b5 => ?_)
  · replace h := h.2 b5
    refine V_aload_n hC rfl dX11_edge_165 ?_
    refine V_iload_n hC rfl dX11_edge_166 ?_
    refine V_iconst (v := 3) hC (by decide) dX11_edge_167 ?_
    refine V_icmp_ne (tgt := 183) hC dX11_edge_168 (by decide) (fun b4 => ?_) (fun b4 => ?_)
    · replace h := h.2 b4
      refine V_iload_n hC rfl dX11_edge_183 ?_
      refine V_if_ne (tgt := 191) hC dX11_edge_184 (by decide) (fun b2 => ?_) (fun b2 => ?_)
      · replace h := h.2 b2
        refine V_aload_n hC rfl dX11_edge_191 ?_
        refine gf_11_0 hC ht tw_817 dX11_edge_192 ?_
        refine V_bipush (v := 50) hC (by decide) dX11_edge_195 ?_
        refine V_iload_n hC rfl dX11_edge_197 ?_
        refine V_iadd hC dX11_edge_198 ?_
        obtain ⟨q1, h⟩ := h
        refine V_iald hC (ok_11_0 ht) q1 dX11_edge_199 ?_
        refine V_sub (us := [none, none, none, none, some (.int x4), none, some (.int x6), none, none, some (.int kx0)]) ⟨rfl, rfl, rfl, trivial⟩ ?_
        exact j_Md_edge_200 hX hC x4 x6 kx0 t (M (t + 1) (50 + x3).toNatClampNeg) ht h
      · replace h := h.1 b2
        refine V_iconst (v := 0) hC (by decide) dX11_edge_187 ?_
        refine V_goto (tgt := 200) hC (by decide) dX11_edge_188 ?_
        refine V_sub (us := [none, none, none, none, some (.int x4), none, some (.int x6), none, none, some (.int kx0)]) ⟨rfl, rfl, rfl, trivial⟩ ?_
        exact j_Md_edge_200 hX hC x4 x6 kx0 t 0 ht h
    · replace h := h.1 b4
      refine V_aload_n hC rfl dX11_edge_171 ?_
      refine gf_11_0 hC ht tw_817 dX11_edge_172 ?_
      refine V_bipush (v := 38) hC (by decide) dX11_edge_175 ?_
      refine V_iload_n hC rfl dX11_edge_177 ?_
      refine V_iadd hC dX11_edge_178 ?_
      obtain ⟨q3, h⟩ := h
      refine V_iald hC (ok_11_0 ht) q3 dX11_edge_179 ?_
      refine V_goto (tgt := 200) hC (by decide) dX11_edge_180 ?_
      refine V_sub (us := [none, none, none, none, some (.int x4), none, some (.int x6), none, none, some (.int kx0)]) ⟨rfl, rfl, rfl, trivial⟩ ?_
      exact j_Md_edge_200 hX hC x4 x6 kx0 t (M (t + 1) (38 + x3).toNatClampNeg) ht h
  · replace h := h.1 b5
    refine V_bipush (v := (-9)) hC (by decide) dX11_edge_162 ?_
    exact V_iret hC h dX11_edge_164
set_option maxRecDepth 100000 in
theorem j_Md_edge_134 {l : Launch} {X : CX} {g : GX} {w : WX} {fu : Nat} {post : Int32 → Mm → Prop} (hX : X.2.1 = l) (hC : Cx X g cX11_edge 10 RX11 (some .int) 1) (t : Nat) (x2 : Int32) (x3 : Int32) (x4 : Int32) (x5 : Int32) (x6 : Int32) (kx0 : Int32) {M : Mm} (ht : ok w t 11) (h : f_Md_edge_134 fu post t x2 x3 x4 x5 x6 kx0 M) : V X g w 10 0 0 (QI X g w post 0 0) 134 [some (ob g t), none, some (.int x2), some (.int x3), some (.int x4), some (.int x5), some (.int x6), none, none, none] [.int kx0] M := by
  unfold f_Md_edge_134 at h
  refine V_istore hC (by decide) dX11_edge_134 ?_
  refine V_iload hC rfl dX11_edge_136 ?_
  refine V_if_eq (tgt := 151) hC dX11_edge_138 (by decide) (fun b3 => ?_) (fun b3 => ?_)
  · replace h := h.1 b3
    refine V_bipush (v := (-9)) hC (by decide) dX11_edge_151 ?_
    refine V_sub (us := [some (ob g t), none, some (.int x2), some (.int x3), some (.int x4), none, some (.int x6), none, none, none]) ⟨rfl, rfl, rfl, rfl, rfl, trivial⟩ ?_
    exact j_Md_edge_153 hX hC t x2 x3 x4 x6 (-9) ht h
  · replace h := h.2 b3
    refine V_aload_n hC rfl dX11_edge_141 ?_
    refine V_iload hC rfl dX11_edge_142 ?_
    refine V_iload_n hC rfl dX11_edge_144 ?_
    refine V_calli (As := [.int x5, .int x3]) hC (c_Md_consume X.2.1 g w fu _ t x5 x3 M ht h) mw_X11_consume (by decide) tw_1037 ht (by decide) rfl rfl rfl (Nat.le_of_ble_eq_true rfl) ⟨Nat.zero_le _, Nat.zero_le _⟩ dX11_edge_145 (fun r2 M1 h => ?_)
    refine V_goto (tgt := 153) hC (by decide) dX11_edge_148 ?_
    refine V_sub (us := [some (ob g t), none, some (.int x2), some (.int x3), some (.int x4), none, some (.int x6), none, none, none]) ⟨rfl, rfl, rfl, rfl, rfl, trivial⟩ ?_
    exact j_Md_edge_153 hX hC t x2 x3 x4 x6 r2 ht h
set_option maxRecDepth 100000 in
theorem j_Md_edge_129 {l : Launch} {X : CX} {g : GX} {w : WX} {fu : Nat} {post : Int32 → Mm → Prop} (hX : X.2.1 = l) (hC : Cx X g cX11_edge 10 RX11 (some .int) 1) (t : Nat) (x2 : Int32) (x3 : Int32) (x4 : Int32) (x5 : Int32) (x6 : Int32) {M : Mm} (ht : ok w t 11) (h : f_Md_edge_129 fu post t x2 x3 x4 x5 x6 M) : V X g w 10 0 0 (QI X g w post 0 0) 129 [some (ob g t), none, some (.int x2), some (.int x3), some (.int x4), some (.int x5), some (.int x6), none, none, none] [] M := by
  unfold f_Md_edge_129 at h
  refine V_iconst (v := 1) hC (by decide) dX11_edge_129 ?_
  refine V_goto (tgt := 134) hC (by decide) dX11_edge_130 ?_
  refine V_sub (us := [some (ob g t), none, some (.int x2), some (.int x3), some (.int x4), some (.int x5), some (.int x6), none, none, none]) ⟨rfl, rfl, rfl, rfl, rfl, rfl, trivial⟩ ?_
  exact j_Md_edge_134 hX hC t x2 x3 x4 x5 x6 1 ht h
set_option maxRecDepth 100000 in
theorem j_Md_edge_126 {l : Launch} {X : CX} {g : GX} {w : WX} {fu : Nat} {post : Int32 → Mm → Prop} (hX : X.2.1 = l) (hC : Cx X g cX11_edge 10 RX11 (some .int) 1) (t : Nat) (x2 : Int32) (x3 : Int32) (x4 : Int32) (x5 : Int32) (x6 : Int32) (kx0 : Int32) (kx1 : Int32) {M : Mm} (ht : ok w t 11) (h : f_Md_edge_126 fu post t x2 x3 x4 x5 x6 kx0 kx1 M) : V X g w 10 0 0 (QI X g w post 0 0) 126 [some (ob g t), none, some (.int x2), some (.int x3), some (.int x4), some (.int x5), some (.int x6), none, none, none] [.int kx1, .int kx0] M := by
  unfold f_Md_edge_126 at h
  refine V_icmp_ne (tgt := 133) hC dX11_edge_126 (by decide) (fun b1 => ?_) (fun b1 => ?_)
  · replace h := h.2 b1
    refine V_iconst (v := 0) hC (by decide) dX11_edge_133 ?_
    refine V_sub (us := [some (ob g t), none, some (.int x2), some (.int x3), some (.int x4), some (.int x5), some (.int x6), none, none, none]) ⟨rfl, rfl, rfl, rfl, rfl, rfl, trivial⟩ ?_
    exact j_Md_edge_134 hX hC t x2 x3 x4 x5 x6 0 ht h
  · replace h := h.1 b1
    refine V_sub (us := [some (ob g t), none, some (.int x2), some (.int x3), some (.int x4), some (.int x5), some (.int x6), none, none, none]) ⟨rfl, rfl, rfl, rfl, rfl, rfl, trivial⟩ ?_
    exact j_Md_edge_129 hX hC t x2 x3 x4 x5 x6 ht h
set_option maxRecDepth 100000 in
theorem j_Md_edge_115 {l : Launch} {X : CX} {g : GX} {w : WX} {fu : Nat} {post : Int32 → Mm → Prop} (hX : X.2.1 = l) (hC : Cx X g cX11_edge 10 RX11 (some .int) 1) (t : Nat) (x2 : Int32) (x3 : Int32) (x4 : Int32) (x5 : Int32) (x6 : Int32) (x7 : Int32) (kx0 : Int32) {M : Mm} (ht : ok w t 11) (h : f_Md_edge_115 fu post t x2 x3 x4 x5 x6 x7 kx0 M) : V X g w 10 0 0 (QI X g w post 0 0) 115 [some (ob g t), none, some (.int x2), some (.int x3), some (.int x4), some (.int x5), some (.int x6), some (.int x7), none, none] [.int kx0] M := by
  unfold f_Md_edge_115 at h
  refine V_iload_n hC rfl dX11_edge_115 ?_
  refine V_iload hC rfl dX11_edge_116 ?_
  refine V_icmp_ne (tgt := 125) hC dX11_edge_118 (by decide) (fun b1 => ?_) (fun b1 => ?_)
  · replace h := h.2 b1
    refine V_iconst (v := 0) hC (by decide) dX11_edge_125 ?_
    refine V_sub (us := [some (ob g t), none, some (.int x2), some (.int x3), some (.int x4), some (.int x5), some (.int x6), none, none, none]) ⟨rfl, rfl, rfl, rfl, rfl, rfl, trivial⟩ ?_
    exact j_Md_edge_126 hX hC t x2 x3 x4 x5 x6 kx0 0 ht h
  · replace h := h.1 b1
    refine V_iconst (v := 1) hC (by decide) dX11_edge_121 ?_
    refine V_goto (tgt := 126) hC (by decide) dX11_edge_122 ?_
    refine V_sub (us := [some (ob g t), none, some (.int x2), some (.int x3), some (.int x4), some (.int x5), some (.int x6), none, none, none]) ⟨rfl, rfl, rfl, rfl, rfl, rfl, trivial⟩ ?_
    exact j_Md_edge_126 hX hC t x2 x3 x4 x5 x6 kx0 1 ht h
set_option maxRecDepth 100000 in
theorem j_Md_edge_64 {l : Launch} {X : CX} {g : GX} {w : WX} {fu : Nat} {post : Int32 → Mm → Prop} (hX : X.2.1 = l) (hC : Cx X g cX11_edge 10 RX11 (some .int) 1) (t : Nat) (x1 : Int32) (x2 : Int32) (x3 : Int32) (x4 : Int32) (x5 : Int32) (x6 : Int32) (kx0 : Int32) {M : Mm} (ht : ok w t 11) (h : f_Md_edge_64 fu post t x1 x2 x3 x4 x5 x6 kx0 M) : V X g w 10 0 0 (QI X g w post 0 0) 64 [some (ob g t), some (.int x1), some (.int x2), some (.int x3), some (.int x4), some (.int x5), some (.int x6), none, none, none] [.int kx0] M := by
  unfold f_Md_edge_64 at h
  refine V_istore hC (by decide) dX11_edge_64 ?_
  refine V_iload_n hC rfl dX11_edge_66 ?_
  refine V_iconst (v := 2) hC (by decide) dX11_edge_67 ?_
  refine V_icmp_ne (tgt := 101) hC dX11_edge_68 (by decide) (fun b6 => ?_) (fun b6 => ?_)
  · replace h := h.2 b6
    refine V_iload_n hC rfl dX11_edge_101 ?_
    refine V_iconst (v := 3) hC (by decide) dX11_edge_102 ?_
    refine V_icmp_eq (tgt := 129) hC dX11_edge_103 (by decide) (fun b2 => ?_) (fun b2 => ?_)
    · replace h := h.1 b2
      refine V_sub (us := [some (ob g t), none, some (.int x2), some (.int x3), some (.int x4), some (.int x5), some (.int x6), none, none, none]) ⟨rfl, rfl, rfl, rfl, rfl, rfl, trivial⟩ ?_
      exact j_Md_edge_129 hX hC t x2 x3 x4 x5 x6 ht h
    · replace h := h.2 b2
      refine V_iload_n hC rfl dX11_edge_106 ?_
      refine V_if_ne (tgt := 114) hC dX11_edge_107 (by decide) (fun b1 => ?_) (fun b1 => ?_)
      · replace h := h.2 b1
        refine V_iconst (v := 0) hC (by decide) dX11_edge_114 ?_
        refine V_sub (us := [some (ob g t), none, some (.int x2), some (.int x3), some (.int x4), some (.int x5), some (.int x6), some (.int kx0), none, none]) ⟨rfl, rfl, rfl, rfl, rfl, rfl, rfl, trivial⟩ ?_
        exact j_Md_edge_115 hX hC t x2 x3 x4 x5 x6 kx0 0 ht h
      · replace h := h.1 b1
        refine V_iconst (v := 1) hC (by decide) dX11_edge_110 ?_
        refine V_goto (tgt := 115) hC (by decide) dX11_edge_111 ?_
        refine V_sub (us := [some (ob g t), none, some (.int x2), some (.int x3), some (.int x4), some (.int x5), some (.int x6), some (.int kx0), none, none]) ⟨rfl, rfl, rfl, rfl, rfl, rfl, rfl, trivial⟩ ?_
        exact j_Md_edge_115 hX hC t x2 x3 x4 x5 x6 kx0 1 ht h
  · replace h := h.1 b6
    refine V_aload_n hC rfl dX11_edge_71 ?_
    refine V_aload_n hC rfl dX11_edge_72 ?_
    refine gf_11_0 hC ht tw_817 dX11_edge_73 ?_
    refine V_bipush (v := 44) hC (by decide) dX11_edge_76 ?_
    refine V_iload hC rfl dX11_edge_78 ?_
    refine V_iadd hC dX11_edge_80 ?_
    obtain ⟨q3, h⟩ := h
    refine V_iald hC (ok_11_0 ht) q3 dX11_edge_81 ?_
    refine pf_11_18 hC ht tw_835 dX11_edge_82 ?_
    obtain ⟨M4, eM4⟩ : ∃ z, z = up M t 18 (M (t + 1) (44 + kx0).toNatClampNeg) := ⟨_, rfl⟩
    replace h := h M4 eM4
    refine V_mem eM4 ?_
    refine V_iload_n hC rfl dX11_edge_85 ?_
    refine V_iload hC rfl dX11_edge_86 ?_
    refine V_icmp_ne (tgt := 98) hC dX11_edge_88 (by decide) (fun b5 => ?_) (fun b5 => ?_)
    · replace h := h.2 b5
      refine V_bipush (v := (-9)) hC (by decide) dX11_edge_98 ?_
      exact V_iret hC h dX11_edge_100
    · replace h := h.1 b5
      refine V_iload_n hC rfl dX11_edge_91 ?_
      refine V_bipush (v := 96) hC (by decide) dX11_edge_92 ?_
      refine V_iadd hC dX11_edge_94 ?_
      refine V_goto (tgt := 100) hC (by decide) dX11_edge_95 ?_
      exact V_iret hC h dX11_edge_100
set_option maxRecDepth 100000 in
theorem j_Md_edge_44 {l : Launch} {X : CX} {g : GX} {w : WX} {fu : Nat} {post : Int32 → Mm → Prop} (hX : X.2.1 = l) (hC : Cx X g cX11_edge 10 RX11 (some .int) 1) (t : Nat) (x1 : Int32) (x2 : Int32) (x3 : Int32) (x4 : Int32) (x5 : Int32) (x6 : Int32) {M : Mm} (ht : ok w t 11) (h : f_Md_edge_44 fu post t x1 x2 x3 x4 x5 x6 M) : V X g w 10 0 0 (QI X g w post 0 0) 44 [some (ob g t), some (.int x1), some (.int x2), some (.int x3), some (.int x4), some (.int x5), some (.int x6), none, none, none] [] M := by
  unfold f_Md_edge_44 at h
  refine V_iload hC rfl dX11_edge_44 ?_
  refine V_if_eq (tgt := 62) hC dX11_edge_46 (by decide) (fun b2 => ?_) (fun b2 => ?_)
  · replace h := h.1 b2
    refine V_bipush (v := (-9)) hC (by decide) dX11_edge_62 ?_
    refine V_sub (us := [some (ob g t), some (.int x1), some (.int x2), some (.int x3), some (.int x4), some (.int x5), some (.int x6), none, none, none]) ⟨rfl, rfl, rfl, rfl, rfl, rfl, rfl, trivial⟩ ?_
    exact j_Md_edge_64 hX hC t x1 x2 x3 x4 x5 x6 (-9) ht h
  · replace h := h.2 b2
    refine V_aload_n hC rfl dX11_edge_49 ?_
    refine gf_11_0 hC ht tw_817 dX11_edge_50 ?_
    refine V_bipush (v := 57) hC (by decide) dX11_edge_53 ?_
    refine V_iload hC rfl dX11_edge_55 ?_
    refine V_iadd hC dX11_edge_57 ?_
    obtain ⟨q1, h⟩ := h
    refine V_iald hC (ok_11_0 ht) q1 dX11_edge_58 ?_
    refine V_goto (tgt := 64) hC (by decide) dX11_edge_59 ?_
    refine V_sub (us := [some (ob g t), some (.int x1), some (.int x2), some (.int x3), some (.int x4), some (.int x5), some (.int x6), none, none, none]) ⟨rfl, rfl, rfl, rfl, rfl, rfl, rfl, trivial⟩ ?_
    exact j_Md_edge_64 hX hC t x1 x2 x3 x4 x5 x6 (M (t + 1) (57 + x4).toNatClampNeg) ht h
set_option maxRecDepth 100000 in
theorem j_Md_edge_22 {l : Launch} {X : CX} {g : GX} {w : WX} {fu : Nat} {post : Int32 → Mm → Prop} (hX : X.2.1 = l) (hC : Cx X g cX11_edge 10 RX11 (some .int) 1) (t : Nat) (x1 : Int32) (x2 : Int32) (x3 : Int32) (x4 : Int32) (x5 : Int32) (kx0 : Int32) {M : Mm} (ht : ok w t 11) (h : f_Md_edge_22 fu post t x1 x2 x3 x4 x5 kx0 M) : V X g w 10 0 0 (QI X g w post 0 0) 22 [some (ob g t), some (.int x1), some (.int x2), some (.int x3), some (.int x4), some (.int x5), none, none, none, none] [.int kx0] M := by
  unfold f_Md_edge_22 at h
  refine V_istore hC (by decide) dX11_edge_22 ?_
  refine V_iload hC rfl dX11_edge_24 ?_
  refine V_if_eq (tgt := 44) hC dX11_edge_26 (by decide) (fun b3 => ?_) (fun b3 => ?_)
  · replace h := h.1 b3
    refine V_sub (us := [some (ob g t), some (.int x1), some (.int x2), some (.int x3), some (.int x4), some (.int x5), some (.int kx0), none, none, none]) ⟨rfl, rfl, rfl, rfl, rfl, rfl, rfl, trivial⟩ ?_
    exact j_Md_edge_44 hX hC t x1 x2 x3 x4 x5 kx0 ht h
  · replace h := h.2 b3
    refine V_iload hC rfl dX11_edge_29 ?_
    refine V_aload_n hC rfl dX11_edge_31 ?_
    refine gf_11_0 hC ht tw_817 dX11_edge_32 ?_
    refine V_bipush (v := 56) hC (by decide) dX11_edge_35 ?_
    obtain ⟨q1, h⟩ := h
    refine V_iaL (j := 56) (by decide) hC (ok_11_0 ht) q1 dX11_edge_37 ?_
    refine V_icmp_ne (tgt := 44) hC dX11_edge_38 (by decide) (fun b2 => ?_) (fun b2 => ?_)
    · replace h := h.2 b2
      refine V_sub (us := [some (ob g t), some (.int x1), some (.int x2), some (.int x3), some (.int x4), some (.int x5), some (.int kx0), none, none, none]) ⟨rfl, rfl, rfl, rfl, rfl, rfl, rfl, trivial⟩ ?_
      exact j_Md_edge_44 hX hC t x1 x2 x3 x4 x5 kx0 ht h
    · replace h := h.1 b2
      refine V_bipush (v := (-9)) hC (by decide) dX11_edge_41 ?_
      exact V_iret hC h dX11_edge_43
set_option maxRecDepth 100000 in
theorem c_Md_edge (l : Launch) (g : GX) (w : WX) (fu : Nat) (post : Int32 → Mm → Prop) (t : Nat) (x1 : Int32) (x2 : Int32) (x3 : Int32) (M : Mm) (ht : ok w t 11) (h : f_Md_edge fu post t x1 x2 x3 M) : Met l yX11_edge [Cond.code yX11_edge cX11_edge 10 (some .int)] (rmC 1 0 0) (va_Pc [ob g t, .int x1, .int x2, .int x3] (Wb g w M)) (va_Qi post (Wb g w) (Af g)) 0 0 (Af g) := by
  refine Ct_i (by decide) rfl (fun v hv => by simp only [List.mem_cons, List.not_mem_nil, or_false] at hv; rcases hv with rfl | rfl | rfl | rfl <;> rfl) (Nat.le_of_ble_eq_true rfl) (Nat.le_refl _) ?_
  intro X hX _ hC
  unfold f_Md_edge at h
  refine V_sub (us := [some (ob g t), some (.int x1), some (.int x2), some (.int x3), none, none, none, none, none, none]) ⟨rfl, rfl, rfl, rfl, trivial⟩ ?_
  refine V_iload_n hC rfl dX11_edge_0 ?_
  refine V_bipush (v := 96) hC (by decide) dX11_edge_1 ?_
  refine V_idiv hC (by decide) dX11_edge_3 ?_
  refine V_topi (fun y1 ey1 => ?_)
  replace h := h y1 ey1
  refine V_istore hC (by decide) dX11_edge_4 ?_
  refine V_iload_n hC rfl dX11_edge_6 ?_
  refine V_bipush (v := 96) hC (by decide) dX11_edge_7 ?_
  refine V_irem hC (by decide) dX11_edge_9 ?_
  refine V_topi (fun y2 ey2 => ?_)
  replace h := h y2 ey2
  refine V_istore hC (by decide) dX11_edge_10 ?_
  refine V_iload_n hC rfl dX11_edge_12 ?_
  refine V_iconst (v := 3) hC (by decide) dX11_edge_13 ?_
  refine V_icmp_eq (tgt := 21) hC dX11_edge_14 (by decide) (fun b3 => ?_) (fun b3 => ?_)
  · replace h := h.1 b3
    refine V_iconst (v := 0) hC (by decide) dX11_edge_21 ?_
    refine V_sub (us := [some (ob g t), some (.int x1), some (.int x2), some (.int x3), some (.int y1), some (.int y2), none, none, none, none]) ⟨rfl, rfl, rfl, rfl, rfl, rfl, trivial⟩ ?_
    exact j_Md_edge_22 hX hC t x1 x2 x3 y1 y2 0 ht h
  · replace h := h.2 b3
    refine V_iconst (v := 1) hC (by decide) dX11_edge_17 ?_
    refine V_goto (tgt := 22) hC (by decide) dX11_edge_18 ?_
    refine V_sub (us := [some (ob g t), some (.int x1), some (.int x2), some (.int x3), some (.int y1), some (.int y2), none, none, none, none]) ⟨rfl, rfl, rfl, rfl, rfl, rfl, trivial⟩ ?_
    exact j_Md_edge_22 hX hC t x1 x2 x3 y1 y2 1 ht h
