def f_Md_improve_51 (fu : Nat) (post : Int32 → Mm → Prop) (K44 : Nat → Int32 → Int32 → Mm → Prop) : Nat → Nat → Int32 → Int32 → Int32 → Mm → Prop
  | 0, _, _, _, _, _ => False
  | kf + 1, t, x1, x2, x3, M =>
    ((6 ≤ x3) → ∀ y1, y1 = x2 + 1 → K44 t x1 y1 M) ∧ (¬ (6 ≤ x3) → f_Md_edge fu (fun r3 M2 => ((r3 = (-9)) → ∀ y4, y4 = x3 + 1 → f_Md_improve_51 fu post K44 kf t x1 x2 y4 M2) ∧ (¬ (r3 = (-9)) → f_Md_offerNode fu (fun M5 => ∀ y6, y6 = x3 + 1 → f_Md_improve_51 fu post K44 kf t x1 x2 y6 M5) t r3 (M2 t 18) M2)) t x1 x2 x3 M)
def f_Md_improve_126 (fu : Nat) (post : Int32 → Mm → Prop) (t : Nat) (x1 : Int32) (kx0 : Int32) (M : Mm) : Prop :=
  vp_in x1 (ln (t + 5)) ∧ (∀ M2, M2 = up M (t + 5) x1.toNatClampNeg (M t 16) → vp_in x1 (ln (t + 6)) ∧ (∀ M4, M4 = up M2 (t + 6) x1.toNatClampNeg (M2 t 17) → zb kx0 ∧ post kx0 M4))
def f_Md_improve_121 (fu : Nat) (post : Int32 → Mm → Prop) (t : Nat) (x1 : Int32) (M : Mm) : Prop :=
  f_Md_improve_126 fu post t x1 1 M
def f_Md_improve_44 (fu : Nat) (post : Int32 → Mm → Prop) : Nat → Nat → Int32 → Int32 → Mm → Prop
  | 0, _, _, _, _ => False
  | kf + 1, t, x1, x2, M =>
    ((3 < x2) → vp_in x1 (ln (t + 5)) ∧ (((M t 16) = (M (t + 5) x1.toNatClampNeg)) → vp_in x1 (ln (t + 6)) ∧ (((M t 17) = (M (t + 6) x1.toNatClampNeg)) → f_Md_improve_126 fu post t x1 0 M) ∧ (¬ ((M t 17) = (M (t + 6) x1.toNatClampNeg)) → f_Md_improve_121 fu post t x1 M)) ∧ (¬ ((M t 16) = (M (t + 5) x1.toNatClampNeg)) → f_Md_improve_121 fu post t x1 M)) ∧ (¬ (3 < x2) → f_Md_improve_51 fu post (f_Md_improve_44 fu post kf) fu t x1 x2 0 M)
def f_Md_improve (fu : Nat) (post : Int32 → Mm → Prop) (t : Nat) (x1 : Int32) (M : Mm) : Prop :=
  ∀ M1, M1 = up M t 16 1000000 → ∀ M2, M2 = up M1 t 17 1000000 → vp_in 56 (ln (t + 1)) ∧ (((x1 / 96) = (M2 (t + 1) 56)) → f_Md_isFinal fu (fun r5 M4 => ((r5 = 0) → f_Md_improve_44 fu post fu t x1 0 M4) ∧ (¬ (r5 = 0) → f_Md_offer fu (fun M6 => f_Md_improve_44 fu post fu t x1 0 M6) t 0 M4)) t (x1 - x1 / 96 * 96) M2) ∧ (¬ ((x1 / 96) = (M2 (t + 1) 56)) → f_Md_improve_44 fu post fu t x1 0 M2)
set_option maxRecDepth 100000 in
theorem l_Md_improve_51 {l : Launch} {X : CX} {g : GX} {w : WX} {fu : Nat} {post : Int32 → Mm → Prop} (hX : X.2.1 = l) (hC : Cx X g cX11_improve 5 RX11 (some .boolean) 2) {K44 : Nat → Int32 → Int32 → Mm → Prop} (hK44 : ∀ (t : Nat) (x1 : Int32) (x2 : Int32) (M : Mm), ok w t 11 → K44 t x1 x2 M → V X g w 5 0 0 (QI X g w (fun r M => zb r ∧ post r M) 0 0) 44 [some (ob g t), some (.int x1), some (.int x2), none, none] [] M) : ∀ (kf : Nat) (t : Nat) (x1 : Int32) (x2 : Int32) (x3 : Int32) (M : Mm) (ht : ok w t 11) (h : f_Md_improve_51 fu post K44 kf t x1 x2 x3 M), V X g w 5 0 0 (QI X g w (fun r M => zb r ∧ post r M) 0 0) 51 [some (ob g t), some (.int x1), some (.int x2), some (.int x3), none] [] M := by
  intro kf
  induction kf with
  | zero => intro t x1 x2 x3 M ht h; exact absurd h id
  | succ kf ih =>
    intro t x1 x2 x3 M ht h
    rw [f_Md_improve_51] at h
    refine V_iload_n hC rfl dX11_improve_51 ?_
    refine V_bipush (v := 6) hC (by decide) dX11_improve_52 ?_
    refine V_icmp_ge (tgt := 89) hC dX11_improve_54 (by decide) (fun b8 => ?_) (fun b8 => ?_)
    · replace h := h.1 b8
      obtain ⟨y1, ey1⟩ : ∃ z, z = x2 + 1 := ⟨_, rfl⟩
      replace h := h y1 ey1
      refine V_iinc (v := y1) hC rfl (by rw [ey1]; rfl) (by decide) dX11_improve_89 ?_
      refine V_goto (tgt := 44) hC (by decide) dX11_improve_92 ?_
      refine V_sub (us := [some (ob g t), some (.int x1), some (.int y1), none, none]) ⟨rfl, rfl, rfl, trivial⟩ ?_
      exact hK44 t x1 y1 M ht h
    · replace h := h.2 b8
      refine V_aload_n hC rfl dX11_improve_57 ?_
      refine V_iload_n hC rfl dX11_improve_58 ?_
      refine V_iload_n hC rfl dX11_improve_59 ?_
      refine V_iload_n hC rfl dX11_improve_60 ?_
      refine V_calli (As := [.int x1, .int x2, .int x3]) hC (c_Md_edge X.2.1 g w fu _ t x1 x2 x3 M ht h) mw_X11_edge (by decide) tw_1084 ht (by decide) rfl rfl rfl (Nat.le_of_ble_eq_true rfl) ⟨Nat.zero_le _, Nat.zero_le _⟩ dX11_improve_61 (fun r3 M2 h => ?_)
      refine V_istore hC (by decide) dX11_improve_64 ?_
      refine V_iload hC rfl dX11_improve_66 ?_
      refine V_bipush (v := (-9)) hC (by decide) dX11_improve_68 ?_
      refine V_icmp_eq (tgt := 83) hC dX11_improve_70 (by decide) (fun b7 => ?_) (fun b7 => ?_)
      · replace h := h.1 b7
        obtain ⟨y4, ey4⟩ : ∃ z, z = x3 + 1 := ⟨_, rfl⟩
        replace h := h y4 ey4
        refine V_iinc (v := y4) hC rfl (by rw [ey4]; rfl) (by decide) dX11_improve_83 ?_
        refine V_goto (tgt := 51) hC (by decide) dX11_improve_86 ?_
        refine V_sub (us := [some (ob g t), some (.int x1), some (.int x2), some (.int y4), none]) ⟨rfl, rfl, rfl, rfl, trivial⟩ ?_
        exact ih t x1 x2 y4 M2 ht h
      · replace h := h.2 b7
        refine V_aload_n hC rfl dX11_improve_73 ?_
        refine V_iload hC rfl dX11_improve_74 ?_
        refine V_aload_n hC rfl dX11_improve_76 ?_
        refine gf_11_18 hC ht tw_835 dX11_improve_77 ?_
        refine V_callv (As := [.int r3, .int (M2 t 18)]) hC (c_Md_offerNode X.2.1 g w fu _ t r3 (M2 t 18) M2 ht h) mw_X11_offerNode (by decide) tw_1088 ht (by decide) rfl rfl rfl (Nat.le_of_ble_eq_true rfl) ⟨Nat.zero_le _, Nat.zero_le _⟩ dX11_improve_80 (fun M5 h => ?_)
        obtain ⟨y6, ey6⟩ : ∃ z, z = x3 + 1 := ⟨_, rfl⟩
        replace h := h y6 ey6
        refine V_iinc (v := y6) hC rfl (by rw [ey6]; rfl) (by decide) dX11_improve_83 ?_
        refine V_goto (tgt := 51) hC (by decide) dX11_improve_86 ?_
        refine V_sub (us := [some (ob g t), some (.int x1), some (.int x2), some (.int y6), none]) ⟨rfl, rfl, rfl, rfl, trivial⟩ ?_
        exact ih t x1 x2 y6 M5 ht h
set_option maxRecDepth 100000 in
theorem j_Md_improve_126 {l : Launch} {X : CX} {g : GX} {w : WX} {fu : Nat} {post : Int32 → Mm → Prop} (hX : X.2.1 = l) (hC : Cx X g cX11_improve 5 RX11 (some .boolean) 2) (t : Nat) (x1 : Int32) (kx0 : Int32) {M : Mm} (ht : ok w t 11) (h : f_Md_improve_126 fu post t x1 kx0 M) : V X g w 5 0 0 (QI X g w (fun r M => zb r ∧ post r M) 0 0) 126 [some (ob g t), some (.int x1), none, none, none] [.int kx0] M := by
  unfold f_Md_improve_126 at h
  refine V_istore_n hC (by decide) dX11_improve_126 ?_
  refine V_aload_n hC rfl dX11_improve_127 ?_
  refine gf_11_13 hC ht tw_830 dX11_improve_128 ?_
  refine V_iload_n hC rfl dX11_improve_131 ?_
  refine V_aload_n hC rfl dX11_improve_132 ?_
  refine gf_11_16 hC ht tw_833 dX11_improve_133 ?_
  obtain ⟨q1, h⟩ := h
  refine V_iast hC (ok_11_13 ht) q1 dX11_improve_136 ?_
  obtain ⟨M2, eM2⟩ : ∃ z, z = up M (t + 5) x1.toNatClampNeg (M t 16) := ⟨_, rfl⟩
  replace h := h M2 eM2
  refine V_mem eM2 ?_
  refine V_aload_n hC rfl dX11_improve_137 ?_
  refine gf_11_14 hC ht tw_831 dX11_improve_138 ?_
  refine V_iload_n hC rfl dX11_improve_141 ?_
  refine V_aload_n hC rfl dX11_improve_142 ?_
  refine gf_11_17 hC ht tw_834 dX11_improve_143 ?_
  obtain ⟨q3, h⟩ := h
  refine V_iast hC (ok_11_14 ht) q3 dX11_improve_146 ?_
  obtain ⟨M4, eM4⟩ : ∃ z, z = up M2 (t + 6) x1.toNatClampNeg (M2 t 17) := ⟨_, rfl⟩
  replace h := h M4 eM4
  refine V_mem eM4 ?_
  refine V_iload_n hC rfl dX11_improve_147 ?_
  exact V_zret hC h.1 h.2 dX11_improve_148
set_option maxRecDepth 100000 in
theorem j_Md_improve_121 {l : Launch} {X : CX} {g : GX} {w : WX} {fu : Nat} {post : Int32 → Mm → Prop} (hX : X.2.1 = l) (hC : Cx X g cX11_improve 5 RX11 (some .boolean) 2) (t : Nat) (x1 : Int32) {M : Mm} (ht : ok w t 11) (h : f_Md_improve_121 fu post t x1 M) : V X g w 5 0 0 (QI X g w (fun r M => zb r ∧ post r M) 0 0) 121 [some (ob g t), some (.int x1), none, none, none] [] M := by
  unfold f_Md_improve_121 at h
  refine V_iconst (v := 1) hC (by decide) dX11_improve_121 ?_
  refine V_goto (tgt := 126) hC (by decide) dX11_improve_122 ?_
  refine V_sub (us := [some (ob g t), some (.int x1), none, none, none]) ⟨rfl, rfl, trivial⟩ ?_
  exact j_Md_improve_126 hX hC t x1 1 ht h
set_option maxRecDepth 100000 in
theorem l_Md_improve_44 {l : Launch} {X : CX} {g : GX} {w : WX} {fu : Nat} {post : Int32 → Mm → Prop} (hX : X.2.1 = l) (hC : Cx X g cX11_improve 5 RX11 (some .boolean) 2) : ∀ (kf : Nat) (t : Nat) (x1 : Int32) (x2 : Int32) (M : Mm) (ht : ok w t 11) (h : f_Md_improve_44 fu post kf t x1 x2 M), V X g w 5 0 0 (QI X g w (fun r M => zb r ∧ post r M) 0 0) 44 [some (ob g t), some (.int x1), some (.int x2), none, none] [] M := by
  intro kf
  induction kf with
  | zero => intro t x1 x2 M ht h; exact absurd h id
  | succ kf ih =>
    intro t x1 x2 M ht h
    rw [f_Md_improve_44] at h
    refine V_iload_n hC rfl dX11_improve_44 ?_
    refine V_iconst (v := 3) hC (by decide) dX11_improve_45 ?_
    refine V_icmp_gt (tgt := 95) hC dX11_improve_46 (by decide) (fun b5 => ?_) (fun b5 => ?_)
    · replace h := h.1 b5
      refine V_aload_n hC rfl dX11_improve_95 ?_
      refine gf_11_16 hC ht tw_833 dX11_improve_96 ?_
      refine V_aload_n hC rfl dX11_improve_99 ?_
      refine gf_11_13 hC ht tw_830 dX11_improve_100 ?_
      refine V_iload_n hC rfl dX11_improve_103 ?_
      obtain ⟨q1, h⟩ := h
      refine V_iald hC (ok_11_13 ht) q1 dX11_improve_104 ?_
      refine V_icmp_ne (tgt := 121) hC dX11_improve_105 (by decide) (fun b4 => ?_) (fun b4 => ?_)
      · replace h := h.2 b4
        refine V_sub (us := [some (ob g t), some (.int x1), none, none, none]) ⟨rfl, rfl, trivial⟩ ?_
        exact j_Md_improve_121 hX hC t x1 ht h
      · replace h := h.1 b4
        refine V_aload_n hC rfl dX11_improve_108 ?_
        refine gf_11_17 hC ht tw_834 dX11_improve_109 ?_
        refine V_aload_n hC rfl dX11_improve_112 ?_
        refine gf_11_14 hC ht tw_831 dX11_improve_113 ?_
        refine V_iload_n hC rfl dX11_improve_116 ?_
        obtain ⟨q2, h⟩ := h
        refine V_iald hC (ok_11_14 ht) q2 dX11_improve_117 ?_
        refine V_icmp_eq (tgt := 125) hC dX11_improve_118 (by decide) (fun b3 => ?_) (fun b3 => ?_)
        · replace h := h.1 b3
          refine V_iconst (v := 0) hC (by decide) dX11_improve_125 ?_
          refine V_sub (us := [some (ob g t), some (.int x1), none, none, none]) ⟨rfl, rfl, trivial⟩ ?_
          exact j_Md_improve_126 hX hC t x1 0 ht h
        · replace h := h.2 b3
          refine V_sub (us := [some (ob g t), some (.int x1), none, none, none]) ⟨rfl, rfl, trivial⟩ ?_
          exact j_Md_improve_121 hX hC t x1 ht h
    · replace h := h.2 b5
      refine V_iconst (v := 0) hC (by decide) dX11_improve_49 ?_
      refine V_istore_n hC (by decide) dX11_improve_50 ?_
      refine V_sub (us := [some (ob g t), some (.int x1), some (.int x2), some (.int 0), none]) ⟨rfl, rfl, rfl, rfl, trivial⟩ ?_
      exact l_Md_improve_51 hX hC ih fu t x1 x2 0 M ht h
set_option maxRecDepth 100000 in
theorem c_Md_improve (l : Launch) (g : GX) (w : WX) (fu : Nat) (post : Int32 → Mm → Prop) (t : Nat) (x1 : Int32) (M : Mm) (ht : ok w t 11) (h : f_Md_improve fu post t x1 M) : Met l yX11_improve [Cond.code yX11_improve cX11_improve 5 (some .boolean)] (rmC 2 0 0) (va_Pc [ob g t, .int x1] (Wb g w M)) (va_Qi (fun r M => zb r ∧ post r M) (Wb g w) (Af g)) 0 0 (Af g) := by
  refine Ct_i (by decide) rfl (fun v hv => by simp only [List.mem_cons, List.not_mem_nil, or_false] at hv; rcases hv with rfl | rfl <;> rfl) (Nat.le_of_ble_eq_true rfl) (Nat.le_refl _) ?_
  intro X hX _ hC
  unfold f_Md_improve at h
  refine V_sub (us := [some (ob g t), some (.int x1), none, none, none]) ⟨rfl, rfl, trivial⟩ ?_
  refine V_aload_n hC rfl dX11_improve_0 ?_
  refine V_ldc hC tw_1072 dX11_improve_1 ?_
  refine pf_11_16 hC ht tw_833 dX11_improve_3 ?_
  obtain ⟨M1, eM1⟩ : ∃ z, z = up M t 16 1000000 := ⟨_, rfl⟩
  replace h := h M1 eM1
  refine V_mem eM1 ?_
  refine V_aload_n hC rfl dX11_improve_6 ?_
  refine V_ldc hC tw_1072 dX11_improve_7 ?_
  refine pf_11_17 hC ht tw_834 dX11_improve_9 ?_
  obtain ⟨M2, eM2⟩ : ∃ z, z = up M1 t 17 1000000 := ⟨_, rfl⟩
  replace h := h M2 eM2
  refine V_mem eM2 ?_
  refine V_iload_n hC rfl dX11_improve_12 ?_
  refine V_bipush (v := 96) hC (by decide) dX11_improve_13 ?_
  refine V_idiv hC (by decide) dX11_improve_15 ?_
  refine V_aload_n hC rfl dX11_improve_16 ?_
  refine gf_11_0 hC ht tw_817 dX11_improve_17 ?_
  refine V_bipush (v := 56) hC (by decide) dX11_improve_20 ?_
  obtain ⟨q3, h⟩ := h
  refine V_iaL (j := 56) (by decide) hC (ok_11_0 ht) q3 dX11_improve_22 ?_
  refine V_icmp_ne (tgt := 42) hC dX11_improve_23 (by decide) (fun b8 => ?_) (fun b8 => ?_)
  · replace h := h.2 b8
    refine V_iconst (v := 0) hC (by decide) dX11_improve_42 ?_
    refine V_istore_n hC (by decide) dX11_improve_43 ?_
    refine V_sub (us := [some (ob g t), some (.int x1), some (.int 0), none, none]) ⟨rfl, rfl, rfl, trivial⟩ ?_
    exact l_Md_improve_44 hX hC fu t x1 0 M2 ht h
  · replace h := h.1 b8
    refine V_aload_n hC rfl dX11_improve_26 ?_
    refine V_iload_n hC rfl dX11_improve_27 ?_
    refine V_bipush (v := 96) hC (by decide) dX11_improve_28 ?_
    refine V_irem hC (by decide) dX11_improve_30 ?_
    refine V_calli (As := [.int (x1 - x1 / 96 * 96)]) hC (c_Md_isFinal X.2.1 g w fu _ t (x1 - x1 / 96 * 96) M2 ht h) mw_X11_isFinal (by decide) tw_1041 ht (by decide) rfl rfl rfl (Nat.le_of_ble_eq_true rfl) ⟨Nat.zero_le _, Nat.zero_le _⟩ dX11_improve_31 (fun r5 M4 h => ?_)
    obtain ⟨hzr5, h⟩ := h
    refine V_if_eq (tgt := 42) hC dX11_improve_34 (by decide) (fun b7 => ?_) (fun b7 => ?_)
    · replace h := h.1 b7
      refine V_iconst (v := 0) hC (by decide) dX11_improve_42 ?_
      refine V_istore_n hC (by decide) dX11_improve_43 ?_
      refine V_sub (us := [some (ob g t), some (.int x1), some (.int 0), none, none]) ⟨rfl, rfl, rfl, trivial⟩ ?_
      exact l_Md_improve_44 hX hC fu t x1 0 M4 ht h
    · replace h := h.2 b7
      refine V_aload_n hC rfl dX11_improve_37 ?_
      refine V_iconst (v := 0) hC (by decide) dX11_improve_38 ?_
      refine V_callv (As := [.int 0]) hC (c_Md_offer X.2.1 g w fu _ t 0 M4 ht h) mw_X11_offer (by decide) tw_1080 ht (by decide) rfl rfl rfl (Nat.le_of_ble_eq_true rfl) ⟨Nat.zero_le _, Nat.zero_le _⟩ dX11_improve_39 (fun M6 h => ?_)
      refine V_iconst (v := 0) hC (by decide) dX11_improve_42 ?_
      refine V_istore_n hC (by decide) dX11_improve_43 ?_
      refine V_sub (us := [some (ob g t), some (.int x1), some (.int 0), none, none]) ⟨rfl, rfl, rfl, trivial⟩ ?_
      exact l_Md_improve_44 hX hC fu t x1 0 M6 ht h
def f_Md_isConfig (fu : Nat) (post : Int32 → Mm → Prop) (x0 : Int32) (M : Mm) : Prop :=
  (((x0 - x0 / 16 * 16) ≤ 0) → post 0 M) ∧ (¬ ((x0 - x0 / 16 * 16) ≤ 0) → post 1 M)
set_option maxRecDepth 100000 in
theorem c_Md_isConfig (l : Launch) (g : GX) (w : WX) (fu : Nat) (post : Int32 → Mm → Prop) (x0 : Int32) (M : Mm) (h : f_Md_isConfig fu post x0 M) : Met l yX11_isConfig [Cond.code yX11_isConfig cX11_isConfig 1 (some .boolean)] (rmC 0 0 0) (va_Pc [.int x0] (Wb g w M)) (va_Qi (fun r M => zb r ∧ post r M) (Wb g w) (Af g)) 0 0 (Af g) := by
  refine Ct_i (by decide) rfl (fun v hv => by simp only [List.mem_cons, List.not_mem_nil, or_false] at hv; rcases hv with rfl <;> rfl) (Nat.le_of_ble_eq_true rfl) (Nat.le_refl _) ?_
  intro X hX _ hC
  unfold f_Md_isConfig at h
  refine V_sub (us := [some (.int x0)]) ⟨rfl, trivial⟩ ?_
  refine V_iload_n hC rfl dX11_isConfig_0 ?_
  refine V_bipush (v := 16) hC (by decide) dX11_isConfig_1 ?_
  refine V_irem hC (by decide) dX11_isConfig_3 ?_
  refine V_if_le (tgt := 11) hC dX11_isConfig_4 (by decide) (fun b1 => ?_) (fun b1 => ?_)
  · replace h := h.1 b1
    refine V_iconst (v := 0) hC (by decide) dX11_isConfig_11 ?_
    exact V_zret hC (Or.inl rfl) h dX11_isConfig_12
  · replace h := h.2 b1
    refine V_iconst (v := 1) hC (by decide) dX11_isConfig_7 ?_
    refine V_goto (tgt := 12) hC (by decide) dX11_isConfig_8 ?_
    exact V_zret hC (Or.inr rfl) h dX11_isConfig_12
def f_Md_findCosts_104 (fu : Nat) (post : Mm → Prop) (K62 : Nat → Int32 → Int32 → Int32 → Mm → Prop) (t : Nat) (x1 : Int32) (x3 : Int32) (kx0 : Int32) (M : Mm) : Prop :=
  ∀ y1, y1 = x3 + 1 → K62 t x1 kx0 y1 M
def f_Md_findCosts_99 (fu : Nat) (post : Mm → Prop) (K62 : Nat → Int32 → Int32 → Int32 → Mm → Prop) (t : Nat) (x1 : Int32) (x3 : Int32) (M : Mm) : Prop :=
  f_Md_findCosts_104 fu post K62 t x1 x3 1 M
def f_Md_findCosts_95 (fu : Nat) (post : Mm → Prop) (K62 : Nat → Int32 → Int32 → Int32 → Mm → Prop) (t : Nat) (x1 : Int32) (x2 : Int32) (x3 : Int32) (M : Mm) : Prop :=
  ((x2 = 0) → f_Md_findCosts_104 fu post K62 t x1 x3 0 M) ∧ (¬ (x2 = 0) → f_Md_findCosts_99 fu post K62 t x1 x3 M)
def f_Md_findCosts_62 (fu : Nat) (post : Mm → Prop) (K54 : Nat → Int32 → Int32 → Mm → Prop) : Nat → Nat → Int32 → Int32 → Int32 → Mm → Prop
  | 0, _, _, _, _, _ => False
  | kf + 1, t, x1, x2, x3, M =>
    vp_in 0 (ln (t + 1)) ∧ (((16 * (M (t + 1) 0)) ≤ x3) → K54 t x1 x2 M) ∧ (¬ ((16 * (M (t + 1) 0)) ≤ x3) → f_Md_isConfig fu (fun r3 M2 => ((r3 = 0) → f_Md_findCosts_95 fu post (f_Md_findCosts_62 fu post K54 kf) t x1 x2 x3 M2) ∧ (¬ (r3 = 0) → f_Md_improve fu (fun r5 M4 => ((r5 = 0) → f_Md_findCosts_95 fu post (f_Md_findCosts_62 fu post K54 kf) t x1 x2 x3 M4) ∧ (¬ (r5 = 0) → f_Md_findCosts_99 fu post (f_Md_findCosts_62 fu post K54 kf) t x1 x3 M4)) t ((96 * x1) + x3) M2)) x3 M)
def f_Md_findCosts_54 (fu : Nat) (post : Mm → Prop) (K48 : Nat → Int32 → Mm → Prop) : Nat → Nat → Int32 → Int32 → Mm → Prop
  | 0, _, _, _, _ => False
  | kf + 1, t, x1, x2, M =>
    ((x2 = 0) → ∀ y1, y1 = x1 + (-1) → K48 t y1 M) ∧ (¬ (x2 = 0) → f_Md_findCosts_62 fu post (f_Md_findCosts_54 fu post K48 kf) fu t x1 0 0 M)
def f_Md_findCosts_48 (fu : Nat) (post : Mm → Prop) : Nat → Nat → Int32 → Mm → Prop
  | 0, _, _, _ => False
  | kf + 1, t, x1, M =>
    ((x1 < 0) → post M) ∧ (¬ (x1 < 0) → f_Md_findCosts_54 fu post (f_Md_findCosts_48 fu post kf) fu t x1 1 M)
def f_Md_findCosts_2 (fu : Nat) (post : Mm → Prop) : Nat → Nat → Int32 → Mm → Prop
  | 0, _, _, _ => False
  | kf + 1, t, x1, M =>
    vp_in 56 (ln (t + 1)) ∧ (((96 * ((M (t + 1) 56) + 1)) ≤ x1) → vp_in 56 (ln (t + 1)) ∧ ∀ y3, y3 = (M (t + 1) 56) → f_Md_findCosts_48 fu post fu t y3 M) ∧ (¬ ((96 * ((M (t + 1) 56) + 1)) ≤ x1) → vp_in x1 (ln (t + 5)) ∧ (∀ M5, M5 = up M (t + 5) x1.toNatClampNeg 1000000 → vp_in x1 (ln (t + 6)) ∧ (∀ M7, M7 = up M5 (t + 6) x1.toNatClampNeg 1000000 → ∀ y8, y8 = x1 + 1 → f_Md_findCosts_2 fu post kf t y8 M7)))
def f_Md_findCosts (fu : Nat) (post : Mm → Prop) (t : Nat) (M : Mm) : Prop :=
  f_Md_findCosts_2 fu post fu t 0 M
set_option maxRecDepth 100000 in
theorem j_Md_findCosts_104 {l : Launch} {X : CX} {g : GX} {w : WX} {fu : Nat} {post : Mm → Prop} (hX : X.2.1 = l) (hC : Cx X g cX11_findCosts 4 RX11 (none) 3) {K62 : Nat → Int32 → Int32 → Int32 → Mm → Prop} (hK62 : ∀ (t : Nat) (x1 : Int32) (x2 : Int32) (x3 : Int32) (M : Mm), ok w t 11 → K62 t x1 x2 x3 M → V X g w 4 0 0 (QV X g w post 0 0) 62 [some (ob g t), some (.int x1), some (.int x2), some (.int x3)] [] M) (t : Nat) (x1 : Int32) (x3 : Int32) (kx0 : Int32) {M : Mm} (ht : ok w t 11) (h : f_Md_findCosts_104 fu post K62 t x1 x3 kx0 M) : V X g w 4 0 0 (QV X g w post 0 0) 104 [some (ob g t), some (.int x1), none, some (.int x3)] [.int kx0] M := by
  unfold f_Md_findCosts_104 at h
  refine V_istore_n hC (by decide) dX11_findCosts_104 ?_
  obtain ⟨y1, ey1⟩ : ∃ z, z = x3 + 1 := ⟨_, rfl⟩
  replace h := h y1 ey1
  refine V_iinc (v := y1) hC rfl (by rw [ey1]; rfl) (by decide) dX11_findCosts_105 ?_
  refine V_goto (tgt := 62) hC (by decide) dX11_findCosts_108 ?_
  refine V_sub (us := [some (ob g t), some (.int x1), some (.int kx0), some (.int y1)]) ⟨rfl, rfl, rfl, rfl, trivial⟩ ?_
  exact hK62 t x1 kx0 y1 M ht h
set_option maxRecDepth 100000 in
theorem j_Md_findCosts_99 {l : Launch} {X : CX} {g : GX} {w : WX} {fu : Nat} {post : Mm → Prop} (hX : X.2.1 = l) (hC : Cx X g cX11_findCosts 4 RX11 (none) 3) {K62 : Nat → Int32 → Int32 → Int32 → Mm → Prop} (hK62 : ∀ (t : Nat) (x1 : Int32) (x2 : Int32) (x3 : Int32) (M : Mm), ok w t 11 → K62 t x1 x2 x3 M → V X g w 4 0 0 (QV X g w post 0 0) 62 [some (ob g t), some (.int x1), some (.int x2), some (.int x3)] [] M) (t : Nat) (x1 : Int32) (x3 : Int32) {M : Mm} (ht : ok w t 11) (h : f_Md_findCosts_99 fu post K62 t x1 x3 M) : V X g w 4 0 0 (QV X g w post 0 0) 99 [some (ob g t), some (.int x1), none, some (.int x3)] [] M := by
  unfold f_Md_findCosts_99 at h
  refine V_iconst (v := 1) hC (by decide) dX11_findCosts_99 ?_
  refine V_goto (tgt := 104) hC (by decide) dX11_findCosts_100 ?_
  refine V_sub (us := [some (ob g t), some (.int x1), none, some (.int x3)]) ⟨rfl, rfl, rfl, trivial⟩ ?_
  exact j_Md_findCosts_104 hX hC hK62 t x1 x3 1 ht h
set_option maxRecDepth 100000 in
theorem j_Md_findCosts_95 {l : Launch} {X : CX} {g : GX} {w : WX} {fu : Nat} {post : Mm → Prop} (hX : X.2.1 = l) (hC : Cx X g cX11_findCosts 4 RX11 (none) 3) {K62 : Nat → Int32 → Int32 → Int32 → Mm → Prop} (hK62 : ∀ (t : Nat) (x1 : Int32) (x2 : Int32) (x3 : Int32) (M : Mm), ok w t 11 → K62 t x1 x2 x3 M → V X g w 4 0 0 (QV X g w post 0 0) 62 [some (ob g t), some (.int x1), some (.int x2), some (.int x3)] [] M) (t : Nat) (x1 : Int32) (x2 : Int32) (x3 : Int32) {M : Mm} (ht : ok w t 11) (h : f_Md_findCosts_95 fu post K62 t x1 x2 x3 M) : V X g w 4 0 0 (QV X g w post 0 0) 95 [some (ob g t), some (.int x1), some (.int x2), some (.int x3)] [] M := by
  unfold f_Md_findCosts_95 at h
  refine V_iload_n hC rfl dX11_findCosts_95 ?_
  refine V_if_eq (tgt := 103) hC dX11_findCosts_96 (by decide) (fun b1 => ?_) (fun b1 => ?_)
  · replace h := h.1 b1
    refine V_iconst (v := 0) hC (by decide) dX11_findCosts_103 ?_
    refine V_sub (us := [some (ob g t), some (.int x1), none, some (.int x3)]) ⟨rfl, rfl, rfl, trivial⟩ ?_
    exact j_Md_findCosts_104 hX hC hK62 t x1 x3 0 ht h
  · replace h := h.2 b1
    refine V_sub (us := [some (ob g t), some (.int x1), none, some (.int x3)]) ⟨rfl, rfl, rfl, trivial⟩ ?_
    exact j_Md_findCosts_99 hX hC hK62 t x1 x3 ht h
set_option maxRecDepth 100000 in
theorem l_Md_findCosts_62 {l : Launch} {X : CX} {g : GX} {w : WX} {fu : Nat} {post : Mm → Prop} (hX : X.2.1 = l) (hC : Cx X g cX11_findCosts 4 RX11 (none) 3) {K54 : Nat → Int32 → Int32 → Mm → Prop} (hK54 : ∀ (t : Nat) (x1 : Int32) (x2 : Int32) (M : Mm), ok w t 11 → K54 t x1 x2 M → V X g w 4 0 0 (QV X g w post 0 0) 54 [some (ob g t), some (.int x1), some (.int x2), none] [] M) : ∀ (kf : Nat) (t : Nat) (x1 : Int32) (x2 : Int32) (x3 : Int32) (M : Mm) (ht : ok w t 11) (h : f_Md_findCosts_62 fu post K54 kf t x1 x2 x3 M), V X g w 4 0 0 (QV X g w post 0 0) 62 [some (ob g t), some (.int x1), some (.int x2), some (.int x3)] [] M := by
  intro kf
  induction kf with
  | zero => intro t x1 x2 x3 M ht h; exact absurd h id
  | succ kf ih =>
    intro t x1 x2 x3 M ht h
    rw [f_Md_findCosts_62] at h
    refine V_iload_n hC rfl dX11_findCosts_62 ?_
    refine V_bipush (v := 16) hC (by decide) dX11_findCosts_63 ?_
    refine V_aload_n hC rfl dX11_findCosts_65 ?_
    refine gf_11_0 hC ht tw_817 dX11_findCosts_66 ?_
    refine V_iconst (v := 0) hC (by decide) dX11_findCosts_69 ?_
    obtain ⟨q1, h⟩ := h
    refine V_iaL (j := 0) (by decide) hC (ok_11_0 ht) q1 dX11_findCosts_70 ?_
    refine V_imul hC dX11_findCosts_71 ?_
    refine V_icmp_ge (tgt := 111) hC dX11_findCosts_72 (by decide) (fun b8 => ?_) (fun b8 => ?_)
    · replace h := h.1 b8
      refine V_goto (tgt := 54) hC (by decide) dX11_findCosts_111 ?_
      refine V_sub (us := [some (ob g t), some (.int x1), some (.int x2), none]) ⟨rfl, rfl, rfl, trivial⟩ ?_
      exact hK54 t x1 x2 M ht h
    · replace h := h.2 b8
      refine V_iload_n hC rfl dX11_findCosts_75 ?_
      refine V_scalli (As := [.int x3]) hC (c_Md_isConfig X.2.1 g w fu _ x3 M h) mw_X11_isConfig (by decide) tw_1073 rfl rfl (Nat.le_of_ble_eq_true rfl) ⟨Nat.zero_le _, Nat.zero_le _⟩ dX11_findCosts_76 (fun r3 M2 h => ?_)
      obtain ⟨hzr3, h⟩ := h
      refine V_if_eq (tgt := 95) hC dX11_findCosts_79 (by decide) (fun b7 => ?_) (fun b7 => ?_)
      · replace h := h.1 b7
        refine V_sub (us := [some (ob g t), some (.int x1), some (.int x2), some (.int x3)]) ⟨rfl, rfl, rfl, rfl, trivial⟩ ?_
        exact j_Md_findCosts_95 hX hC ih t x1 x2 x3 ht h
      · replace h := h.2 b7
        refine V_aload_n hC rfl dX11_findCosts_82 ?_
        refine V_bipush (v := 96) hC (by decide) dX11_findCosts_83 ?_
        refine V_iload_n hC rfl dX11_findCosts_85 ?_
        refine V_imul hC dX11_findCosts_86 ?_
        refine V_iload_n hC rfl dX11_findCosts_87 ?_
        refine V_iadd hC dX11_findCosts_88 ?_
        refine V_calli (As := [.int ((96 * x1) + x3)]) hC (c_Md_improve X.2.1 g w fu _ t ((96 * x1) + x3) M2 ht h) mw_X11_improve (by decide) tw_1076 ht (by decide) rfl rfl rfl (Nat.le_of_ble_eq_true rfl) ⟨Nat.zero_le _, Nat.zero_le _⟩ dX11_findCosts_89 (fun r5 M4 h => ?_)
        obtain ⟨hzr5, h⟩ := h
        refine V_if_ne (tgt := 99) hC dX11_findCosts_92 (by decide) (fun b6 => ?_) (fun b6 => ?_)
        · replace h := h.2 b6
          refine V_sub (us := [some (ob g t), some (.int x1), none, some (.int x3)]) ⟨rfl, rfl, rfl, trivial⟩ ?_
          exact j_Md_findCosts_99 hX hC ih t x1 x3 ht h
        · replace h := h.1 b6
          refine V_sub (us := [some (ob g t), some (.int x1), some (.int x2), some (.int x3)]) ⟨rfl, rfl, rfl, rfl, trivial⟩ ?_
          exact j_Md_findCosts_95 hX hC ih t x1 x2 x3 ht h
set_option maxRecDepth 100000 in
theorem l_Md_findCosts_54 {l : Launch} {X : CX} {g : GX} {w : WX} {fu : Nat} {post : Mm → Prop} (hX : X.2.1 = l) (hC : Cx X g cX11_findCosts 4 RX11 (none) 3) {K48 : Nat → Int32 → Mm → Prop} (hK48 : ∀ (t : Nat) (x1 : Int32) (M : Mm), ok w t 11 → K48 t x1 M → V X g w 4 0 0 (QV X g w post 0 0) 48 [some (ob g t), some (.int x1), none, none] [] M) : ∀ (kf : Nat) (t : Nat) (x1 : Int32) (x2 : Int32) (M : Mm) (ht : ok w t 11) (h : f_Md_findCosts_54 fu post K48 kf t x1 x2 M), V X g w 4 0 0 (QV X g w post 0 0) 54 [some (ob g t), some (.int x1), some (.int x2), none] [] M := by
  intro kf
  induction kf with
  | zero => intro t x1 x2 M ht h; exact absurd h id
  | succ kf ih =>
    intro t x1 x2 M ht h
    rw [f_Md_findCosts_54] at h
    refine V_iload_n hC rfl dX11_findCosts_54 ?_
    refine V_if_eq (tgt := 114) hC dX11_findCosts_55 (by decide) (fun b2 => ?_) (fun b2 => ?_)
    · replace h := h.1 b2
      obtain ⟨y1, ey1⟩ : ∃ z, z = x1 + (-1) := ⟨_, rfl⟩
      replace h := h y1 ey1
      refine V_iinc (v := y1) hC rfl (by rw [ey1]; rfl) (by decide) dX11_findCosts_114 ?_
      refine V_goto (tgt := 48) hC (by decide) dX11_findCosts_117 ?_
      refine V_sub (us := [some (ob g t), some (.int y1), none, none]) ⟨rfl, rfl, trivial⟩ ?_
      exact hK48 t y1 M ht h
    · replace h := h.2 b2
      refine V_iconst (v := 0) hC (by decide) dX11_findCosts_58 ?_
      refine V_istore_n hC (by decide) dX11_findCosts_59 ?_
      refine V_iconst (v := 0) hC (by decide) dX11_findCosts_60 ?_
      refine V_istore_n hC (by decide) dX11_findCosts_61 ?_
      refine V_sub (us := [some (ob g t), some (.int x1), some (.int 0), some (.int 0)]) ⟨rfl, rfl, rfl, rfl, trivial⟩ ?_
      exact l_Md_findCosts_62 hX hC ih fu t x1 0 0 M ht h
set_option maxRecDepth 100000 in
theorem l_Md_findCosts_48 {l : Launch} {X : CX} {g : GX} {w : WX} {fu : Nat} {post : Mm → Prop} (hX : X.2.1 = l) (hC : Cx X g cX11_findCosts 4 RX11 (none) 3) : ∀ (kf : Nat) (t : Nat) (x1 : Int32) (M : Mm) (ht : ok w t 11) (h : f_Md_findCosts_48 fu post kf t x1 M), V X g w 4 0 0 (QV X g w post 0 0) 48 [some (ob g t), some (.int x1), none, none] [] M := by
  intro kf
  induction kf with
  | zero => intro t x1 M ht h; exact absurd h id
  | succ kf ih =>
    intro t x1 M ht h
    rw [f_Md_findCosts_48] at h
    refine V_iload_n hC rfl dX11_findCosts_48 ?_
    refine V_if_lt (tgt := 120) hC dX11_findCosts_49 (by decide) (fun b1 => ?_) (fun b1 => ?_)
    · replace h := h.1 b1
      exact V_vret hC h dX11_findCosts_120
    · replace h := h.2 b1
      refine V_iconst (v := 1) hC (by decide) dX11_findCosts_52 ?_
      refine V_istore_n hC (by decide) dX11_findCosts_53 ?_
      refine V_sub (us := [some (ob g t), some (.int x1), some (.int 1), none]) ⟨rfl, rfl, rfl, trivial⟩ ?_
      exact l_Md_findCosts_54 hX hC ih fu t x1 1 M ht h
set_option maxRecDepth 100000 in
theorem l_Md_findCosts_2 {l : Launch} {X : CX} {g : GX} {w : WX} {fu : Nat} {post : Mm → Prop} (hX : X.2.1 = l) (hC : Cx X g cX11_findCosts 4 RX11 (none) 3) : ∀ (kf : Nat) (t : Nat) (x1 : Int32) (M : Mm) (ht : ok w t 11) (h : f_Md_findCosts_2 fu post kf t x1 M), V X g w 4 0 0 (QV X g w post 0 0) 2 [some (ob g t), some (.int x1), none, none] [] M := by
  intro kf
  induction kf with
  | zero => intro t x1 M ht h; exact absurd h id
  | succ kf ih =>
    intro t x1 M ht h
    rw [f_Md_findCosts_2] at h
    refine V_iload_n hC rfl dX11_findCosts_2 ?_
    refine V_bipush (v := 96) hC (by decide) dX11_findCosts_3 ?_
    refine V_aload_n hC rfl dX11_findCosts_5 ?_
    refine gf_11_0 hC ht tw_817 dX11_findCosts_6 ?_
    refine V_bipush (v := 56) hC (by decide) dX11_findCosts_9 ?_
    obtain ⟨q1, h⟩ := h
    refine V_iaL (j := 56) (by decide) hC (ok_11_0 ht) q1 dX11_findCosts_11 ?_
    refine V_iconst (v := 1) hC (by decide) dX11_findCosts_12 ?_
    refine V_iadd hC dX11_findCosts_13 ?_
    refine V_imul hC dX11_findCosts_14 ?_
    refine V_icmp_ge (tgt := 40) hC dX11_findCosts_15 (by decide) (fun b9 => ?_) (fun b9 => ?_)
    · replace h := h.1 b9
      refine V_aload_n hC rfl dX11_findCosts_40 ?_
      refine gf_11_0 hC ht tw_817 dX11_findCosts_41 ?_
      refine V_bipush (v := 56) hC (by decide) dX11_findCosts_44 ?_
      obtain ⟨q2, h⟩ := h
      refine V_iaL (j := 56) (by decide) hC (ok_11_0 ht) q2 dX11_findCosts_46 ?_
      refine V_topi (fun y3 ey3 => ?_)
      replace h := h y3 ey3
      refine V_istore_n hC (by decide) dX11_findCosts_47 ?_
      refine V_sub (us := [some (ob g t), some (.int y3), none, none]) ⟨rfl, rfl, trivial⟩ ?_
      exact l_Md_findCosts_48 hX hC fu t y3 M ht h
    · replace h := h.2 b9
      refine V_aload_n hC rfl dX11_findCosts_18 ?_
      refine gf_11_13 hC ht tw_830 dX11_findCosts_19 ?_
      refine V_iload_n hC rfl dX11_findCosts_22 ?_
      refine V_ldc hC tw_1072 dX11_findCosts_23 ?_
      obtain ⟨q4, h⟩ := h
      refine V_iast hC (ok_11_13 ht) q4 dX11_findCosts_25 ?_
      obtain ⟨M5, eM5⟩ : ∃ z, z = up M (t + 5) x1.toNatClampNeg 1000000 := ⟨_, rfl⟩
      replace h := h M5 eM5
      refine V_mem eM5 ?_
      refine V_aload_n hC rfl dX11_findCosts_26 ?_
      refine gf_11_14 hC ht tw_831 dX11_findCosts_27 ?_
      refine V_iload_n hC rfl dX11_findCosts_30 ?_
      refine V_ldc hC tw_1072 dX11_findCosts_31 ?_
      obtain ⟨q6, h⟩ := h
      refine V_iast hC (ok_11_14 ht) q6 dX11_findCosts_33 ?_
      obtain ⟨M7, eM7⟩ : ∃ z, z = up M5 (t + 6) x1.toNatClampNeg 1000000 := ⟨_, rfl⟩
      replace h := h M7 eM7
      refine V_mem eM7 ?_
      obtain ⟨y8, ey8⟩ : ∃ z, z = x1 + 1 := ⟨_, rfl⟩
      replace h := h y8 ey8
      refine V_iinc (v := y8) hC rfl (by rw [ey8]; rfl) (by decide) dX11_findCosts_34 ?_
      refine V_goto (tgt := 2) hC (by decide) dX11_findCosts_37 ?_
      refine V_sub (us := [some (ob g t), some (.int y8), none, none]) ⟨rfl, rfl, trivial⟩ ?_
      exact ih t y8 M7 ht h
set_option maxRecDepth 100000 in
theorem c_Md_findCosts (l : Launch) (g : GX) (w : WX) (fu : Nat) (post : Mm → Prop) (t : Nat) (M : Mm) (ht : ok w t 11) (h : f_Md_findCosts fu post t M) : Met l yX11_findCosts [Cond.code yX11_findCosts cX11_findCosts 4 (none)] (rmC 3 0 0) (va_Pc [ob g t] (Wb g w M)) (va_Qv post (Wb g w) (Af g)) 0 0 (Af g) := by
  refine Ct_v (by decide) rfl (fun v hv => by simp only [List.mem_cons, List.not_mem_nil, or_false] at hv; rcases hv with rfl <;> rfl) (Nat.le_of_ble_eq_true rfl) (Nat.le_refl _) ?_
  intro X hX _ hC
  unfold f_Md_findCosts at h
  refine V_sub (us := [some (ob g t), none, none, none]) ⟨rfl, trivial⟩ ?_
  refine V_iconst (v := 0) hC (by decide) dX11_findCosts_0 ?_
  refine V_istore_n hC (by decide) dX11_findCosts_1 ?_
  refine V_sub (us := [some (ob g t), some (.int 0), none, none]) ⟨rfl, rfl, trivial⟩ ?_
  exact l_Md_findCosts_2 hX hC fu t 0 M ht h
def f_Md_pathsBy (fu : Nat) (post : Int32 → Mm → Prop) (t : Nat) (x1 : Int32) (x2 : Int32) (x3 : Int32) (M : Mm) : Prop :=
  f_Md_edge fu (fun r2 M1 => ((r2 = (-9)) → post 0 M1) ∧ (¬ (r2 = (-9)) → vp_in x1 (ln (t + 5)) ∧ ((1000000 ≤ (M1 (t + 5) x1.toNatClampNeg)) → post 0 M1) ∧ (¬ (1000000 ≤ (M1 (t + 5) x1.toNatClampNeg)) → vp_in r2 (ln (t + 5)) ∧ vp_in x1 (ln (t + 5)) ∧ ((((M1 (t + 5) r2.toNatClampNeg) + (M1 t 18)) = (M1 (t + 5) x1.toNatClampNeg)) → vp_in r2 (ln (t + 7)) ∧ post (M1 (t + 7) r2.toNatClampNeg) M1) ∧ (¬ (((M1 (t + 5) r2.toNatClampNeg) + (M1 t 18)) = (M1 (t + 5) x1.toNatClampNeg)) → post 0 M1)))) t x1 x2 x3 M
set_option maxRecDepth 100000 in
theorem c_Md_pathsBy (l : Launch) (g : GX) (w : WX) (fu : Nat) (post : Int32 → Mm → Prop) (t : Nat) (x1 : Int32) (x2 : Int32) (x3 : Int32) (M : Mm) (ht : ok w t 11) (h : f_Md_pathsBy fu post t x1 x2 x3 M) : Met l yX11_pathsBy [Cond.code yX11_pathsBy cX11_pathsBy 5 (some .int)] (rmC 2 0 0) (va_Pc [ob g t, .int x1, .int x2, .int x3] (Wb g w M)) (va_Qi post (Wb g w) (Af g)) 0 0 (Af g) := by
  refine Ct_i (by decide) rfl (fun v hv => by simp only [List.mem_cons, List.not_mem_nil, or_false] at hv; rcases hv with rfl | rfl | rfl | rfl <;> rfl) (Nat.le_of_ble_eq_true rfl) (Nat.le_refl _) ?_
  intro X hX _ hC
  unfold f_Md_pathsBy at h
  refine V_sub (us := [some (ob g t), some (.int x1), some (.int x2), some (.int x3), none]) ⟨rfl, rfl, rfl, rfl, trivial⟩ ?_
  refine V_aload_n hC rfl dX11_pathsBy_0 ?_
  refine V_iload_n hC rfl dX11_pathsBy_1 ?_
  refine V_iload_n hC rfl dX11_pathsBy_2 ?_
  refine V_iload_n hC rfl dX11_pathsBy_3 ?_
  refine V_calli (As := [.int x1, .int x2, .int x3]) hC (c_Md_edge X.2.1 g w fu _ t x1 x2 x3 M ht h) mw_X11_edge (by decide) tw_1084 ht (by decide) rfl rfl rfl (Nat.le_of_ble_eq_true rfl) ⟨Nat.zero_le _, Nat.zero_le _⟩ dX11_pathsBy_4 (fun r2 M1 h => ?_)
  refine V_istore hC (by decide) dX11_pathsBy_7 ?_
  refine V_iload hC rfl dX11_pathsBy_9 ?_
  refine V_bipush (v := (-9)) hC (by decide) dX11_pathsBy_11 ?_
  refine V_icmp_eq (tgt := 58) hC dX11_pathsBy_13 (by decide) (fun b9 => ?_) (fun b9 => ?_)
  · replace h := h.1 b9
    refine V_iconst (v := 0) hC (by decide) dX11_pathsBy_58 ?_
    exact V_iret hC h dX11_pathsBy_59
  · replace h := h.2 b9
    refine V_aload_n hC rfl dX11_pathsBy_16 ?_
    refine gf_11_13 hC ht tw_830 dX11_pathsBy_17 ?_
    refine V_iload_n hC rfl dX11_pathsBy_20 ?_
    obtain ⟨q3, h⟩ := h
    refine V_iald hC (ok_11_13 ht) q3 dX11_pathsBy_21 ?_
    refine V_ldc hC tw_1072 dX11_pathsBy_22 ?_
    refine V_icmp_ge (tgt := 58) hC dX11_pathsBy_24 (by decide) (fun b8 => ?_) (fun b8 => ?_)
    · replace h := h.1 b8
      refine V_iconst (v := 0) hC (by decide) dX11_pathsBy_58 ?_
      exact V_iret hC h dX11_pathsBy_59
    · replace h := h.2 b8
      refine V_aload_n hC rfl dX11_pathsBy_27 ?_
      refine gf_11_13 hC ht tw_830 dX11_pathsBy_28 ?_
      refine V_iload hC rfl dX11_pathsBy_31 ?_
      obtain ⟨q4, h⟩ := h
      refine V_iald hC (ok_11_13 ht) q4 dX11_pathsBy_33 ?_
      refine V_aload_n hC rfl dX11_pathsBy_34 ?_
      refine gf_11_18 hC ht tw_835 dX11_pathsBy_35 ?_
      refine V_iadd hC dX11_pathsBy_38 ?_
      refine V_aload_n hC rfl dX11_pathsBy_39 ?_
      refine gf_11_13 hC ht tw_830 dX11_pathsBy_40 ?_
      refine V_iload_n hC rfl dX11_pathsBy_43 ?_
      obtain ⟨q5, h⟩ := h
      refine V_iald hC (ok_11_13 ht) q5 dX11_pathsBy_44 ?_
      refine V_icmp_ne (tgt := 58) hC dX11_pathsBy_45 (by decide) (fun b7 => ?_) (fun b7 => ?_)
      · replace h := h.2 b7
        refine V_iconst (v := 0) hC (by decide) dX11_pathsBy_58 ?_
        exact V_iret hC h dX11_pathsBy_59
      · replace h := h.1 b7
        refine V_aload_n hC rfl dX11_pathsBy_48 ?_
        refine gf_11_15 hC ht tw_832 dX11_pathsBy_49 ?_
        refine V_iload hC rfl dX11_pathsBy_52 ?_
        obtain ⟨q6, h⟩ := h
        refine V_iald hC (ok_11_15 ht) q6 dX11_pathsBy_54 ?_
        refine V_goto (tgt := 59) hC (by decide) dX11_pathsBy_55 ?_
        exact V_iret hC h dX11_pathsBy_59
def f_Md_countPaths_39 (fu : Nat) (post : Int32 → Mm → Prop) (K31 : Nat → Int32 → Int32 → Int32 → Mm → Prop) : Nat → Nat → Int32 → Int32 → Int32 → Int32 → Mm → Prop
  | 0, _, _, _, _, _, _ => False
  | kf + 1, t, x1, x2, x3, x4, M =>
    ((6 ≤ x4) → ∀ y1, y1 = x3 + 1 → K31 t x1 x2 y1 M) ∧ (¬ (6 ≤ x4) → f_Md_pathsBy fu (fun r3 M2 => ∀ y4, y4 = (x2 + r3) → ∀ y5, y5 = x4 + 1 → f_Md_countPaths_39 fu post K31 kf t x1 y4 x3 y5 M2) t x1 x3 x4 M)
def f_Md_countPaths_99 (fu : Nat) (post : Int32 → Mm → Prop) (t : Nat) (x1 : Int32) (x2 : Int32) (kx0 : Int32) (M : Mm) : Prop :=
  vp_in x1 (ln (t + 7)) ∧ (∀ M2, M2 = up M (t + 7) x1.toNatClampNeg x2 → zb kx0 ∧ post kx0 M2)
def f_Md_countPaths_83 (fu : Nat) (post : Int32 → Mm → Prop) (t : Nat) (x1 : Int32) (kx0 : Int32) (M : Mm) : Prop :=
  vp_in x1 (ln (t + 7)) ∧ ((kx0 = (M (t + 7) x1.toNatClampNeg)) → f_Md_countPaths_99 fu post t x1 kx0 0 M) ∧ (¬ (kx0 = (M (t + 7) x1.toNatClampNeg)) → f_Md_countPaths_99 fu post t x1 kx0 1 M)
def f_Md_countPaths_31 (fu : Nat) (post : Int32 → Mm → Prop) : Nat → Nat → Int32 → Int32 → Int32 → Mm → Prop
  | 0, _, _, _, _, _ => False
  | kf + 1, t, x1, x2, x3, M =>
    ((3 < x3) → ((1001 ≤ x2) → f_Md_countPaths_83 fu post t x1 1001 M) ∧ (¬ (1001 ≤ x2) → f_Md_countPaths_83 fu post t x1 x2 M)) ∧ (¬ (3 < x3) → f_Md_countPaths_39 fu post (f_Md_countPaths_31 fu post kf) fu t x1 x2 x3 0 M)
def f_Md_countPaths_28 (fu : Nat) (post : Int32 → Mm → Prop) (t : Nat) (x1 : Int32) (kx0 : Int32) (M : Mm) : Prop :=
  f_Md_countPaths_31 fu post fu t x1 kx0 0 M
def f_Md_countPaths_27 (fu : Nat) (post : Int32 → Mm → Prop) (t : Nat) (x1 : Int32) (M : Mm) : Prop :=
  f_Md_countPaths_28 fu post t x1 0 M
def f_Md_countPaths (fu : Nat) (post : Int32 → Mm → Prop) (t : Nat) (x1 : Int32) (M : Mm) : Prop :=
  vp_in 56 (ln (t + 1)) ∧ (((x1 / 96) = (M (t + 1) 56)) → vp_in x1 (ln (t + 5)) ∧ (((M (t + 5) x1.toNatClampNeg) = 0) → f_Md_countPaths_28 fu post t x1 1 M) ∧ (¬ ((M (t + 5) x1.toNatClampNeg) = 0) → f_Md_countPaths_27 fu post t x1 M)) ∧ (¬ ((x1 / 96) = (M (t + 1) 56)) → f_Md_countPaths_27 fu post t x1 M)
set_option maxRecDepth 100000 in
theorem l_Md_countPaths_39 {l : Launch} {X : CX} {g : GX} {w : WX} {fu : Nat} {post : Int32 → Mm → Prop} (hX : X.2.1 = l) (hC : Cx X g cX11_countPaths 5 RX11 (some .boolean) 3) {K31 : Nat → Int32 → Int32 → Int32 → Mm → Prop} (hK31 : ∀ (t : Nat) (x1 : Int32) (x2 : Int32) (x3 : Int32) (M : Mm), ok w t 11 → K31 t x1 x2 x3 M → V X g w 5 0 0 (QI X g w (fun r M => zb r ∧ post r M) 0 0) 31 [some (ob g t), some (.int x1), some (.int x2), some (.int x3), none] [] M) : ∀ (kf : Nat) (t : Nat) (x1 : Int32) (x2 : Int32) (x3 : Int32) (x4 : Int32) (M : Mm) (ht : ok w t 11) (h : f_Md_countPaths_39 fu post K31 kf t x1 x2 x3 x4 M), V X g w 5 0 0 (QI X g w (fun r M => zb r ∧ post r M) 0 0) 39 [some (ob g t), some (.int x1), some (.int x2), some (.int x3), some (.int x4)] [] M := by
  intro kf
  induction kf with
  | zero => intro t x1 x2 x3 x4 M ht h; exact absurd h id
  | succ kf ih =>
    intro t x1 x2 x3 x4 M ht h
    rw [f_Md_countPaths_39] at h
    refine V_iload hC rfl dX11_countPaths_39 ?_
    refine V_bipush (v := 6) hC (by decide) dX11_countPaths_41 ?_
    refine V_icmp_ge (tgt := 63) hC dX11_countPaths_43 (by decide) (fun b6 => ?_) (fun b6 => ?_)
    · replace h := h.1 b6
      obtain ⟨y1, ey1⟩ : ∃ z, z = x3 + 1 := ⟨_, rfl⟩
      replace h := h y1 ey1
      refine V_iinc (v := y1) hC rfl (by rw [ey1]; rfl) (by decide) dX11_countPaths_63 ?_
      refine V_goto (tgt := 31) hC (by decide) dX11_countPaths_66 ?_
      refine V_sub (us := [some (ob g t), some (.int x1), some (.int x2), some (.int y1), none]) ⟨rfl, rfl, rfl, rfl, trivial⟩ ?_
      exact hK31 t x1 x2 y1 M ht h
    · replace h := h.2 b6
      refine V_iload_n hC rfl dX11_countPaths_46 ?_
      refine V_aload_n hC rfl dX11_countPaths_47 ?_
      refine V_iload_n hC rfl dX11_countPaths_48 ?_
      refine V_iload_n hC rfl dX11_countPaths_49 ?_
      refine V_iload hC rfl dX11_countPaths_50 ?_
      refine V_calli (As := [.int x1, .int x3, .int x4]) hC (c_Md_pathsBy X.2.1 g w fu _ t x1 x3 x4 M ht h) mw_X11_pathsBy (by decide) tw_1104 ht (by decide) rfl rfl rfl (Nat.le_of_ble_eq_true rfl) ⟨Nat.zero_le _, Nat.zero_le _⟩ dX11_countPaths_52 (fun r3 M2 h => ?_)
      refine V_iadd hC dX11_countPaths_55 ?_
      refine V_topi (fun y4 ey4 => ?_)
      replace h := h y4 ey4
      refine V_istore_n hC (by decide) dX11_countPaths_56 ?_
      obtain ⟨y5, ey5⟩ : ∃ z, z = x4 + 1 := ⟨_, rfl⟩
      replace h := h y5 ey5
      refine V_iinc (v := y5) hC rfl (by rw [ey5]; rfl) (by decide) dX11_countPaths_57 ?_
      refine V_goto (tgt := 39) hC (by decide) dX11_countPaths_60 ?_
      refine V_sub (us := [some (ob g t), some (.int x1), some (.int y4), some (.int x3), some (.int y5)]) ⟨rfl, rfl, rfl, rfl, rfl, trivial⟩ ?_
      exact ih t x1 y4 x3 y5 M2 ht h
set_option maxRecDepth 100000 in
theorem j_Md_countPaths_99 {l : Launch} {X : CX} {g : GX} {w : WX} {fu : Nat} {post : Int32 → Mm → Prop} (hX : X.2.1 = l) (hC : Cx X g cX11_countPaths 5 RX11 (some .boolean) 3) (t : Nat) (x1 : Int32) (x2 : Int32) (kx0 : Int32) {M : Mm} (ht : ok w t 11) (h : f_Md_countPaths_99 fu post t x1 x2 kx0 M) : V X g w 5 0 0 (QI X g w (fun r M => zb r ∧ post r M) 0 0) 99 [some (ob g t), some (.int x1), some (.int x2), none, none] [.int kx0] M := by
  unfold f_Md_countPaths_99 at h
  refine V_istore_n hC (by decide) dX11_countPaths_99 ?_
  refine V_aload_n hC rfl dX11_countPaths_100 ?_
  refine gf_11_15 hC ht tw_832 dX11_countPaths_101 ?_
  refine V_iload_n hC rfl dX11_countPaths_104 ?_
  refine V_iload_n hC rfl dX11_countPaths_105 ?_
  obtain ⟨q1, h⟩ := h
  refine V_iast hC (ok_11_15 ht) q1 dX11_countPaths_106 ?_
  obtain ⟨M2, eM2⟩ : ∃ z, z = up M (t + 7) x1.toNatClampNeg x2 := ⟨_, rfl⟩
  replace h := h M2 eM2
  refine V_mem eM2 ?_
  refine V_iload_n hC rfl dX11_countPaths_107 ?_
  exact V_zret hC h.1 h.2 dX11_countPaths_108
set_option maxRecDepth 100000 in
theorem j_Md_countPaths_83 {l : Launch} {X : CX} {g : GX} {w : WX} {fu : Nat} {post : Int32 → Mm → Prop} (hX : X.2.1 = l) (hC : Cx X g cX11_countPaths 5 RX11 (some .boolean) 3) (t : Nat) (x1 : Int32) (kx0 : Int32) {M : Mm} (ht : ok w t 11) (h : f_Md_countPaths_83 fu post t x1 kx0 M) : V X g w 5 0 0 (QI X g w (fun r M => zb r ∧ post r M) 0 0) 83 [some (ob g t), some (.int x1), none, none, none] [.int kx0] M := by
  unfold f_Md_countPaths_83 at h
  refine V_istore_n hC (by decide) dX11_countPaths_83 ?_
  refine V_iload_n hC rfl dX11_countPaths_84 ?_
  refine V_aload_n hC rfl dX11_countPaths_85 ?_
  refine gf_11_15 hC ht tw_832 dX11_countPaths_86 ?_
  refine V_iload_n hC rfl dX11_countPaths_89 ?_
  obtain ⟨q1, h⟩ := h
  refine V_iald hC (ok_11_15 ht) q1 dX11_countPaths_90 ?_
  refine V_icmp_eq (tgt := 98) hC dX11_countPaths_91 (by decide) (fun b2 => ?_) (fun b2 => ?_)
  · replace h := h.1 b2
    refine V_iconst (v := 0) hC (by decide) dX11_countPaths_98 ?_
    refine V_sub (us := [some (ob g t), some (.int x1), some (.int kx0), none, none]) ⟨rfl, rfl, rfl, trivial⟩ ?_
    exact j_Md_countPaths_99 hX hC t x1 kx0 0 ht h
  · replace h := h.2 b2
    refine V_iconst (v := 1) hC (by decide) dX11_countPaths_94 ?_
    refine V_goto (tgt := 99) hC (by decide) dX11_countPaths_95 ?_
    refine V_sub (us := [some (ob g t), some (.int x1), some (.int kx0), none, none]) ⟨rfl, rfl, rfl, trivial⟩ ?_
    exact j_Md_countPaths_99 hX hC t x1 kx0 1 ht h
set_option maxRecDepth 100000 in
theorem l_Md_countPaths_31 {l : Launch} {X : CX} {g : GX} {w : WX} {fu : Nat} {post : Int32 → Mm → Prop} (hX : X.2.1 = l) (hC : Cx X g cX11_countPaths 5 RX11 (some .boolean) 3) : ∀ (kf : Nat) (t : Nat) (x1 : Int32) (x2 : Int32) (x3 : Int32) (M : Mm) (ht : ok w t 11) (h : f_Md_countPaths_31 fu post kf t x1 x2 x3 M), V X g w 5 0 0 (QI X g w (fun r M => zb r ∧ post r M) 0 0) 31 [some (ob g t), some (.int x1), some (.int x2), some (.int x3), none] [] M := by
  intro kf
  induction kf with
  | zero => intro t x1 x2 x3 M ht h; exact absurd h id
  | succ kf ih =>
    intro t x1 x2 x3 M ht h
    rw [f_Md_countPaths_31] at h
    refine V_iload_n hC rfl dX11_countPaths_31 ?_
    refine V_iconst (v := 3) hC (by decide) dX11_countPaths_32 ?_
    refine V_icmp_gt (tgt := 69) hC dX11_countPaths_33 (by decide) (fun b2 => ?_) (fun b2 => ?_)
    · replace h := h.1 b2
      refine V_iload_n hC rfl dX11_countPaths_69 ?_
      refine V_sipush (v := 1001) hC (by decide) dX11_countPaths_70 ?_
      refine V_icmp_ge (tgt := 80) hC dX11_countPaths_73 (by decide) (fun b1 => ?_) (fun b1 => ?_)
      · replace h := h.1 b1
        refine V_sipush (v := 1001) hC (by decide) dX11_countPaths_80 ?_
        refine V_sub (us := [some (ob g t), some (.int x1), none, none, none]) ⟨rfl, rfl, trivial⟩ ?_
        exact j_Md_countPaths_83 hX hC t x1 1001 ht h
      · replace h := h.2 b1
        refine V_iload_n hC rfl dX11_countPaths_76 ?_
        refine V_goto (tgt := 83) hC (by decide) dX11_countPaths_77 ?_
        refine V_sub (us := [some (ob g t), some (.int x1), none, none, none]) ⟨rfl, rfl, trivial⟩ ?_
        exact j_Md_countPaths_83 hX hC t x1 x2 ht h
    · replace h := h.2 b2
      refine V_iconst (v := 0) hC (by decide) dX11_countPaths_36 ?_
      refine V_istore hC (by decide) dX11_countPaths_37 ?_
      refine V_sub (us := [some (ob g t), some (.int x1), some (.int x2), some (.int x3), some (.int 0)]) ⟨rfl, rfl, rfl, rfl, rfl, trivial⟩ ?_
      exact l_Md_countPaths_39 hX hC ih fu t x1 x2 x3 0 M ht h
set_option maxRecDepth 100000 in
theorem j_Md_countPaths_28 {l : Launch} {X : CX} {g : GX} {w : WX} {fu : Nat} {post : Int32 → Mm → Prop} (hX : X.2.1 = l) (hC : Cx X g cX11_countPaths 5 RX11 (some .boolean) 3) (t : Nat) (x1 : Int32) (kx0 : Int32) {M : Mm} (ht : ok w t 11) (h : f_Md_countPaths_28 fu post t x1 kx0 M) : V X g w 5 0 0 (QI X g w (fun r M => zb r ∧ post r M) 0 0) 28 [some (ob g t), some (.int x1), none, none, none] [.int kx0] M := by
  unfold f_Md_countPaths_28 at h
  refine V_istore_n hC (by decide) dX11_countPaths_28 ?_
  refine V_iconst (v := 0) hC (by decide) dX11_countPaths_29 ?_
  refine V_istore_n hC (by decide) dX11_countPaths_30 ?_
  refine V_sub (us := [some (ob g t), some (.int x1), some (.int kx0), some (.int 0), none]) ⟨rfl, rfl, rfl, rfl, trivial⟩ ?_
  exact l_Md_countPaths_31 hX hC fu t x1 kx0 0 M ht h
set_option maxRecDepth 100000 in
theorem j_Md_countPaths_27 {l : Launch} {X : CX} {g : GX} {w : WX} {fu : Nat} {post : Int32 → Mm → Prop} (hX : X.2.1 = l) (hC : Cx X g cX11_countPaths 5 RX11 (some .boolean) 3) (t : Nat) (x1 : Int32) {M : Mm} (ht : ok w t 11) (h : f_Md_countPaths_27 fu post t x1 M) : V X g w 5 0 0 (QI X g w (fun r M => zb r ∧ post r M) 0 0) 27 [some (ob g t), some (.int x1), none, none, none] [] M := by
  unfold f_Md_countPaths_27 at h
  refine V_iconst (v := 0) hC (by decide) dX11_countPaths_27 ?_
  refine V_sub (us := [some (ob g t), some (.int x1), none, none, none]) ⟨rfl, rfl, trivial⟩ ?_
  exact j_Md_countPaths_28 hX hC t x1 0 ht h
set_option maxRecDepth 100000 in
theorem c_Md_countPaths (l : Launch) (g : GX) (w : WX) (fu : Nat) (post : Int32 → Mm → Prop) (t : Nat) (x1 : Int32) (M : Mm) (ht : ok w t 11) (h : f_Md_countPaths fu post t x1 M) : Met l yX11_countPaths [Cond.code yX11_countPaths cX11_countPaths 5 (some .boolean)] (rmC 3 0 0) (va_Pc [ob g t, .int x1] (Wb g w M)) (va_Qi (fun r M => zb r ∧ post r M) (Wb g w) (Af g)) 0 0 (Af g) := by
  refine Ct_i (by decide) rfl (fun v hv => by simp only [List.mem_cons, List.not_mem_nil, or_false] at hv; rcases hv with rfl | rfl <;> rfl) (Nat.le_of_ble_eq_true rfl) (Nat.le_refl _) ?_
  intro X hX _ hC
  unfold f_Md_countPaths at h
  refine V_sub (us := [some (ob g t), some (.int x1), none, none, none]) ⟨rfl, rfl, trivial⟩ ?_
  refine V_iload_n hC rfl dX11_countPaths_0 ?_
  refine V_bipush (v := 96) hC (by decide) dX11_countPaths_1 ?_
  refine V_idiv hC (by decide) dX11_countPaths_3 ?_
  refine V_aload_n hC rfl dX11_countPaths_4 ?_
  refine gf_11_0 hC ht tw_817 dX11_countPaths_5 ?_
  refine V_bipush (v := 56) hC (by decide) dX11_countPaths_8 ?_
  obtain ⟨q1, h⟩ := h
  refine V_iaL (j := 56) (by decide) hC (ok_11_0 ht) q1 dX11_countPaths_10 ?_
  refine V_icmp_ne (tgt := 27) hC dX11_countPaths_11 (by decide) (fun b4 => ?_) (fun b4 => ?_)
  · replace h := h.2 b4
    refine V_sub (us := [some (ob g t), some (.int x1), none, none, none]) ⟨rfl, rfl, trivial⟩ ?_
    exact j_Md_countPaths_27 hX hC t x1 ht h
  · replace h := h.1 b4
    refine V_aload_n hC rfl dX11_countPaths_14 ?_
    refine gf_11_13 hC ht tw_830 dX11_countPaths_15 ?_
    refine V_iload_n hC rfl dX11_countPaths_18 ?_
    obtain ⟨q2, h⟩ := h
    refine V_iald hC (ok_11_13 ht) q2 dX11_countPaths_19 ?_
    refine V_if_ne (tgt := 27) hC dX11_countPaths_20 (by decide) (fun b3 => ?_) (fun b3 => ?_)
    · replace h := h.2 b3
      refine V_sub (us := [some (ob g t), some (.int x1), none, none, none]) ⟨rfl, rfl, trivial⟩ ?_
      exact j_Md_countPaths_27 hX hC t x1 ht h
    · replace h := h.1 b3
      refine V_iconst (v := 1) hC (by decide) dX11_countPaths_23 ?_
      refine V_goto (tgt := 28) hC (by decide) dX11_countPaths_24 ?_
      refine V_sub (us := [some (ob g t), some (.int x1), none, none, none]) ⟨rfl, rfl, trivial⟩ ?_
      exact j_Md_countPaths_28 hX hC t x1 1 ht h
def f_Md_findPaths_99 (fu : Nat) (post : Mm → Prop) (K57 : Nat → Int32 → Int32 → Int32 → Mm → Prop) (t : Nat) (x1 : Int32) (x3 : Int32) (kx0 : Int32) (M : Mm) : Prop :=
  ∀ y1, y1 = x3 + 1 → K57 t x1 kx0 y1 M
def f_Md_findPaths_94 (fu : Nat) (post : Mm → Prop) (K57 : Nat → Int32 → Int32 → Int32 → Mm → Prop) (t : Nat) (x1 : Int32) (x3 : Int32) (M : Mm) : Prop :=
  f_Md_findPaths_99 fu post K57 t x1 x3 1 M
def f_Md_findPaths_90 (fu : Nat) (post : Mm → Prop) (K57 : Nat → Int32 → Int32 → Int32 → Mm → Prop) (t : Nat) (x1 : Int32) (x2 : Int32) (x3 : Int32) (M : Mm) : Prop :=
  ((x2 = 0) → f_Md_findPaths_99 fu post K57 t x1 x3 0 M) ∧ (¬ (x2 = 0) → f_Md_findPaths_94 fu post K57 t x1 x3 M)
def f_Md_findPaths_57 (fu : Nat) (post : Mm → Prop) (K49 : Nat → Int32 → Int32 → Mm → Prop) : Nat → Nat → Int32 → Int32 → Int32 → Mm → Prop
  | 0, _, _, _, _, _ => False
  | kf + 1, t, x1, x2, x3, M =>
    vp_in 0 (ln (t + 1)) ∧ (((16 * (M (t + 1) 0)) ≤ x3) → K49 t x1 x2 M) ∧ (¬ ((16 * (M (t + 1) 0)) ≤ x3) → f_Md_isConfig fu (fun r3 M2 => ((r3 = 0) → f_Md_findPaths_90 fu post (f_Md_findPaths_57 fu post K49 kf) t x1 x2 x3 M2) ∧ (¬ (r3 = 0) → f_Md_countPaths fu (fun r5 M4 => ((r5 = 0) → f_Md_findPaths_90 fu post (f_Md_findPaths_57 fu post K49 kf) t x1 x2 x3 M4) ∧ (¬ (r5 = 0) → f_Md_findPaths_94 fu post (f_Md_findPaths_57 fu post K49 kf) t x1 x3 M4)) t ((96 * x1) + x3) M2)) x3 M)
def f_Md_findPaths_49 (fu : Nat) (post : Mm → Prop) (K43 : Nat → Int32 → Mm → Prop) : Nat → Nat → Int32 → Int32 → Mm → Prop
  | 0, _, _, _, _ => False
  | kf + 1, t, x1, x2, M =>
    ((x2 = 0) → ∀ y1, y1 = x1 + (-1) → K43 t y1 M) ∧ (¬ (x2 = 0) → f_Md_findPaths_57 fu post (f_Md_findPaths_49 fu post K43 kf) fu t x1 0 0 M)
def f_Md_findPaths_43 (fu : Nat) (post : Mm → Prop) : Nat → Nat → Int32 → Mm → Prop
  | 0, _, _, _ => False
  | kf + 1, t, x1, M =>
    ((x1 < 0) → post M) ∧ (¬ (x1 < 0) → f_Md_findPaths_49 fu post (f_Md_findPaths_43 fu post kf) fu t x1 1 M)
def f_Md_findPaths_6 (fu : Nat) (post : Mm → Prop) : Nat → Nat → Int32 → Mm → Prop
  | 0, _, _, _ => False
  | kf + 1, t, x1, M =>
    vp_in 56 (ln (t + 1)) ∧ (((96 * ((M (t + 1) 56) + 1)) ≤ x1) → vp_in 56 (ln (t + 1)) ∧ ∀ y3, y3 = (M (t + 1) 56) → f_Md_findPaths_43 fu post fu t y3 M) ∧ (¬ ((96 * ((M (t + 1) 56) + 1)) ≤ x1) → vp_in x1 (ln (t + 7)) ∧ (∀ M5, M5 = up M (t + 7) x1.toNatClampNeg 0 → ∀ y6, y6 = x1 + 1 → f_Md_findPaths_6 fu post kf t y6 M5))
def f_Md_findPaths (fu : Nat) (post : Mm → Prop) (t : Nat) (M : Mm) : Prop :=
  f_Md_findCosts fu (fun M1 => f_Md_findPaths_6 fu post fu t 0 M1) t M
set_option maxRecDepth 100000 in
theorem j_Md_findPaths_99 {l : Launch} {X : CX} {g : GX} {w : WX} {fu : Nat} {post : Mm → Prop} (hX : X.2.1 = l) (hC : Cx X g cX11_findPaths 4 RX11 (none) 4) {K57 : Nat → Int32 → Int32 → Int32 → Mm → Prop} (hK57 : ∀ (t : Nat) (x1 : Int32) (x2 : Int32) (x3 : Int32) (M : Mm), ok w t 11 → K57 t x1 x2 x3 M → V X g w 4 0 0 (QV X g w post 0 0) 57 [some (ob g t), some (.int x1), some (.int x2), some (.int x3)] [] M) (t : Nat) (x1 : Int32) (x3 : Int32) (kx0 : Int32) {M : Mm} (ht : ok w t 11) (h : f_Md_findPaths_99 fu post K57 t x1 x3 kx0 M) : V X g w 4 0 0 (QV X g w post 0 0) 99 [some (ob g t), some (.int x1), none, some (.int x3)] [.int kx0] M := by
  unfold f_Md_findPaths_99 at h
  refine V_istore_n hC (by decide) dX11_findPaths_99 ?_
  obtain ⟨y1, ey1⟩ : ∃ z, z = x3 + 1 := ⟨_, rfl⟩
  replace h := h y1 ey1
  refine V_iinc (v := y1) hC rfl (by rw [ey1]; rfl) (by decide) dX11_findPaths_100 ?_
  refine V_goto (tgt := 57) hC (by decide) dX11_findPaths_103 ?_
  refine V_sub (us := [some (ob g t), some (.int x1), some (.int kx0), some (.int y1)]) ⟨rfl, rfl, rfl, rfl, trivial⟩ ?_
  exact hK57 t x1 kx0 y1 M ht h
set_option maxRecDepth 100000 in
theorem j_Md_findPaths_94 {l : Launch} {X : CX} {g : GX} {w : WX} {fu : Nat} {post : Mm → Prop} (hX : X.2.1 = l) (hC : Cx X g cX11_findPaths 4 RX11 (none) 4) {K57 : Nat → Int32 → Int32 → Int32 → Mm → Prop} (hK57 : ∀ (t : Nat) (x1 : Int32) (x2 : Int32) (x3 : Int32) (M : Mm), ok w t 11 → K57 t x1 x2 x3 M → V X g w 4 0 0 (QV X g w post 0 0) 57 [some (ob g t), some (.int x1), some (.int x2), some (.int x3)] [] M) (t : Nat) (x1 : Int32) (x3 : Int32) {M : Mm} (ht : ok w t 11) (h : f_Md_findPaths_94 fu post K57 t x1 x3 M) : V X g w 4 0 0 (QV X g w post 0 0) 94 [some (ob g t), some (.int x1), none, some (.int x3)] [] M := by
  unfold f_Md_findPaths_94 at h
  refine V_iconst (v := 1) hC (by decide) dX11_findPaths_94 ?_
  refine V_goto (tgt := 99) hC (by decide) dX11_findPaths_95 ?_
  refine V_sub (us := [some (ob g t), some (.int x1), none, some (.int x3)]) ⟨rfl, rfl, rfl, trivial⟩ ?_
  exact j_Md_findPaths_99 hX hC hK57 t x1 x3 1 ht h
set_option maxRecDepth 100000 in
theorem j_Md_findPaths_90 {l : Launch} {X : CX} {g : GX} {w : WX} {fu : Nat} {post : Mm → Prop} (hX : X.2.1 = l) (hC : Cx X g cX11_findPaths 4 RX11 (none) 4) {K57 : Nat → Int32 → Int32 → Int32 → Mm → Prop} (hK57 : ∀ (t : Nat) (x1 : Int32) (x2 : Int32) (x3 : Int32) (M : Mm), ok w t 11 → K57 t x1 x2 x3 M → V X g w 4 0 0 (QV X g w post 0 0) 57 [some (ob g t), some (.int x1), some (.int x2), some (.int x3)] [] M) (t : Nat) (x1 : Int32) (x2 : Int32) (x3 : Int32) {M : Mm} (ht : ok w t 11) (h : f_Md_findPaths_90 fu post K57 t x1 x2 x3 M) : V X g w 4 0 0 (QV X g w post 0 0) 90 [some (ob g t), some (.int x1), some (.int x2), some (.int x3)] [] M := by
  unfold f_Md_findPaths_90 at h
  refine V_iload_n hC rfl dX11_findPaths_90 ?_
  refine V_if_eq (tgt := 98) hC dX11_findPaths_91 (by decide) (fun b1 => ?_) (fun b1 => ?_)
  · replace h := h.1 b1
    refine V_iconst (v := 0) hC (by decide) dX11_findPaths_98 ?_
    refine V_sub (us := [some (ob g t), some (.int x1), none, some (.int x3)]) ⟨rfl, rfl, rfl, trivial⟩ ?_
    exact j_Md_findPaths_99 hX hC hK57 t x1 x3 0 ht h
  · replace h := h.2 b1
    refine V_sub (us := [some (ob g t), some (.int x1), none, some (.int x3)]) ⟨rfl, rfl, rfl, trivial⟩ ?_
    exact j_Md_findPaths_94 hX hC hK57 t x1 x3 ht h
set_option maxRecDepth 100000 in
theorem l_Md_findPaths_57 {l : Launch} {X : CX} {g : GX} {w : WX} {fu : Nat} {post : Mm → Prop} (hX : X.2.1 = l) (hC : Cx X g cX11_findPaths 4 RX11 (none) 4) {K49 : Nat → Int32 → Int32 → Mm → Prop} (hK49 : ∀ (t : Nat) (x1 : Int32) (x2 : Int32) (M : Mm), ok w t 11 → K49 t x1 x2 M → V X g w 4 0 0 (QV X g w post 0 0) 49 [some (ob g t), some (.int x1), some (.int x2), none] [] M) : ∀ (kf : Nat) (t : Nat) (x1 : Int32) (x2 : Int32) (x3 : Int32) (M : Mm) (ht : ok w t 11) (h : f_Md_findPaths_57 fu post K49 kf t x1 x2 x3 M), V X g w 4 0 0 (QV X g w post 0 0) 57 [some (ob g t), some (.int x1), some (.int x2), some (.int x3)] [] M := by
  intro kf
  induction kf with
  | zero => intro t x1 x2 x3 M ht h; exact absurd h id
  | succ kf ih =>
    intro t x1 x2 x3 M ht h
    rw [f_Md_findPaths_57] at h
    refine V_iload_n hC rfl dX11_findPaths_57 ?_
    refine V_bipush (v := 16) hC (by decide) dX11_findPaths_58 ?_
    refine V_aload_n hC rfl dX11_findPaths_60 ?_
    refine gf_11_0 hC ht tw_817 dX11_findPaths_61 ?_
    refine V_iconst (v := 0) hC (by decide) dX11_findPaths_64 ?_
    obtain ⟨q1, h⟩ := h
    refine V_iaL (j := 0) (by decide) hC (ok_11_0 ht) q1 dX11_findPaths_65 ?_
    refine V_imul hC dX11_findPaths_66 ?_
    refine V_icmp_ge (tgt := 106) hC dX11_findPaths_67 (by decide) (fun b8 => ?_) (fun b8 => ?_)
    · replace h := h.1 b8
      refine V_goto (tgt := 49) hC (by decide) dX11_findPaths_106 ?_
      refine V_sub (us := [some (ob g t), some (.int x1), some (.int x2), none]) ⟨rfl, rfl, rfl, trivial⟩ ?_
      exact hK49 t x1 x2 M ht h
    · replace h := h.2 b8
      refine V_iload_n hC rfl dX11_findPaths_70 ?_
      refine V_scalli (As := [.int x3]) hC (c_Md_isConfig X.2.1 g w fu _ x3 M h) mw_X11_isConfig (by decide) tw_1073 rfl rfl (Nat.le_of_ble_eq_true rfl) ⟨Nat.zero_le _, Nat.zero_le _⟩ dX11_findPaths_71 (fun r3 M2 h => ?_)
      obtain ⟨hzr3, h⟩ := h
      refine V_if_eq (tgt := 90) hC dX11_findPaths_74 (by decide) (fun b7 => ?_) (fun b7 => ?_)
      · replace h := h.1 b7
        refine V_sub (us := [some (ob g t), some (.int x1), some (.int x2), some (.int x3)]) ⟨rfl, rfl, rfl, rfl, trivial⟩ ?_
        exact j_Md_findPaths_90 hX hC ih t x1 x2 x3 ht h
      · replace h := h.2 b7
        refine V_aload_n hC rfl dX11_findPaths_77 ?_
        refine V_bipush (v := 96) hC (by decide) dX11_findPaths_78 ?_
        refine V_iload_n hC rfl dX11_findPaths_80 ?_
        refine V_imul hC dX11_findPaths_81 ?_
        refine V_iload_n hC rfl dX11_findPaths_82 ?_
        refine V_iadd hC dX11_findPaths_83 ?_
        refine V_calli (As := [.int ((96 * x1) + x3)]) hC (c_Md_countPaths X.2.1 g w fu _ t ((96 * x1) + x3) M2 ht h) mw_X11_countPaths (by decide) tw_1100 ht (by decide) rfl rfl rfl (Nat.le_of_ble_eq_true rfl) ⟨Nat.zero_le _, Nat.zero_le _⟩ dX11_findPaths_84 (fun r5 M4 h => ?_)
        obtain ⟨hzr5, h⟩ := h
        refine V_if_ne (tgt := 94) hC dX11_findPaths_87 (by decide) (fun b6 => ?_) (fun b6 => ?_)
        · replace h := h.2 b6
          refine V_sub (us := [some (ob g t), some (.int x1), none, some (.int x3)]) ⟨rfl, rfl, rfl, trivial⟩ ?_
          exact j_Md_findPaths_94 hX hC ih t x1 x3 ht h
        · replace h := h.1 b6
          refine V_sub (us := [some (ob g t), some (.int x1), some (.int x2), some (.int x3)]) ⟨rfl, rfl, rfl, rfl, trivial⟩ ?_
          exact j_Md_findPaths_90 hX hC ih t x1 x2 x3 ht h
set_option maxRecDepth 100000 in
theorem l_Md_findPaths_49 {l : Launch} {X : CX} {g : GX} {w : WX} {fu : Nat} {post : Mm → Prop} (hX : X.2.1 = l) (hC : Cx X g cX11_findPaths 4 RX11 (none) 4) {K43 : Nat → Int32 → Mm → Prop} (hK43 : ∀ (t : Nat) (x1 : Int32) (M : Mm), ok w t 11 → K43 t x1 M → V X g w 4 0 0 (QV X g w post 0 0) 43 [some (ob g t), some (.int x1), none, none] [] M) : ∀ (kf : Nat) (t : Nat) (x1 : Int32) (x2 : Int32) (M : Mm) (ht : ok w t 11) (h : f_Md_findPaths_49 fu post K43 kf t x1 x2 M), V X g w 4 0 0 (QV X g w post 0 0) 49 [some (ob g t), some (.int x1), some (.int x2), none] [] M := by
  intro kf
  induction kf with
  | zero => intro t x1 x2 M ht h; exact absurd h id
  | succ kf ih =>
    intro t x1 x2 M ht h
    rw [f_Md_findPaths_49] at h
    refine V_iload_n hC rfl dX11_findPaths_49 ?_
    refine V_if_eq (tgt := 109) hC dX11_findPaths_50 (by decide) (fun b2 => ?_) (fun b2 => ?_)
    · replace h := h.1 b2
      obtain ⟨y1, ey1⟩ : ∃ z, z = x1 + (-1) := ⟨_, rfl⟩
      replace h := h y1 ey1
      refine V_iinc (v := y1) hC rfl (by rw [ey1]; rfl) (by decide) dX11_findPaths_109 ?_
      refine V_goto (tgt := 43) hC (by decide) dX11_findPaths_112 ?_
      refine V_sub (us := [some (ob g t), some (.int y1), none, none]) ⟨rfl, rfl, trivial⟩ ?_
      exact hK43 t y1 M ht h
    · replace h := h.2 b2
      refine V_iconst (v := 0) hC (by decide) dX11_findPaths_53 ?_
      refine V_istore_n hC (by decide) dX11_findPaths_54 ?_
      refine V_iconst (v := 0) hC (by decide) dX11_findPaths_55 ?_
      refine V_istore_n hC (by decide) dX11_findPaths_56 ?_
      refine V_sub (us := [some (ob g t), some (.int x1), some (.int 0), some (.int 0)]) ⟨rfl, rfl, rfl, rfl, trivial⟩ ?_
      exact l_Md_findPaths_57 hX hC ih fu t x1 0 0 M ht h
set_option maxRecDepth 100000 in
theorem l_Md_findPaths_43 {l : Launch} {X : CX} {g : GX} {w : WX} {fu : Nat} {post : Mm → Prop} (hX : X.2.1 = l) (hC : Cx X g cX11_findPaths 4 RX11 (none) 4) : ∀ (kf : Nat) (t : Nat) (x1 : Int32) (M : Mm) (ht : ok w t 11) (h : f_Md_findPaths_43 fu post kf t x1 M), V X g w 4 0 0 (QV X g w post 0 0) 43 [some (ob g t), some (.int x1), none, none] [] M := by
  intro kf
  induction kf with
  | zero => intro t x1 M ht h; exact absurd h id
  | succ kf ih =>
    intro t x1 M ht h
    rw [f_Md_findPaths_43] at h
    refine V_iload_n hC rfl dX11_findPaths_43 ?_
    refine V_if_lt (tgt := 115) hC dX11_findPaths_44 (by decide) (fun b1 => ?_) (fun b1 => ?_)
    · replace h := h.1 b1
      exact V_vret hC h dX11_findPaths_115
    · replace h := h.2 b1
      refine V_iconst (v := 1) hC (by decide) dX11_findPaths_47 ?_
      refine V_istore_n hC (by decide) dX11_findPaths_48 ?_
      refine V_sub (us := [some (ob g t), some (.int x1), some (.int 1), none]) ⟨rfl, rfl, rfl, trivial⟩ ?_
      exact l_Md_findPaths_49 hX hC ih fu t x1 1 M ht h
set_option maxRecDepth 100000 in
theorem l_Md_findPaths_6 {l : Launch} {X : CX} {g : GX} {w : WX} {fu : Nat} {post : Mm → Prop} (hX : X.2.1 = l) (hC : Cx X g cX11_findPaths 4 RX11 (none) 4) : ∀ (kf : Nat) (t : Nat) (x1 : Int32) (M : Mm) (ht : ok w t 11) (h : f_Md_findPaths_6 fu post kf t x1 M), V X g w 4 0 0 (QV X g w post 0 0) 6 [some (ob g t), some (.int x1), none, none] [] M := by
  intro kf
  induction kf with
  | zero => intro t x1 M ht h; exact absurd h id
  | succ kf ih =>
    intro t x1 M ht h
    rw [f_Md_findPaths_6] at h
    refine V_iload_n hC rfl dX11_findPaths_6 ?_
    refine V_bipush (v := 96) hC (by decide) dX11_findPaths_7 ?_
    refine V_aload_n hC rfl dX11_findPaths_9 ?_
    refine gf_11_0 hC ht tw_817 dX11_findPaths_10 ?_
    refine V_bipush (v := 56) hC (by decide) dX11_findPaths_13 ?_
    obtain ⟨q1, h⟩ := h
    refine V_iaL (j := 56) (by decide) hC (ok_11_0 ht) q1 dX11_findPaths_15 ?_
    refine V_iconst (v := 1) hC (by decide) dX11_findPaths_16 ?_
    refine V_iadd hC dX11_findPaths_17 ?_
    refine V_imul hC dX11_findPaths_18 ?_
    refine V_icmp_ge (tgt := 35) hC dX11_findPaths_19 (by decide) (fun b7 => ?_) (fun b7 => ?_)
    · replace h := h.1 b7
      refine V_aload_n hC rfl dX11_findPaths_35 ?_
      refine gf_11_0 hC ht tw_817 dX11_findPaths_36 ?_
      refine V_bipush (v := 56) hC (by decide) dX11_findPaths_39 ?_
      obtain ⟨q2, h⟩ := h
      refine V_iaL (j := 56) (by decide) hC (ok_11_0 ht) q2 dX11_findPaths_41 ?_
      refine V_topi (fun y3 ey3 => ?_)
      replace h := h y3 ey3
      refine V_istore_n hC (by decide) dX11_findPaths_42 ?_
      refine V_sub (us := [some (ob g t), some (.int y3), none, none]) ⟨rfl, rfl, trivial⟩ ?_
      exact l_Md_findPaths_43 hX hC fu t y3 M ht h
    · replace h := h.2 b7
      refine V_aload_n hC rfl dX11_findPaths_22 ?_
      refine gf_11_15 hC ht tw_832 dX11_findPaths_23 ?_
      refine V_iload_n hC rfl dX11_findPaths_26 ?_
      refine V_iconst (v := 0) hC (by decide) dX11_findPaths_27 ?_
      obtain ⟨q4, h⟩ := h
      refine V_iast hC (ok_11_15 ht) q4 dX11_findPaths_28 ?_
      obtain ⟨M5, eM5⟩ : ∃ z, z = up M (t + 7) x1.toNatClampNeg 0 := ⟨_, rfl⟩
      replace h := h M5 eM5
      refine V_mem eM5 ?_
      obtain ⟨y6, ey6⟩ : ∃ z, z = x1 + 1 := ⟨_, rfl⟩
      replace h := h y6 ey6
      refine V_iinc (v := y6) hC rfl (by rw [ey6]; rfl) (by decide) dX11_findPaths_29 ?_
      refine V_goto (tgt := 6) hC (by decide) dX11_findPaths_32 ?_
      refine V_sub (us := [some (ob g t), some (.int y6), none, none]) ⟨rfl, rfl, trivial⟩ ?_
      exact ih t y6 M5 ht h
set_option maxRecDepth 100000 in
theorem c_Md_findPaths (l : Launch) (g : GX) (w : WX) (fu : Nat) (post : Mm → Prop) (t : Nat) (M : Mm) (ht : ok w t 11) (h : f_Md_findPaths fu post t M) : Met l yX11_findPaths [Cond.code yX11_findPaths cX11_findPaths 4 (none)] (rmC 4 0 0) (va_Pc [ob g t] (Wb g w M)) (va_Qv post (Wb g w) (Af g)) 0 0 (Af g) := by
  refine Ct_v (by decide) rfl (fun v hv => by simp only [List.mem_cons, List.not_mem_nil, or_false] at hv; rcases hv with rfl <;> rfl) (Nat.le_of_ble_eq_true rfl) (Nat.le_refl _) ?_
  intro X hX _ hC
  unfold f_Md_findPaths at h
  refine V_sub (us := [some (ob g t), none, none, none]) ⟨rfl, trivial⟩ ?_
  refine V_aload_n hC rfl dX11_findPaths_0 ?_
  refine V_callv (As := []) hC (c_Md_findCosts X.2.1 g w fu _ t M ht h) mw_X11_findCosts (by decide) tw_1068 ht (by decide) rfl rfl rfl (Nat.le_of_ble_eq_true rfl) ⟨Nat.zero_le _, Nat.zero_le _⟩ dX11_findPaths_1 (fun M1 h => ?_)
  refine V_iconst (v := 0) hC (by decide) dX11_findPaths_4 ?_
  refine V_istore_n hC (by decide) dX11_findPaths_5 ?_
  refine V_sub (us := [some (ob g t), some (.int 0), none, none]) ⟨rfl, rfl, trivial⟩ ?_
  exact l_Md_findPaths_6 hX hC fu t 0 M1 ht h
def f_Md_repairCost (fu : Nat) (post : Int32 → Mm → Prop) (t : Nat) (M : Mm) : Prop :=
  f_Md_findCosts fu (fun M1 => vp_in 1 (ln (t + 5)) ∧ ((1000000 ≤ (M1 (t + 5) 1)) → post (-9) M1) ∧ (¬ (1000000 ≤ (M1 (t + 5) 1)) → vp_in 1 (ln (t + 5)) ∧ post (M1 (t + 5) 1) M1)) t M
set_option maxRecDepth 100000 in
theorem c_Md_repairCost (l : Launch) (g : GX) (w : WX) (fu : Nat) (post : Int32 → Mm → Prop) (t : Nat) (M : Mm) (ht : ok w t 11) (h : f_Md_repairCost fu post t M) : Met l yX11_repairCost [Cond.code yX11_repairCost cX11_repairCost 1 (some .int)] (rmC 4 0 0) (va_Pc [ob g t] (Wb g w M)) (va_Qi post (Wb g w) (Af g)) 0 0 (Af g) := by
  refine Ct_i (by decide) rfl (fun v hv => by simp only [List.mem_cons, List.not_mem_nil, or_false] at hv; rcases hv with rfl <;> rfl) (Nat.le_of_ble_eq_true rfl) (Nat.le_refl _) ?_
  intro X hX _ hC
  unfold f_Md_repairCost at h
  refine V_sub (us := [some (ob g t)]) ⟨rfl, trivial⟩ ?_
  refine V_aload_n hC rfl dX11_repairCost_0 ?_
  refine V_callv (As := []) hC (c_Md_findCosts X.2.1 g w fu _ t M ht h) mw_X11_findCosts (by decide) tw_1068 ht (by decide) rfl rfl rfl (Nat.le_of_ble_eq_true rfl) ⟨Nat.zero_le _, Nat.zero_le _⟩ dX11_repairCost_1 (fun M1 h => ?_)
  refine V_aload_n hC rfl dX11_repairCost_4 ?_
  refine gf_11_13 hC ht tw_830 dX11_repairCost_5 ?_
  refine V_iconst (v := 1) hC (by decide) dX11_repairCost_8 ?_
  obtain ⟨q2, h⟩ := h
  refine V_iaL (j := 1) (by decide) hC (ok_11_13 ht) q2 dX11_repairCost_9 ?_
  refine V_ldc hC tw_1072 dX11_repairCost_10 ?_
  refine V_icmp_ge (tgt := 24) hC dX11_repairCost_12 (by decide) (fun b4 => ?_) (fun b4 => ?_)
  · replace h := h.1 b4
    refine V_bipush (v := (-9)) hC (by decide) dX11_repairCost_24 ?_
    exact V_iret hC h dX11_repairCost_26
  · replace h := h.2 b4
    refine V_aload_n hC rfl dX11_repairCost_15 ?_
    refine gf_11_13 hC ht tw_830 dX11_repairCost_16 ?_
    refine V_iconst (v := 1) hC (by decide) dX11_repairCost_19 ?_
    obtain ⟨q3, h⟩ := h
    refine V_iaL (j := 1) (by decide) hC (ok_11_13 ht) q3 dX11_repairCost_20 ?_
    refine V_goto (tgt := 26) hC (by decide) dX11_repairCost_21 ?_
    exact V_iret hC h dX11_repairCost_26
def f_Md_repairCount (fu : Nat) (post : Int32 → Mm → Prop) (t : Nat) (M : Mm) : Prop :=
  f_Md_findPaths fu (fun M1 => vp_in 1 (ln (t + 7)) ∧ ((1001 ≤ (M1 (t + 7) 1)) → post 1000 M1) ∧ (¬ (1001 ≤ (M1 (t + 7) 1)) → vp_in 1 (ln (t + 7)) ∧ post (M1 (t + 7) 1) M1)) t M
set_option maxRecDepth 100000 in
theorem c_Md_repairCount (l : Launch) (g : GX) (w : WX) (fu : Nat) (post : Int32 → Mm → Prop) (t : Nat) (M : Mm) (ht : ok w t 11) (h : f_Md_repairCount fu post t M) : Met l yX11_repairCount [Cond.code yX11_repairCount cX11_repairCount 1 (some .int)] (rmC 5 0 0) (va_Pc [ob g t] (Wb g w M)) (va_Qi post (Wb g w) (Af g)) 0 0 (Af g) := by
  refine Ct_i (by decide) rfl (fun v hv => by simp only [List.mem_cons, List.not_mem_nil, or_false] at hv; rcases hv with rfl <;> rfl) (Nat.le_of_ble_eq_true rfl) (Nat.le_refl _) ?_
  intro X hX _ hC
  unfold f_Md_repairCount at h
  refine V_sub (us := [some (ob g t)]) ⟨rfl, trivial⟩ ?_
  refine V_aload_n hC rfl dX11_repairCount_0 ?_
  refine V_callv (As := []) hC (c_Md_findPaths X.2.1 g w fu _ t M ht h) mw_X11_findPaths (by decide) tw_1096 ht (by decide) rfl rfl rfl (Nat.le_of_ble_eq_true rfl) ⟨Nat.zero_le _, Nat.zero_le _⟩ dX11_repairCount_1 (fun M1 h => ?_)
  refine V_aload_n hC rfl dX11_repairCount_4 ?_
  refine gf_11_15 hC ht tw_832 dX11_repairCount_5 ?_
  refine V_iconst (v := 1) hC (by decide) dX11_repairCount_8 ?_
  obtain ⟨q2, h⟩ := h
  refine V_iaL (j := 1) (by decide) hC (ok_11_15 ht) q2 dX11_repairCount_9 ?_
  refine V_sipush (v := 1001) hC (by decide) dX11_repairCount_10 ?_
  refine V_icmp_ge (tgt := 25) hC dX11_repairCount_13 (by decide) (fun b4 => ?_) (fun b4 => ?_)
  · replace h := h.1 b4
    refine V_sipush (v := 1000) hC (by decide) dX11_repairCount_25 ?_
    exact V_iret hC h dX11_repairCount_28
  · replace h := h.2 b4
    refine V_aload_n hC rfl dX11_repairCount_16 ?_
    refine gf_11_15 hC ht tw_832 dX11_repairCount_17 ?_
    refine V_iconst (v := 1) hC (by decide) dX11_repairCount_20 ?_
    obtain ⟨q3, h⟩ := h
    refine V_iaL (j := 1) (by decide) hC (ok_11_15 ht) q3 dX11_repairCount_21 ?_
    refine V_goto (tgt := 28) hC (by decide) dX11_repairCount_22 ?_
    exact V_iret hC h dX11_repairCount_28
def f_Md_secondCost (fu : Nat) (post : Int32 → Mm → Prop) (t : Nat) (M : Mm) : Prop :=
  f_Md_findCosts fu (fun M1 => vp_in 1 (ln (t + 6)) ∧ ((1000000 ≤ (M1 (t + 6) 1)) → post (-9) M1) ∧ (¬ (1000000 ≤ (M1 (t + 6) 1)) → vp_in 1 (ln (t + 6)) ∧ post (M1 (t + 6) 1) M1)) t M
set_option maxRecDepth 100000 in
theorem c_Md_secondCost (l : Launch) (g : GX) (w : WX) (fu : Nat) (post : Int32 → Mm → Prop) (t : Nat) (M : Mm) (ht : ok w t 11) (h : f_Md_secondCost fu post t M) : Met l yX11_secondCost [Cond.code yX11_secondCost cX11_secondCost 1 (some .int)] (rmC 4 0 0) (va_Pc [ob g t] (Wb g w M)) (va_Qi post (Wb g w) (Af g)) 0 0 (Af g) := by
  refine Ct_i (by decide) rfl (fun v hv => by simp only [List.mem_cons, List.not_mem_nil, or_false] at hv; rcases hv with rfl <;> rfl) (Nat.le_of_ble_eq_true rfl) (Nat.le_refl _) ?_
  intro X hX _ hC
  unfold f_Md_secondCost at h
  refine V_sub (us := [some (ob g t)]) ⟨rfl, trivial⟩ ?_
  refine V_aload_n hC rfl dX11_secondCost_0 ?_
  refine V_callv (As := []) hC (c_Md_findCosts X.2.1 g w fu _ t M ht h) mw_X11_findCosts (by decide) tw_1068 ht (by decide) rfl rfl rfl (Nat.le_of_ble_eq_true rfl) ⟨Nat.zero_le _, Nat.zero_le _⟩ dX11_secondCost_1 (fun M1 h => ?_)
  refine V_aload_n hC rfl dX11_secondCost_4 ?_
  refine gf_11_14 hC ht tw_831 dX11_secondCost_5 ?_
  refine V_iconst (v := 1) hC (by decide) dX11_secondCost_8 ?_
  obtain ⟨q2, h⟩ := h
  refine V_iaL (j := 1) (by decide) hC (ok_11_14 ht) q2 dX11_secondCost_9 ?_
  refine V_ldc hC tw_1072 dX11_secondCost_10 ?_
  refine V_icmp_ge (tgt := 24) hC dX11_secondCost_12 (by decide) (fun b4 => ?_) (fun b4 => ?_)
  · replace h := h.1 b4
    refine V_bipush (v := (-9)) hC (by decide) dX11_secondCost_24 ?_
    exact V_iret hC h dX11_secondCost_26
  · replace h := h.2 b4
    refine V_aload_n hC rfl dX11_secondCost_15 ?_
    refine gf_11_14 hC ht tw_831 dX11_secondCost_16 ?_
    refine V_iconst (v := 1) hC (by decide) dX11_secondCost_19 ?_
    obtain ⟨q3, h⟩ := h
    refine V_iaL (j := 1) (by decide) hC (ok_11_14 ht) q3 dX11_secondCost_20 ?_
    refine V_goto (tgt := 26) hC (by decide) dX11_secondCost_21 ?_
    exact V_iret hC h dX11_secondCost_26
def f_Md_append (fu : Nat) (post : Mm → Prop) (t : Nat) (x1 : Int32) (x2 : Int32) (M : Mm) : Prop :=
  vp_in (M t 21) (ln (t + 8)) ∧ (∀ M2, M2 = up M (t + 8) (M t 21).toNatClampNeg x1 → vp_in (M2 t 21) (ln (t + 9)) ∧ (∀ M4, M4 = up M2 (t + 9) (M2 t 21).toNatClampNeg x2 → ∀ M5, M5 = up M4 t 21 ((M4 t 21) + 1) → post M5))
set_option maxRecDepth 100000 in
theorem c_Md_append (l : Launch) (g : GX) (w : WX) (fu : Nat) (post : Mm → Prop) (t : Nat) (x1 : Int32) (x2 : Int32) (M : Mm) (ht : ok w t 11) (h : f_Md_append fu post t x1 x2 M) : Met l yX11_append [Cond.code yX11_append cX11_append 3 (none)] (rmC 0 0 0) (va_Pc [ob g t, .int x1, .int x2] (Wb g w M)) (va_Qv post (Wb g w) (Af g)) 0 0 (Af g) := by
  refine Ct_v (by decide) rfl (fun v hv => by simp only [List.mem_cons, List.not_mem_nil, or_false] at hv; rcases hv with rfl | rfl | rfl <;> rfl) (Nat.le_of_ble_eq_true rfl) (Nat.le_refl _) ?_
  intro X hX _ hC
  unfold f_Md_append at h
  refine V_sub (us := [some (ob g t), some (.int x1), some (.int x2)]) ⟨rfl, rfl, rfl, trivial⟩ ?_
  refine V_aload_n hC rfl dX11_append_0 ?_
  refine gf_11_19 hC ht tw_836 dX11_append_1 ?_
  refine V_aload_n hC rfl dX11_append_4 ?_
  refine gf_11_21 hC ht tw_838 dX11_append_5 ?_
  refine V_iload_n hC rfl dX11_append_8 ?_
  obtain ⟨q1, h⟩ := h
  refine V_iast hC (ok_11_19 ht) q1 dX11_append_9 ?_
  obtain ⟨M2, eM2⟩ : ∃ z, z = up M (t + 8) (M t 21).toNatClampNeg x1 := ⟨_, rfl⟩
  replace h := h M2 eM2
  refine V_mem eM2 ?_
  refine V_aload_n hC rfl dX11_append_10 ?_
  refine gf_11_20 hC ht tw_837 dX11_append_11 ?_
  refine V_aload_n hC rfl dX11_append_14 ?_
  refine gf_11_21 hC ht tw_838 dX11_append_15 ?_
  refine V_iload_n hC rfl dX11_append_18 ?_
  obtain ⟨q3, h⟩ := h
  refine V_iast hC (ok_11_20 ht) q3 dX11_append_19 ?_
  obtain ⟨M4, eM4⟩ : ∃ z, z = up M2 (t + 9) (M2 t 21).toNatClampNeg x2 := ⟨_, rfl⟩
  replace h := h M4 eM4
  refine V_mem eM4 ?_
  refine V_aload_n hC rfl dX11_append_20 ?_
  refine V_dup hC rfl dX11_append_21 ?_
  refine gf_11_21 hC ht tw_838 dX11_append_22 ?_
  refine V_iconst (v := 1) hC (by decide) dX11_append_25 ?_
  refine V_iadd hC dX11_append_26 ?_
  refine pf_11_21 hC ht tw_838 dX11_append_27 ?_
  obtain ⟨M5, eM5⟩ : ∃ z, z = up M4 t 21 ((M4 t 21) + 1) := ⟨_, rfl⟩
  replace h := h M5 eM5
  refine V_mem eM5 ?_
  exact V_vret hC h dX11_append_30
def f_Md_follow_9 (fu : Nat) (post : Int32 → Mm → Prop) (K2 : Nat → Int32 → Int32 → Mm → Prop) : Nat → Nat → Int32 → Int32 → Int32 → Mm → Prop
  | 0, _, _, _, _, _ => False
  | kf + 1, t, x1, x2, x3, M =>
    ((6 ≤ x3) → ∀ y1, y1 = x2 + 1 → K2 t x1 y1 M) ∧ (¬ (6 ≤ x3) → f_Md_pathsBy fu (fun r3 M2 => ((r3 ≤ (M2 t 22)) → ∀ M4, M4 = up M2 t 22 ((M2 t 22) - r3) → ∀ y5, y5 = x3 + 1 → f_Md_follow_9 fu post K2 kf t x1 x2 y5 M4) ∧ (¬ (r3 ≤ (M2 t 22)) → f_Md_append fu (fun M6 => f_Md_edge fu (fun r8 M7 => post r8 M7) t x1 x2 x3 M6) t x2 x3 M2)) t x1 x2 x3 M)
def f_Md_follow_2 (fu : Nat) (post : Int32 → Mm → Prop) : Nat → Nat → Int32 → Int32 → Mm → Prop
  | 0, _, _, _, _ => False
  | kf + 1, t, x1, x2, M =>
    ((3 < x2) → post (-9) M) ∧ (¬ (3 < x2) → f_Md_follow_9 fu post (f_Md_follow_2 fu post kf) fu t x1 x2 0 M)
def f_Md_follow (fu : Nat) (post : Int32 → Mm → Prop) (t : Nat) (x1 : Int32) (M : Mm) : Prop :=
  f_Md_follow_2 fu post fu t x1 0 M
set_option maxRecDepth 100000 in
theorem l_Md_follow_9 {l : Launch} {X : CX} {g : GX} {w : WX} {fu : Nat} {post : Int32 → Mm → Prop} (hX : X.2.1 = l) (hC : Cx X g cX11_follow 5 RX11 (some .int) 3) {K2 : Nat → Int32 → Int32 → Mm → Prop} (hK2 : ∀ (t : Nat) (x1 : Int32) (x2 : Int32) (M : Mm), ok w t 11 → K2 t x1 x2 M → V X g w 5 0 0 (QI X g w post 0 0) 2 [some (ob g t), some (.int x1), some (.int x2), none, none] [] M) : ∀ (kf : Nat) (t : Nat) (x1 : Int32) (x2 : Int32) (x3 : Int32) (M : Mm) (ht : ok w t 11) (h : f_Md_follow_9 fu post K2 kf t x1 x2 x3 M), V X g w 5 0 0 (QI X g w post 0 0) 9 [some (ob g t), some (.int x1), some (.int x2), some (.int x3), none] [] M := by
  intro kf
  induction kf with
  | zero => intro t x1 x2 x3 M ht h; exact absurd h id
  | succ kf ih =>
    intro t x1 x2 x3 M ht h
    rw [f_Md_follow_9] at h
    refine V_iload_n hC rfl dX11_follow_9 ?_
    refine V_bipush (v := 6) hC (by decide) dX11_follow_10 ?_
    refine V_icmp_ge (tgt := 64) hC dX11_follow_12 (by decide) (fun b10 => ?_) (fun b10 => ?_)
    · replace h := h.1 b10
      obtain ⟨y1, ey1⟩ : ∃ z, z = x2 + 1 := ⟨_, rfl⟩
      replace h := h y1 ey1
      refine V_iinc (v := y1) hC rfl (by rw [ey1]; rfl) (by decide) dX11_follow_64 ?_
      refine V_goto (tgt := 2) hC (by decide) dX11_follow_67 ?_
      refine V_sub (us := [some (ob g t), some (.int x1), some (.int y1), none, none]) ⟨rfl, rfl, rfl, trivial⟩ ?_
      exact hK2 t x1 y1 M ht h
    · replace h := h.2 b10
      refine V_aload_n hC rfl dX11_follow_15 ?_
      refine V_iload_n hC rfl dX11_follow_16 ?_
      refine V_iload_n hC rfl dX11_follow_17 ?_
      refine V_iload_n hC rfl dX11_follow_18 ?_
      refine V_calli (As := [.int x1, .int x2, .int x3]) hC (c_Md_pathsBy X.2.1 g w fu _ t x1 x2 x3 M ht h) mw_X11_pathsBy (by decide) tw_1104 ht (by decide) rfl rfl rfl (Nat.le_of_ble_eq_true rfl) ⟨Nat.zero_le _, Nat.zero_le _⟩ dX11_follow_19 (fun r3 M2 h => ?_)
      refine V_istore hC (by decide) dX11_follow_22 ?_
      refine V_aload_n hC rfl dX11_follow_24 ?_
      refine gf_11_22 hC ht tw_839 dX11_follow_25 ?_
      refine V_iload hC rfl dX11_follow_28 ?_
      refine V_icmp_ge (tgt := 47) hC dX11_follow_30 (by decide) (fun b9 => ?_) (fun b9 => ?_)
      · replace h := h.1 b9
        refine V_aload_n hC rfl dX11_follow_47 ?_
        refine V_dup hC rfl dX11_follow_48 ?_
        refine gf_11_22 hC ht tw_839 dX11_follow_49 ?_
        refine V_iload hC rfl dX11_follow_52 ?_
        refine V_isub hC dX11_follow_54 ?_
        refine pf_11_22 hC ht tw_839 dX11_follow_55 ?_
        obtain ⟨M4, eM4⟩ : ∃ z, z = up M2 t 22 ((M2 t 22) - r3) := ⟨_, rfl⟩
        replace h := h M4 eM4
        refine V_mem eM4 ?_
        obtain ⟨y5, ey5⟩ : ∃ z, z = x3 + 1 := ⟨_, rfl⟩
        replace h := h y5 ey5
        refine V_iinc (v := y5) hC rfl (by rw [ey5]; rfl) (by decide) dX11_follow_58 ?_
        refine V_goto (tgt := 9) hC (by decide) dX11_follow_61 ?_
        refine V_sub (us := [some (ob g t), some (.int x1), some (.int x2), some (.int y5), none]) ⟨rfl, rfl, rfl, rfl, trivial⟩ ?_
        exact ih t x1 x2 y5 M4 ht h
      · replace h := h.2 b9
        refine V_aload_n hC rfl dX11_follow_33 ?_
        refine V_iload_n hC rfl dX11_follow_34 ?_
        refine V_iload_n hC rfl dX11_follow_35 ?_
        refine V_callv (As := [.int x2, .int x3]) hC (c_Md_append X.2.1 g w fu _ t x2 x3 M2 ht h) mw_X11_append (by decide) tw_1124 ht (by decide) rfl rfl rfl (Nat.le_of_ble_eq_true rfl) ⟨Nat.zero_le _, Nat.zero_le _⟩ dX11_follow_36 (fun M6 h => ?_)
        refine V_aload_n hC rfl dX11_follow_39 ?_
        refine V_iload_n hC rfl dX11_follow_40 ?_
        refine V_iload_n hC rfl dX11_follow_41 ?_
        refine V_iload_n hC rfl dX11_follow_42 ?_
        refine V_calli (As := [.int x1, .int x2, .int x3]) hC (c_Md_edge X.2.1 g w fu _ t x1 x2 x3 M6 ht h) mw_X11_edge (by decide) tw_1084 ht (by decide) rfl rfl rfl (Nat.le_of_ble_eq_true rfl) ⟨Nat.zero_le _, Nat.zero_le _⟩ dX11_follow_43 (fun r8 M7 h => ?_)
        exact V_iret hC h dX11_follow_46
set_option maxRecDepth 100000 in
theorem l_Md_follow_2 {l : Launch} {X : CX} {g : GX} {w : WX} {fu : Nat} {post : Int32 → Mm → Prop} (hX : X.2.1 = l) (hC : Cx X g cX11_follow 5 RX11 (some .int) 3) : ∀ (kf : Nat) (t : Nat) (x1 : Int32) (x2 : Int32) (M : Mm) (ht : ok w t 11) (h : f_Md_follow_2 fu post kf t x1 x2 M), V X g w 5 0 0 (QI X g w post 0 0) 2 [some (ob g t), some (.int x1), some (.int x2), none, none] [] M := by
  intro kf
  induction kf with
  | zero => intro t x1 x2 M ht h; exact absurd h id
  | succ kf ih =>
    intro t x1 x2 M ht h
    rw [f_Md_follow_2] at h
    refine V_iload_n hC rfl dX11_follow_2 ?_
    refine V_iconst (v := 3) hC (by decide) dX11_follow_3 ?_
    refine V_icmp_gt (tgt := 70) hC dX11_follow_4 (by decide) (fun b1 => ?_) (fun b1 => ?_)
    · replace h := h.1 b1
      refine V_bipush (v := (-9)) hC (by decide) dX11_follow_70 ?_
      exact V_iret hC h dX11_follow_72
    · replace h := h.2 b1
      refine V_iconst (v := 0) hC (by decide) dX11_follow_7 ?_
      refine V_istore_n hC (by decide) dX11_follow_8 ?_
      refine V_sub (us := [some (ob g t), some (.int x1), some (.int x2), some (.int 0), none]) ⟨rfl, rfl, rfl, rfl, trivial⟩ ?_
      exact l_Md_follow_9 hX hC ih fu t x1 x2 0 M ht h
set_option maxRecDepth 100000 in
theorem c_Md_follow (l : Launch) (g : GX) (w : WX) (fu : Nat) (post : Int32 → Mm → Prop) (t : Nat) (x1 : Int32) (M : Mm) (ht : ok w t 11) (h : f_Md_follow fu post t x1 M) : Met l yX11_follow [Cond.code yX11_follow cX11_follow 5 (some .int)] (rmC 3 0 0) (va_Pc [ob g t, .int x1] (Wb g w M)) (va_Qi post (Wb g w) (Af g)) 0 0 (Af g) := by
  refine Ct_i (by decide) rfl (fun v hv => by simp only [List.mem_cons, List.not_mem_nil, or_false] at hv; rcases hv with rfl | rfl <;> rfl) (Nat.le_of_ble_eq_true rfl) (Nat.le_refl _) ?_
  intro X hX _ hC
  unfold f_Md_follow at h
  refine V_sub (us := [some (ob g t), some (.int x1), none, none, none]) ⟨rfl, rfl, trivial⟩ ?_
  refine V_iconst (v := 0) hC (by decide) dX11_follow_0 ?_
  refine V_istore_n hC (by decide) dX11_follow_1 ?_
  refine V_sub (us := [some (ob g t), some (.int x1), some (.int 0), none, none]) ⟨rfl, rfl, rfl, trivial⟩ ?_
  exact l_Md_follow_2 hX hC fu t x1 0 M ht h
def f_Md_findScript_64 (fu : Nat) (post : Int32 → Mm → Prop) (K41 : Nat → Int32 → Mm → Prop) (t : Nat) (x2 : Int32) (M : Mm) : Prop :=
  f_Md_follow fu (fun r2 M1 => K41 t r2 M1) t x2 M
def f_Md_findScript_41 (fu : Nat) (post : Int32 → Mm → Prop) : Nat → Nat → Int32 → Mm → Prop
  | 0, _, _, _ => False
  | kf + 1, t, x2, M =>
    vp_in 56 (ln (t + 1)) ∧ (((x2 / 96) < (M (t + 1) 56)) → f_Md_findScript_64 fu post (f_Md_findScript_41 fu post kf) t x2 M) ∧ (¬ ((x2 / 96) < (M (t + 1) 56)) → vp_in x2 (ln (t + 5)) ∧ (((M (t + 5) x2.toNatClampNeg) ≤ 0) → post 0 M) ∧ (¬ ((M (t + 5) x2.toNatClampNeg) ≤ 0) → f_Md_findScript_64 fu post (f_Md_findScript_41 fu post kf) t x2 M))
def f_Md_findScript (fu : Nat) (post : Int32 → Mm → Prop) (t : Nat) (x1 : Int32) (M : Mm) : Prop :=
  f_Md_in fu (fun r2 M1 => ((r2 = 0) → post (-1) M1) ∧ (¬ (r2 = 0) → f_Md_findPaths fu (fun M3 => vp_in 1 (ln (t + 7)) ∧ ((x1 < (M3 (t + 7) 1)) → ∀ M5, M5 = up M3 t 21 0 → ∀ M6, M6 = up M5 t 22 x1 → f_Md_findScript_41 fu post fu t 1 M6) ∧ (¬ (x1 < (M3 (t + 7) 1)) → post (-2) M3)) t M1)) x1 0 7 M
set_option maxRecDepth 100000 in
theorem j_Md_findScript_64 {l : Launch} {X : CX} {g : GX} {w : WX} {fu : Nat} {post : Int32 → Mm → Prop} (hX : X.2.1 = l) (hC : Cx X g cX11_findScript 3 RX11 (some .int) 5) {K41 : Nat → Int32 → Mm → Prop} (hK41 : ∀ (t : Nat) (x2 : Int32) (M : Mm), ok w t 11 → K41 t x2 M → V X g w 3 0 0 (QI X g w post 0 0) 41 [some (ob g t), none, some (.int x2)] [] M) (t : Nat) (x2 : Int32) {M : Mm} (ht : ok w t 11) (h : f_Md_findScript_64 fu post K41 t x2 M) : V X g w 3 0 0 (QI X g w post 0 0) 64 [some (ob g t), none, some (.int x2)] [] M := by
  unfold f_Md_findScript_64 at h
  refine V_aload_n hC rfl dX11_findScript_64 ?_
  refine V_iload_n hC rfl dX11_findScript_65 ?_
  refine V_calli (As := [.int x2]) hC (c_Md_follow X.2.1 g w fu _ t x2 M ht h) mw_X11_follow (by decide) tw_1120 ht (by decide) rfl rfl rfl (Nat.le_of_ble_eq_true rfl) ⟨Nat.zero_le _, Nat.zero_le _⟩ dX11_findScript_66 (fun r2 M1 h => ?_)
  refine V_istore_n hC (by decide) dX11_findScript_69 ?_
  refine V_goto (tgt := 41) hC (by decide) dX11_findScript_70 ?_
  refine V_sub (us := [some (ob g t), none, some (.int r2)]) ⟨rfl, rfl, trivial⟩ ?_
  exact hK41 t r2 M1 ht h
set_option maxRecDepth 100000 in
theorem l_Md_findScript_41 {l : Launch} {X : CX} {g : GX} {w : WX} {fu : Nat} {post : Int32 → Mm → Prop} (hX : X.2.1 = l) (hC : Cx X g cX11_findScript 3 RX11 (some .int) 5) : ∀ (kf : Nat) (t : Nat) (x2 : Int32) (M : Mm) (ht : ok w t 11) (h : f_Md_findScript_41 fu post kf t x2 M), V X g w 3 0 0 (QI X g w post 0 0) 41 [some (ob g t), none, some (.int x2)] [] M := by
  intro kf
  induction kf with
  | zero => intro t x2 M ht h; exact absurd h id
  | succ kf ih =>
    intro t x2 M ht h
    rw [f_Md_findScript_41] at h
    refine V_iload_n hC rfl dX11_findScript_41 ?_
    refine V_bipush (v := 96) hC (by decide) dX11_findScript_42 ?_
    refine V_idiv hC (by decide) dX11_findScript_44 ?_
    refine V_aload_n hC rfl dX11_findScript_45 ?_
    refine gf_11_0 hC ht tw_817 dX11_findScript_46 ?_
    refine V_bipush (v := 56) hC (by decide) dX11_findScript_49 ?_
    obtain ⟨q1, h⟩ := h
    refine V_iaL (j := 56) (by decide) hC (ok_11_0 ht) q1 dX11_findScript_51 ?_
    refine V_icmp_lt (tgt := 64) hC dX11_findScript_52 (by decide) (fun b4 => ?_) (fun b4 => ?_)
    · replace h := h.1 b4
      refine V_sub (us := [some (ob g t), none, some (.int x2)]) ⟨rfl, rfl, trivial⟩ ?_
      exact j_Md_findScript_64 hX hC ih t x2 ht h
    · replace h := h.2 b4
      refine V_aload_n hC rfl dX11_findScript_55 ?_
      refine gf_11_13 hC ht tw_830 dX11_findScript_56 ?_
      refine V_iload_n hC rfl dX11_findScript_59 ?_
      obtain ⟨q2, h⟩ := h
      refine V_iald hC (ok_11_13 ht) q2 dX11_findScript_60 ?_
      refine V_if_le (tgt := 73) hC dX11_findScript_61 (by decide) (fun b3 => ?_) (fun b3 => ?_)
      · replace h := h.1 b3
        refine V_iconst (v := 0) hC (by decide) dX11_findScript_73 ?_
        exact V_iret hC h dX11_findScript_74
      · replace h := h.2 b3
        refine V_sub (us := [some (ob g t), none, some (.int x2)]) ⟨rfl, rfl, trivial⟩ ?_
        exact j_Md_findScript_64 hX hC ih t x2 ht h
set_option maxRecDepth 100000 in
theorem c_Md_findScript (l : Launch) (g : GX) (w : WX) (fu : Nat) (post : Int32 → Mm → Prop) (t : Nat) (x1 : Int32) (M : Mm) (ht : ok w t 11) (h : f_Md_findScript fu post t x1 M) : Met l yX11_findScript [Cond.code yX11_findScript cX11_findScript 3 (some .int)] (rmC 5 0 0) (va_Pc [ob g t, .int x1] (Wb g w M)) (va_Qi post (Wb g w) (Af g)) 0 0 (Af g) := by
  refine Ct_i (by decide) rfl (fun v hv => by simp only [List.mem_cons, List.not_mem_nil, or_false] at hv; rcases hv with rfl | rfl <;> rfl) (Nat.le_of_ble_eq_true rfl) (Nat.le_refl _) ?_
  intro X hX _ hC
  unfold f_Md_findScript at h
  refine V_sub (us := [some (ob g t), some (.int x1), none]) ⟨rfl, rfl, trivial⟩ ?_
  refine V_iload_n hC rfl dX11_findScript_0 ?_
  refine V_iconst (v := 0) hC (by decide) dX11_findScript_1 ?_
  refine V_bipush (v := 7) hC (by decide) dX11_findScript_2 ?_
  refine V_scalli (As := [.int x1, .int 0, .int 7]) hC (c_Md_in X.2.1 g w fu _ x1 0 7 M h) mw_X11_in (by decide) tw_894 rfl rfl (Nat.le_of_ble_eq_true rfl) ⟨Nat.zero_le _, Nat.zero_le _⟩ dX11_findScript_4 (fun r2 M1 h => ?_)
  obtain ⟨hzr2, h⟩ := h
  refine V_if_ne (tgt := 12) hC dX11_findScript_7 (by decide) (fun b8 => ?_) (fun b8 => ?_)
  · replace h := h.2 b8
    refine V_aload_n hC rfl dX11_findScript_12 ?_
    refine V_callv (As := []) hC (c_Md_findPaths X.2.1 g w fu _ t M1 ht h) mw_X11_findPaths (by decide) tw_1096 ht (by decide) rfl rfl rfl (Nat.le_of_ble_eq_true rfl) ⟨Nat.zero_le _, Nat.zero_le _⟩ dX11_findScript_13 (fun M3 h => ?_)
    refine V_iload_n hC rfl dX11_findScript_16 ?_
    refine V_aload_n hC rfl dX11_findScript_17 ?_
    refine gf_11_15 hC ht tw_832 dX11_findScript_18 ?_
    refine V_iconst (v := 1) hC (by decide) dX11_findScript_21 ?_
    obtain ⟨q4, h⟩ := h
    refine V_iaL (j := 1) (by decide) hC (ok_11_15 ht) q4 dX11_findScript_22 ?_
    refine V_icmp_lt (tgt := 29) hC dX11_findScript_23 (by decide) (fun b7 => ?_) (fun b7 => ?_)
    · replace h := h.1 b7
      refine V_aload_n hC rfl dX11_findScript_29 ?_
      refine V_iconst (v := 0) hC (by decide) dX11_findScript_30 ?_
      refine pf_11_21 hC ht tw_838 dX11_findScript_31 ?_
      obtain ⟨M5, eM5⟩ : ∃ z, z = up M3 t 21 0 := ⟨_, rfl⟩
      replace h := h M5 eM5
      refine V_mem eM5 ?_
      refine V_aload_n hC rfl dX11_findScript_34 ?_
      refine V_iload_n hC rfl dX11_findScript_35 ?_
      refine pf_11_22 hC ht tw_839 dX11_findScript_36 ?_
      obtain ⟨M6, eM6⟩ : ∃ z, z = up M5 t 22 x1 := ⟨_, rfl⟩
      replace h := h M6 eM6
      refine V_mem eM6 ?_
      refine V_iconst (v := 1) hC (by decide) dX11_findScript_39 ?_
      refine V_istore_n hC (by decide) dX11_findScript_40 ?_
      refine V_sub (us := [some (ob g t), none, some (.int 1)]) ⟨rfl, rfl, trivial⟩ ?_
      exact l_Md_findScript_41 hX hC fu t 1 M6 ht h
    · replace h := h.2 b7
      refine V_bipush (v := (-2)) hC (by decide) dX11_findScript_26 ?_
      exact V_iret hC h dX11_findScript_28
  · replace h := h.1 b8
    refine V_iconst (v := (-1)) hC (by decide) dX11_findScript_10 ?_
    exact V_iret hC h dX11_findScript_11
def f_Md_repairLength (fu : Nat) (post : Int32 → Mm → Prop) (t : Nat) (x1 : Int32) (M : Mm) : Prop :=
  f_Md_findScript fu (fun r2 M1 => ((0 ≤ r2) → post (M1 t 21) M1) ∧ (¬ (0 ≤ r2) → post r2 M1)) t x1 M
set_option maxRecDepth 100000 in
theorem c_Md_repairLength (l : Launch) (g : GX) (w : WX) (fu : Nat) (post : Int32 → Mm → Prop) (t : Nat) (x1 : Int32) (M : Mm) (ht : ok w t 11) (h : f_Md_repairLength fu post t x1 M) : Met l yX11_repairLength [Cond.code yX11_repairLength cX11_repairLength 3 (some .int)] (rmC 6 0 0) (va_Pc [ob g t, .int x1] (Wb g w M)) (va_Qi post (Wb g w) (Af g)) 0 0 (Af g) := by
  refine Ct_i (by decide) rfl (fun v hv => by simp only [List.mem_cons, List.not_mem_nil, or_false] at hv; rcases hv with rfl | rfl <;> rfl) (Nat.le_of_ble_eq_true rfl) (Nat.le_refl _) ?_
  intro X hX _ hC
  unfold f_Md_repairLength at h
  refine V_sub (us := [some (ob g t), some (.int x1), none]) ⟨rfl, rfl, trivial⟩ ?_
  refine V_aload_n hC rfl dX11_repairLength_0 ?_
  refine V_iload_n hC rfl dX11_repairLength_1 ?_
  refine V_calli (As := [.int x1]) hC (c_Md_findScript X.2.1 g w fu _ t x1 M ht h) mw_X11_findScript (by decide) tw_1116 ht (by decide) rfl rfl rfl (Nat.le_of_ble_eq_true rfl) ⟨Nat.zero_le _, Nat.zero_le _⟩ dX11_repairLength_2 (fun r2 M1 h => ?_)
  refine V_istore_n hC (by decide) dX11_repairLength_5 ?_
  refine V_iload_n hC rfl dX11_repairLength_6 ?_
  refine V_if_ge (tgt := 14) hC dX11_repairLength_7 (by decide) (fun b3 => ?_) (fun b3 => ?_)
  · replace h := h.1 b3
    refine V_aload_n hC rfl dX11_repairLength_14 ?_
    refine gf_11_21 hC ht tw_838 dX11_repairLength_15 ?_
    exact V_iret hC h dX11_repairLength_18
  · replace h := h.2 b3
    refine V_iload_n hC rfl dX11_repairLength_10 ?_
    refine V_goto (tgt := 18) hC (by decide) dX11_repairLength_11 ?_
    exact V_iret hC h dX11_repairLength_18
def f_Md_scriptEntry (fu : Nat) (post : Int32 → Mm → Prop) (t : Nat) (x1 : Int32) (x2 : Int32) (M : Mm) : Prop :=
  ((x1 < (M t 21)) → ((x2 = 0) → vp_in x1 (ln (t + 8)) ∧ post (M (t + 8) x1.toNatClampNeg) M) ∧ (¬ (x2 = 0) → vp_in x1 (ln (t + 9)) ∧ post (M (t + 9) x1.toNatClampNeg) M)) ∧ (¬ (x1 < (M t 21)) → post (-9) M)
set_option maxRecDepth 100000 in
theorem c_Md_scriptEntry (l : Launch) (g : GX) (w : WX) (fu : Nat) (post : Int32 → Mm → Prop) (t : Nat) (x1 : Int32) (x2 : Int32) (M : Mm) (ht : ok w t 11) (h : f_Md_scriptEntry fu post t x1 x2 M) : Met l yX11_scriptEntry [Cond.code yX11_scriptEntry cX11_scriptEntry 3 (some .int)] (rmC 0 0 0) (va_Pc [ob g t, .int x1, .int x2] (Wb g w M)) (va_Qi post (Wb g w) (Af g)) 0 0 (Af g) := by
  refine Ct_i (by decide) rfl (fun v hv => by simp only [List.mem_cons, List.not_mem_nil, or_false] at hv; rcases hv with rfl | rfl | rfl <;> rfl) (Nat.le_of_ble_eq_true rfl) (Nat.le_refl _) ?_
  intro X hX _ hC
  unfold f_Md_scriptEntry at h
  refine V_sub (us := [some (ob g t), some (.int x1), some (.int x2)]) ⟨rfl, rfl, rfl, trivial⟩ ?_
  refine V_iload_n hC rfl dX11_scriptEntry_0 ?_
  refine V_aload_n hC rfl dX11_scriptEntry_1 ?_
  refine gf_11_21 hC ht tw_838 dX11_scriptEntry_2 ?_
  refine V_icmp_lt (tgt := 13) hC dX11_scriptEntry_5 (by decide) (fun b4 => ?_) (fun b4 => ?_)
  · replace h := h.1 b4
    refine V_iload_n hC rfl dX11_scriptEntry_13 ?_
    refine V_if_eq (tgt := 26) hC dX11_scriptEntry_14 (by decide) (fun b3 => ?_) (fun b3 => ?_)
    · replace h := h.1 b3
      refine V_aload_n hC rfl dX11_scriptEntry_26 ?_
      refine gf_11_19 hC ht tw_836 dX11_scriptEntry_27 ?_
      refine V_iload_n hC rfl dX11_scriptEntry_30 ?_
      obtain ⟨q1, h⟩ := h
      refine V_iald hC (ok_11_19 ht) q1 dX11_scriptEntry_31 ?_
      exact V_iret hC h dX11_scriptEntry_32
    · replace h := h.2 b3
      refine V_aload_n hC rfl dX11_scriptEntry_17 ?_
      refine gf_11_20 hC ht tw_837 dX11_scriptEntry_18 ?_
      refine V_iload_n hC rfl dX11_scriptEntry_21 ?_
      obtain ⟨q2, h⟩ := h
      refine V_iald hC (ok_11_20 ht) q2 dX11_scriptEntry_22 ?_
      refine V_goto (tgt := 32) hC (by decide) dX11_scriptEntry_23 ?_
      exact V_iret hC h dX11_scriptEntry_32
  · replace h := h.2 b4
    refine V_bipush (v := (-9)) hC (by decide) dX11_scriptEntry_8 ?_
    refine V_goto (tgt := 32) hC (by decide) dX11_scriptEntry_10 ?_
    exact V_iret hC h dX11_scriptEntry_32
def f_Md_repairEntry (fu : Nat) (post : Int32 → Mm → Prop) (t : Nat) (x1 : Int32) (x2 : Int32) (x3 : Int32) (M : Mm) : Prop :=
  f_Md_in fu (fun r2 M1 => ((r2 = 0) → post (-1) M1) ∧ (¬ (r2 = 0) → ((0 ≤ x2) → f_Md_findScript fu (fun r4 M3 => ((0 ≤ r4) → f_Md_scriptEntry fu (fun r6 M5 => post r6 M5) t x2 x3 M3) ∧ (¬ (0 ≤ r4) → post r4 M3)) t x1 M1) ∧ (¬ (0 ≤ x2) → post (-1) M1))) x1 0 7 M
set_option maxRecDepth 100000 in
theorem c_Md_repairEntry (l : Launch) (g : GX) (w : WX) (fu : Nat) (post : Int32 → Mm → Prop) (t : Nat) (x1 : Int32) (x2 : Int32) (x3 : Int32) (M : Mm) (ht : ok w t 11) (h : f_Md_repairEntry fu post t x1 x2 x3 M) : Met l yX11_repairEntry [Cond.code yX11_repairEntry cX11_repairEntry 5 (some .int)] (rmC 6 0 0) (va_Pc [ob g t, .int x1, .int x2, .int x3] (Wb g w M)) (va_Qi post (Wb g w) (Af g)) 0 0 (Af g) := by
  refine Ct_i (by decide) rfl (fun v hv => by simp only [List.mem_cons, List.not_mem_nil, or_false] at hv; rcases hv with rfl | rfl | rfl | rfl <;> rfl) (Nat.le_of_ble_eq_true rfl) (Nat.le_refl _) ?_
  intro X hX _ hC
  unfold f_Md_repairEntry at h
  refine V_sub (us := [some (ob g t), some (.int x1), some (.int x2), some (.int x3), none]) ⟨rfl, rfl, rfl, rfl, trivial⟩ ?_
  refine V_iload_n hC rfl dX11_repairEntry_0 ?_
  refine V_iconst (v := 0) hC (by decide) dX11_repairEntry_1 ?_
  refine V_bipush (v := 7) hC (by decide) dX11_repairEntry_2 ?_
  refine V_scalli (As := [.int x1, .int 0, .int 7]) hC (c_Md_in X.2.1 g w fu _ x1 0 7 M h) mw_X11_in (by decide) tw_894 rfl rfl (Nat.le_of_ble_eq_true rfl) ⟨Nat.zero_le _, Nat.zero_le _⟩ dX11_repairEntry_4 (fun r2 M1 h => ?_)
  obtain ⟨hzr2, h⟩ := h
  refine V_if_eq (tgt := 14) hC dX11_repairEntry_7 (by decide) (fun b9 => ?_) (fun b9 => ?_)
  · replace h := h.1 b9
    refine V_iconst (v := (-1)) hC (by decide) dX11_repairEntry_14 ?_
    exact V_iret hC h dX11_repairEntry_15
  · replace h := h.2 b9
    refine V_iload_n hC rfl dX11_repairEntry_10 ?_
    refine V_if_ge (tgt := 16) hC dX11_repairEntry_11 (by decide) (fun b8 => ?_) (fun b8 => ?_)
    · replace h := h.1 b8
      refine V_aload_n hC rfl dX11_repairEntry_16 ?_
      refine V_iload_n hC rfl dX11_repairEntry_17 ?_
      refine V_calli (As := [.int x1]) hC (c_Md_findScript X.2.1 g w fu _ t x1 M1 ht h) mw_X11_findScript (by decide) tw_1116 ht (by decide) rfl rfl rfl (Nat.le_of_ble_eq_true rfl) ⟨Nat.zero_le _, Nat.zero_le _⟩ dX11_repairEntry_18 (fun r4 M3 h => ?_)
      refine V_istore hC (by decide) dX11_repairEntry_21 ?_
      refine V_iload hC rfl dX11_repairEntry_23 ?_
      refine V_if_ge (tgt := 33) hC dX11_repairEntry_25 (by decide) (fun b7 => ?_) (fun b7 => ?_)
      · replace h := h.1 b7
        refine V_aload_n hC rfl dX11_repairEntry_33 ?_
        refine V_iload_n hC rfl dX11_repairEntry_34 ?_
        refine V_iload_n hC rfl dX11_repairEntry_35 ?_
        refine V_calli (As := [.int x2, .int x3]) hC (c_Md_scriptEntry X.2.1 g w fu _ t x2 x3 M3 ht h) mw_X11_scriptEntry (by decide) tw_1136 ht (by decide) rfl rfl rfl (Nat.le_of_ble_eq_true rfl) ⟨Nat.zero_le _, Nat.zero_le _⟩ dX11_repairEntry_36 (fun r6 M5 h => ?_)
        exact V_iret hC h dX11_repairEntry_39
      · replace h := h.2 b7
        refine V_iload hC rfl dX11_repairEntry_28 ?_
        refine V_goto (tgt := 39) hC (by decide) dX11_repairEntry_30 ?_
        exact V_iret hC h dX11_repairEntry_39
    · replace h := h.2 b8
      refine V_iconst (v := (-1)) hC (by decide) dX11_repairEntry_14 ?_
      exact V_iret hC h dX11_repairEntry_15
def f_Md_repairOperation (fu : Nat) (post : Int32 → Mm → Prop) (t : Nat) (x1 : Int32) (x2 : Int32) (M : Mm) : Prop :=
  f_Md_repairEntry fu (fun r2 M1 => post r2 M1) t x1 x2 0 M
set_option maxRecDepth 100000 in
theorem c_Md_repairOperation (l : Launch) (g : GX) (w : WX) (fu : Nat) (post : Int32 → Mm → Prop) (t : Nat) (x1 : Int32) (x2 : Int32) (M : Mm) (ht : ok w t 11) (h : f_Md_repairOperation fu post t x1 x2 M) : Met l yX11_repairOperation [Cond.code yX11_repairOperation cX11_repairOperation 3 (some .int)] (rmC 7 0 0) (va_Pc [ob g t, .int x1, .int x2] (Wb g w M)) (va_Qi post (Wb g w) (Af g)) 0 0 (Af g) := by
  refine Ct_i (by decide) rfl (fun v hv => by simp only [List.mem_cons, List.not_mem_nil, or_false] at hv; rcases hv with rfl | rfl | rfl <;> rfl) (Nat.le_of_ble_eq_true rfl) (Nat.le_refl _) ?_
  intro X hX _ hC
  unfold f_Md_repairOperation at h
  refine V_sub (us := [some (ob g t), some (.int x1), some (.int x2)]) ⟨rfl, rfl, rfl, trivial⟩ ?_
  refine V_aload_n hC rfl dX11_repairOperation_0 ?_
  refine V_iload_n hC rfl dX11_repairOperation_1 ?_
  refine V_iload_n hC rfl dX11_repairOperation_2 ?_
  refine V_iconst (v := 0) hC (by decide) dX11_repairOperation_3 ?_
  refine V_calli (As := [.int x1, .int x2, .int 0]) hC (c_Md_repairEntry X.2.1 g w fu _ t x1 x2 0 M ht h) mw_X11_repairEntry (by decide) tw_1132 ht (by decide) rfl rfl rfl (Nat.le_of_ble_eq_true rfl) ⟨Nat.zero_le _, Nat.zero_le _⟩ dX11_repairOperation_4 (fun r2 M1 h => ?_)
  exact V_iret hC h dX11_repairOperation_7
def f_Md_repairKind (fu : Nat) (post : Int32 → Mm → Prop) (t : Nat) (x1 : Int32) (x2 : Int32) (M : Mm) : Prop :=
  f_Md_repairEntry fu (fun r2 M1 => post r2 M1) t x1 x2 1 M
set_option maxRecDepth 100000 in
theorem c_Md_repairKind (l : Launch) (g : GX) (w : WX) (fu : Nat) (post : Int32 → Mm → Prop) (t : Nat) (x1 : Int32) (x2 : Int32) (M : Mm) (ht : ok w t 11) (h : f_Md_repairKind fu post t x1 x2 M) : Met l yX11_repairKind [Cond.code yX11_repairKind cX11_repairKind 3 (some .int)] (rmC 7 0 0) (va_Pc [ob g t, .int x1, .int x2] (Wb g w M)) (va_Qi post (Wb g w) (Af g)) 0 0 (Af g) := by
  refine Ct_i (by decide) rfl (fun v hv => by simp only [List.mem_cons, List.not_mem_nil, or_false] at hv; rcases hv with rfl | rfl | rfl <;> rfl) (Nat.le_of_ble_eq_true rfl) (Nat.le_refl _) ?_
  intro X hX _ hC
  unfold f_Md_repairKind at h
  refine V_sub (us := [some (ob g t), some (.int x1), some (.int x2)]) ⟨rfl, rfl, rfl, trivial⟩ ?_
  refine V_aload_n hC rfl dX11_repairKind_0 ?_
  refine V_iload_n hC rfl dX11_repairKind_1 ?_
  refine V_iload_n hC rfl dX11_repairKind_2 ?_
  refine V_iconst (v := 1) hC (by decide) dX11_repairKind_3 ?_
  refine V_calli (As := [.int x1, .int x2, .int 1]) hC (c_Md_repairEntry X.2.1 g w fu _ t x1 x2 1 M ht h) mw_X11_repairEntry (by decide) tw_1132 ht (by decide) rfl rfl rfl (Nat.le_of_ble_eq_true rfl) ⟨Nat.zero_le _, Nat.zero_le _⟩ dX11_repairKind_4 (fun r2 M1 h => ?_)
  exact V_iret hC h dX11_repairKind_7
def f_Md_applyRepair_43 (fu : Nat) (post : Int32 → Mm → Prop) (K17 : Nat → Int32 → Int32 → Mm → Prop) (t : Nat) (x4 : Int32) (kx0 : Int32) (kx1 : Int32) (M : Mm) : Prop :=
  ∀ y1, y1 = (kx0 + kx1) → ∀ y2, y2 = x4 + 1 → K17 t y1 y2 M
def f_Md_applyRepair_75 (fu : Nat) (post : Int32 → Mm → Prop) : Nat → Nat → Int32 → Int32 → Mm → Prop
  | 0, _, _, _, _ => False
  | kf + 1, t, x3, x4, M =>
    (((M t 21) ≤ x4) → post x3 M) ∧ (¬ ((M t 21) ≤ x4) → vp_in x4 (ln (t + 8)) ∧ (((M (t + 8) x4.toNatClampNeg) = 2) → ∀ y2, y2 = x4 + 1 → f_Md_applyRepair_75 fu post kf t x3 y2 M) ∧ (¬ ((M (t + 8) x4.toNatClampNeg) = 2) → vp_in 56 (ln (t + 1)) ∧ vp_in x4 (ln (t + 9)) ∧ vp_in (57 + (M (t + 1) 56)) (ln (t + 1)) ∧ (∀ M6, M6 = up M (t + 1) (57 + (M (t + 1) 56)).toNatClampNeg (M (t + 9) x4.toNatClampNeg) → vp_in 56 (ln (t + 1)) ∧ vp_in 56 (ln (t + 1)) ∧ (∀ M9, M9 = up M6 (t + 1) 56 ((M6 (t + 1) 56) + 1) → ∀ y10, y10 = x4 + 1 → f_Md_applyRepair_75 fu post kf t x3 y10 M9))))
def f_Md_applyRepair_17 (fu : Nat) (post : Int32 → Mm → Prop) : Nat → Nat → Int32 → Int32 → Mm → Prop
  | 0, _, _, _, _ => False
  | kf + 1, t, x3, x4, M =>
    (((M t 21) ≤ x4) → ((x3 ≤ 12) → f_Md_save fu (fun M1 => vp_in 56 (ln (t + 1)) ∧ (∀ M3, M3 = up M1 (t + 1) 56 0 → f_Md_applyRepair_75 fu post fu t x3 0 M3)) t M) ∧ (¬ (x3 ≤ 12) → post (-3) M)) ∧ (¬ ((M t 21) ≤ x4) → vp_in x4 (ln (t + 8)) ∧ (((M (t + 8) x4.toNatClampNeg) = 2) → f_Md_applyRepair_43 fu post (f_Md_applyRepair_17 fu post kf) t x4 x3 0 M) ∧ (¬ ((M (t + 8) x4.toNatClampNeg) = 2) → f_Md_applyRepair_43 fu post (f_Md_applyRepair_17 fu post kf) t x4 x3 1 M))
def f_Md_applyRepair (fu : Nat) (post : Int32 → Mm → Prop) (t : Nat) (x1 : Int32) (M : Mm) : Prop :=
  f_Md_findScript fu (fun r2 M1 => ((0 ≤ r2) → f_Md_applyRepair_17 fu post fu t 0 0 M1) ∧ (¬ (0 ≤ r2) → post r2 M1)) t x1 M
set_option maxRecDepth 100000 in
theorem j_Md_applyRepair_43 {l : Launch} {X : CX} {g : GX} {w : WX} {fu : Nat} {post : Int32 → Mm → Prop} (hX : X.2.1 = l) (hC : Cx X g cX11_applyRepair 5 RX11 (some .int) 6) {K17 : Nat → Int32 → Int32 → Mm → Prop} (hK17 : ∀ (t : Nat) (x3 : Int32) (x4 : Int32) (M : Mm), ok w t 11 → K17 t x3 x4 M → V X g w 5 0 0 (QI X g w post 0 0) 17 [some (ob g t), none, none, some (.int x3), some (.int x4)] [] M) (t : Nat) (x4 : Int32) (kx0 : Int32) (kx1 : Int32) {M : Mm} (ht : ok w t 11) (h : f_Md_applyRepair_43 fu post K17 t x4 kx0 kx1 M) : V X g w 5 0 0 (QI X g w post 0 0) 43 [some (ob g t), none, none, none, some (.int x4)] [.int kx1, .int kx0] M := by
  unfold f_Md_applyRepair_43 at h
  refine V_iadd hC dX11_applyRepair_43 ?_
  refine V_topi (fun y1 ey1 => ?_)
  replace h := h y1 ey1
  refine V_istore_n hC (by decide) dX11_applyRepair_44 ?_
  obtain ⟨y2, ey2⟩ : ∃ z, z = x4 + 1 := ⟨_, rfl⟩
  replace h := h y2 ey2
  refine V_iinc (v := y2) hC rfl (by rw [ey2]; rfl) (by decide) dX11_applyRepair_45 ?_
  refine V_goto (tgt := 17) hC (by decide) dX11_applyRepair_48 ?_
  refine V_sub (us := [some (ob g t), none, none, some (.int y1), some (.int y2)]) ⟨rfl, rfl, rfl, trivial⟩ ?_
  exact hK17 t y1 y2 M ht h
set_option maxRecDepth 100000 in
theorem l_Md_applyRepair_75 {l : Launch} {X : CX} {g : GX} {w : WX} {fu : Nat} {post : Int32 → Mm → Prop} (hX : X.2.1 = l) (hC : Cx X g cX11_applyRepair 5 RX11 (some .int) 6) : ∀ (kf : Nat) (t : Nat) (x3 : Int32) (x4 : Int32) (M : Mm) (ht : ok w t 11) (h : f_Md_applyRepair_75 fu post kf t x3 x4 M), V X g w 5 0 0 (QI X g w post 0 0) 75 [some (ob g t), none, none, some (.int x3), some (.int x4)] [] M := by
  intro kf
  induction kf with
  | zero => intro t x3 x4 M ht h; exact absurd h id
  | succ kf ih =>
    intro t x3 x4 M ht h
    rw [f_Md_applyRepair_75] at h
    refine V_iload hC rfl dX11_applyRepair_75 ?_
    refine V_aload_n hC rfl dX11_applyRepair_77 ?_
    refine gf_11_21 hC ht tw_838 dX11_applyRepair_78 ?_
    refine V_icmp_ge (tgt := 134) hC dX11_applyRepair_81 (by decide) (fun b12 => ?_) (fun b12 => ?_)
    · replace h := h.1 b12
      refine V_iload_n hC rfl dX11_applyRepair_134 ?_
      exact V_iret hC h dX11_applyRepair_135
    · replace h := h.2 b12
      refine V_aload_n hC rfl dX11_applyRepair_84 ?_
      refine gf_11_19 hC ht tw_836 dX11_applyRepair_85 ?_
      refine V_iload hC rfl dX11_applyRepair_88 ?_
      obtain ⟨q1, h⟩ := h
      refine V_iald hC (ok_11_19 ht) q1 dX11_applyRepair_90 ?_
      refine V_iconst (v := 2) hC (by decide) dX11_applyRepair_91 ?_
      refine V_icmp_eq (tgt := 128) hC dX11_applyRepair_92 (by decide) (fun b11 => ?_) (fun b11 => ?_)
      · replace h := h.1 b11
        obtain ⟨y2, ey2⟩ : ∃ z, z = x4 + 1 := ⟨_, rfl⟩
        replace h := h y2 ey2
        refine V_iinc (v := y2) hC rfl (by rw [ey2]; rfl) (by decide) dX11_applyRepair_128 ?_
        refine V_goto (tgt := 75) hC (by decide) dX11_applyRepair_131 ?_
        refine V_sub (us := [some (ob g t), none, none, some (.int x3), some (.int y2)]) ⟨rfl, rfl, rfl, trivial⟩ ?_
        exact ih t x3 y2 M ht h
      · replace h := h.2 b11
        refine V_aload_n hC rfl dX11_applyRepair_95 ?_
        refine gf_11_0 hC ht tw_817 dX11_applyRepair_96 ?_
        refine V_bipush (v := 57) hC (by decide) dX11_applyRepair_99 ?_
        refine V_aload_n hC rfl dX11_applyRepair_101 ?_
        refine gf_11_0 hC ht tw_817 dX11_applyRepair_102 ?_
        refine V_bipush (v := 56) hC (by decide) dX11_applyRepair_105 ?_
        obtain ⟨q3, h⟩ := h
        refine V_iaL (j := 56) (by decide) hC (ok_11_0 ht) q3 dX11_applyRepair_107 ?_
        refine V_iadd hC dX11_applyRepair_108 ?_
        refine V_aload_n hC rfl dX11_applyRepair_109 ?_
        refine gf_11_20 hC ht tw_837 dX11_applyRepair_110 ?_
        refine V_iload hC rfl dX11_applyRepair_113 ?_
        obtain ⟨q4, h⟩ := h
        refine V_iald hC (ok_11_20 ht) q4 dX11_applyRepair_115 ?_
        obtain ⟨q5, h⟩ := h
        refine V_iast hC (ok_11_0 ht) q5 dX11_applyRepair_116 ?_
        obtain ⟨M6, eM6⟩ : ∃ z, z = up M (t + 1) (57 + (M (t + 1) 56)).toNatClampNeg (M (t + 9) x4.toNatClampNeg) := ⟨_, rfl⟩
        replace h := h M6 eM6
        refine V_mem eM6 ?_
        refine V_aload_n hC rfl dX11_applyRepair_117 ?_
        refine gf_11_0 hC ht tw_817 dX11_applyRepair_118 ?_
        refine V_bipush (v := 56) hC (by decide) dX11_applyRepair_121 ?_
        refine V_dup2 hC rfl rfl dX11_applyRepair_123 ?_
        obtain ⟨q7, h⟩ := h
        refine V_iaL (j := 56) (by decide) hC (ok_11_0 ht) q7 dX11_applyRepair_124 ?_
        refine V_iconst (v := 1) hC (by decide) dX11_applyRepair_125 ?_
        refine V_iadd hC dX11_applyRepair_126 ?_
        obtain ⟨q8, h⟩ := h
        refine V_isL (j := 56) (by decide) hC (ok_11_0 ht) q8 dX11_applyRepair_127 ?_
        obtain ⟨M9, eM9⟩ : ∃ z, z = up M6 (t + 1) 56 ((M6 (t + 1) 56) + 1) := ⟨_, rfl⟩
        replace h := h M9 eM9
        refine V_mem eM9 ?_
        obtain ⟨y10, ey10⟩ : ∃ z, z = x4 + 1 := ⟨_, rfl⟩
        replace h := h y10 ey10
        refine V_iinc (v := y10) hC rfl (by rw [ey10]; rfl) (by decide) dX11_applyRepair_128 ?_
        refine V_goto (tgt := 75) hC (by decide) dX11_applyRepair_131 ?_
        refine V_sub (us := [some (ob g t), none, none, some (.int x3), some (.int y10)]) ⟨rfl, rfl, rfl, trivial⟩ ?_
        exact ih t x3 y10 M9 ht h
set_option maxRecDepth 100000 in
theorem l_Md_applyRepair_17 {l : Launch} {X : CX} {g : GX} {w : WX} {fu : Nat} {post : Int32 → Mm → Prop} (hX : X.2.1 = l) (hC : Cx X g cX11_applyRepair 5 RX11 (some .int) 6) : ∀ (kf : Nat) (t : Nat) (x3 : Int32) (x4 : Int32) (M : Mm) (ht : ok w t 11) (h : f_Md_applyRepair_17 fu post kf t x3 x4 M), V X g w 5 0 0 (QI X g w post 0 0) 17 [some (ob g t), none, none, some (.int x3), some (.int x4)] [] M := by
  intro kf
  induction kf with
  | zero => intro t x3 x4 M ht h; exact absurd h id
  | succ kf ih =>
    intro t x3 x4 M ht h
    rw [f_Md_applyRepair_17] at h
    refine V_iload hC rfl dX11_applyRepair_17 ?_
    refine V_aload_n hC rfl dX11_applyRepair_19 ?_
    refine gf_11_21 hC ht tw_838 dX11_applyRepair_20 ?_
    refine V_icmp_ge (tgt := 51) hC dX11_applyRepair_23 (by decide) (fun b7 => ?_) (fun b7 => ?_)
    · replace h := h.1 b7
      refine V_iload_n hC rfl dX11_applyRepair_51 ?_
      refine V_bipush (v := 12) hC (by decide) dX11_applyRepair_52 ?_
      refine V_icmp_le (tgt := 60) hC dX11_applyRepair_54 (by decide) (fun b4 => ?_) (fun b4 => ?_)
      · replace h := h.1 b4
        refine V_aload_n hC rfl dX11_applyRepair_60 ?_
        refine V_callv (As := []) hC (c_Md_save X.2.1 g w fu _ t M ht h) mw_X11_save (by decide) tw_954 ht (by decide) rfl rfl rfl (Nat.le_of_ble_eq_true rfl) ⟨Nat.zero_le _, Nat.zero_le _⟩ dX11_applyRepair_61 (fun M1 h => ?_)
        refine V_aload_n hC rfl dX11_applyRepair_64 ?_
        refine gf_11_0 hC ht tw_817 dX11_applyRepair_65 ?_
        refine V_bipush (v := 56) hC (by decide) dX11_applyRepair_68 ?_
        refine V_iconst (v := 0) hC (by decide) dX11_applyRepair_70 ?_
        obtain ⟨q2, h⟩ := h
        refine V_isL (j := 56) (by decide) hC (ok_11_0 ht) q2 dX11_applyRepair_71 ?_
        obtain ⟨M3, eM3⟩ : ∃ z, z = up M1 (t + 1) 56 0 := ⟨_, rfl⟩
        replace h := h M3 eM3
        refine V_mem eM3 ?_
        refine V_iconst (v := 0) hC (by decide) dX11_applyRepair_72 ?_
        refine V_istore hC (by decide) dX11_applyRepair_73 ?_
        refine V_sub (us := [some (ob g t), none, none, some (.int x3), some (.int 0)]) ⟨rfl, rfl, rfl, trivial⟩ ?_
        exact l_Md_applyRepair_75 hX hC fu t x3 0 M3 ht h
      · replace h := h.2 b4
        refine V_bipush (v := (-3)) hC (by decide) dX11_applyRepair_57 ?_
        exact V_iret hC h dX11_applyRepair_59
    · replace h := h.2 b7
      refine V_iload_n hC rfl dX11_applyRepair_26 ?_
      refine V_aload_n hC rfl dX11_applyRepair_27 ?_
      refine gf_11_19 hC ht tw_836 dX11_applyRepair_28 ?_
      refine V_iload hC rfl dX11_applyRepair_31 ?_
      obtain ⟨q5, h⟩ := h
      refine V_iald hC (ok_11_19 ht) q5 dX11_applyRepair_33 ?_
      refine V_iconst (v := 2) hC (by decide) dX11_applyRepair_34 ?_
      refine V_icmp_ne (tgt := 42) hC dX11_applyRepair_35 (by decide) (fun b6 => ?_) (fun b6 => ?_)
      · replace h := h.2 b6
        refine V_iconst (v := 1) hC (by decide) dX11_applyRepair_42 ?_
        refine V_sub (us := [some (ob g t), none, none, none, some (.int x4)]) ⟨rfl, rfl, trivial⟩ ?_
        exact j_Md_applyRepair_43 hX hC ih t x4 x3 1 ht h
      · replace h := h.1 b6
        refine V_iconst (v := 0) hC (by decide) dX11_applyRepair_38 ?_
        refine V_goto (tgt := 43) hC (by decide) dX11_applyRepair_39 ?_
        refine V_sub (us := [some (ob g t), none, none, none, some (.int x4)]) ⟨rfl, rfl, trivial⟩ ?_
        exact j_Md_applyRepair_43 hX hC ih t x4 x3 0 ht h
set_option maxRecDepth 100000 in
theorem c_Md_applyRepair (l : Launch) (g : GX) (w : WX) (fu : Nat) (post : Int32 → Mm → Prop) (t : Nat) (x1 : Int32) (M : Mm) (ht : ok w t 11) (h : f_Md_applyRepair fu post t x1 M) : Met l yX11_applyRepair [Cond.code yX11_applyRepair cX11_applyRepair 5 (some .int)] (rmC 6 0 0) (va_Pc [ob g t, .int x1] (Wb g w M)) (va_Qi post (Wb g w) (Af g)) 0 0 (Af g) := by
  refine Ct_i (by decide) rfl (fun v hv => by simp only [List.mem_cons, List.not_mem_nil, or_false] at hv; rcases hv with rfl | rfl <;> rfl) (Nat.le_of_ble_eq_true rfl) (Nat.le_refl _) ?_
  intro X hX _ hC
  unfold f_Md_applyRepair at h
  refine V_sub (us := [some (ob g t), some (.int x1), none, none, none]) ⟨rfl, rfl, trivial⟩ ?_
  refine V_aload_n hC rfl dX11_applyRepair_0 ?_
  refine V_iload_n hC rfl dX11_applyRepair_1 ?_
  refine V_calli (As := [.int x1]) hC (c_Md_findScript X.2.1 g w fu _ t x1 M ht h) mw_X11_findScript (by decide) tw_1116 ht (by decide) rfl rfl rfl (Nat.le_of_ble_eq_true rfl) ⟨Nat.zero_le _, Nat.zero_le _⟩ dX11_applyRepair_2 (fun r2 M1 h => ?_)
  refine V_istore_n hC (by decide) dX11_applyRepair_5 ?_
  refine V_iload_n hC rfl dX11_applyRepair_6 ?_
  refine V_if_ge (tgt := 12) hC dX11_applyRepair_7 (by decide) (fun b3 => ?_) (fun b3 => ?_)
  · replace h := h.1 b3
    refine V_iconst (v := 0) hC (by decide) dX11_applyRepair_12 ?_
    refine V_istore_n hC (by decide) dX11_applyRepair_13 ?_
    refine V_iconst (v := 0) hC (by decide) dX11_applyRepair_14 ?_
    refine V_istore hC (by decide) dX11_applyRepair_15 ?_
    refine V_sub (us := [some (ob g t), none, none, some (.int 0), some (.int 0)]) ⟨rfl, rfl, rfl, trivial⟩ ?_
    exact l_Md_applyRepair_17 hX hC fu t 0 0 M1 ht h
  · replace h := h.2 b3
    refine V_iload_n hC rfl dX11_applyRepair_10 ?_
    exact V_iret hC h dX11_applyRepair_11
def f_Md_passes (fu : Nat) (post : Int32 → Mm → Prop) (t : Nat) (x1 : Int32) (x2 : Int32) (M : Mm) : Prop :=
  ∀ y1, y1 = (x1 / 96) → ∀ y2, y2 = (y1 + x2) → vp_in 56 (ln (t + 1)) ∧ (((M (t + 1) 56) < y2) → f_Md_findError fu (fun r5 M4 => ((r5 = (-9)) → post 1 M4) ∧ (¬ (r5 = (-9)) → post 0 M4)) t y1 (x1 - x1 / 96 * 96) M) ∧ (¬ ((M (t + 1) 56) < y2) → f_Md_run fu (fun r8 M7 => ((r8 = y2) → post 1 M7) ∧ (¬ (r8 = y2) → post 0 M7)) t y1 (x1 - x1 / 96 * 96) y2 M)
set_option maxRecDepth 100000 in
theorem c_Md_passes (l : Launch) (g : GX) (w : WX) (fu : Nat) (post : Int32 → Mm → Prop) (t : Nat) (x1 : Int32) (x2 : Int32) (M : Mm) (ht : ok w t 11) (h : f_Md_passes fu post t x1 x2 M) : Met l yX11_passes [Cond.code yX11_passes cX11_passes 5 (some .boolean)] (rmC 3 0 0) (va_Pc [ob g t, .int x1, .int x2] (Wb g w M)) (va_Qi (fun r M => zb r ∧ post r M) (Wb g w) (Af g)) 0 0 (Af g) := by
  refine Ct_i (by decide) rfl (fun v hv => by simp only [List.mem_cons, List.not_mem_nil, or_false] at hv; rcases hv with rfl | rfl | rfl <;> rfl) (Nat.le_of_ble_eq_true rfl) (Nat.le_refl _) ?_
  intro X hX _ hC
  unfold f_Md_passes at h
  refine V_sub (us := [some (ob g t), some (.int x1), some (.int x2), none, none]) ⟨rfl, rfl, rfl, trivial⟩ ?_
  refine V_iload_n hC rfl dX11_passes_0 ?_
  refine V_bipush (v := 96) hC (by decide) dX11_passes_1 ?_
  refine V_idiv hC (by decide) dX11_passes_3 ?_
  refine V_topi (fun y1 ey1 => ?_)
  replace h := h y1 ey1
  refine V_istore_n hC (by decide) dX11_passes_4 ?_
  refine V_iload_n hC rfl dX11_passes_5 ?_
  refine V_iload_n hC rfl dX11_passes_6 ?_
  refine V_iadd hC dX11_passes_7 ?_
  refine V_topi (fun y2 ey2 => ?_)
  replace h := h y2 ey2
  refine V_istore hC (by decide) dX11_passes_8 ?_
  refine V_iload hC rfl dX11_passes_10 ?_
  refine V_aload_n hC rfl dX11_passes_12 ?_
  refine gf_11_0 hC ht tw_817 dX11_passes_13 ?_
  refine V_bipush (v := 56) hC (by decide) dX11_passes_16 ?_
  obtain ⟨q3, h⟩ := h
  refine V_iaL (j := 56) (by decide) hC (ok_11_0 ht) q3 dX11_passes_18 ?_
  refine V_icmp_gt (tgt := 44) hC dX11_passes_19 (by decide) (fun b10 => ?_) (fun b10 => ?_)
  · replace h := h.1 b10
    refine V_aload_n hC rfl dX11_passes_44 ?_
    refine V_iload_n hC rfl dX11_passes_45 ?_
    refine V_iload_n hC rfl dX11_passes_46 ?_
    refine V_bipush (v := 96) hC (by decide) dX11_passes_47 ?_
    refine V_irem hC (by decide) dX11_passes_49 ?_
    refine V_calli (As := [.int y1, .int (x1 - x1 / 96 * 96)]) hC (c_Md_findError X.2.1 g w fu _ t y1 (x1 - x1 / 96 * 96) M ht h) mw_X11_findError (by decide) tw_1029 ht (by decide) rfl rfl rfl (Nat.le_of_ble_eq_true rfl) ⟨Nat.zero_le _, Nat.zero_le _⟩ dX11_passes_50 (fun r5 M4 h => ?_)
    refine V_bipush (v := (-9)) hC (by decide) dX11_passes_53 ?_
    refine V_icmp_ne (tgt := 62) hC dX11_passes_55 (by decide) (fun b6 => ?_) (fun b6 => ?_)
    · replace h := h.2 b6
      refine V_iconst (v := 0) hC (by decide) dX11_passes_62 ?_
      exact V_zret hC (Or.inl rfl) h dX11_passes_63
    · replace h := h.1 b6
      refine V_iconst (v := 1) hC (by decide) dX11_passes_58 ?_
      refine V_goto (tgt := 63) hC (by decide) dX11_passes_59 ?_
      exact V_zret hC (Or.inr rfl) h dX11_passes_63
  · replace h := h.2 b10
    refine V_aload_n hC rfl dX11_passes_22 ?_
    refine V_iload_n hC rfl dX11_passes_23 ?_
    refine V_iload_n hC rfl dX11_passes_24 ?_
    refine V_bipush (v := 96) hC (by decide) dX11_passes_25 ?_
    refine V_irem hC (by decide) dX11_passes_27 ?_
    refine V_iload hC rfl dX11_passes_28 ?_
    refine V_calli (As := [.int y1, .int (x1 - x1 / 96 * 96), .int y2]) hC (c_Md_run X.2.1 g w fu _ t y1 (x1 - x1 / 96 * 96) y2 M ht h) mw_X11_run (by decide) tw_1033 ht (by decide) rfl rfl rfl (Nat.le_of_ble_eq_true rfl) ⟨Nat.zero_le _, Nat.zero_le _⟩ dX11_passes_30 (fun r8 M7 h => ?_)
    refine V_iload hC rfl dX11_passes_33 ?_
    refine V_icmp_ne (tgt := 42) hC dX11_passes_35 (by decide) (fun b9 => ?_) (fun b9 => ?_)
    · replace h := h.2 b9
      refine V_iconst (v := 0) hC (by decide) dX11_passes_42 ?_
      exact V_zret hC (Or.inl rfl) h dX11_passes_43
    · replace h := h.1 b9
      refine V_iconst (v := 1) hC (by decide) dX11_passes_38 ?_
      refine V_goto (tgt := 43) hC (by decide) dX11_passes_39 ?_
      exact V_zret hC (Or.inr rfl) h dX11_passes_43
def f_Md_localBy (fu : Nat) (post : Int32 → Mm → Prop) (t : Nat) (x1 : Int32) (x2 : Int32) (x3 : Int32) (M : Mm) : Prop :=
  f_Md_edge fu (fun r2 M1 => ((r2 = (-9)) → post 1000000 M1) ∧ (¬ (r2 = (-9)) → vp_in r2 (ln (t + 10)) ∧ post ((M1 (t + 10) r2.toNatClampNeg) + (M1 t 18)) M1)) t x1 x2 x3 M
set_option maxRecDepth 100000 in
theorem c_Md_localBy (l : Launch) (g : GX) (w : WX) (fu : Nat) (post : Int32 → Mm → Prop) (t : Nat) (x1 : Int32) (x2 : Int32) (x3 : Int32) (M : Mm) (ht : ok w t 11) (h : f_Md_localBy fu post t x1 x2 x3 M) : Met l yX11_localBy [Cond.code yX11_localBy cX11_localBy 5 (some .int)] (rmC 2 0 0) (va_Pc [ob g t, .int x1, .int x2, .int x3] (Wb g w M)) (va_Qi post (Wb g w) (Af g)) 0 0 (Af g) := by
  refine Ct_i (by decide) rfl (fun v hv => by simp only [List.mem_cons, List.not_mem_nil, or_false] at hv; rcases hv with rfl | rfl | rfl | rfl <;> rfl) (Nat.le_of_ble_eq_true rfl) (Nat.le_refl _) ?_
  intro X hX _ hC
  unfold f_Md_localBy at h
  refine V_sub (us := [some (ob g t), some (.int x1), some (.int x2), some (.int x3), none]) ⟨rfl, rfl, rfl, rfl, trivial⟩ ?_
  refine V_aload_n hC rfl dX11_localBy_0 ?_
  refine V_iload_n hC rfl dX11_localBy_1 ?_
  refine V_iload_n hC rfl dX11_localBy_2 ?_
  refine V_iload_n hC rfl dX11_localBy_3 ?_
  refine V_calli (As := [.int x1, .int x2, .int x3]) hC (c_Md_edge X.2.1 g w fu _ t x1 x2 x3 M ht h) mw_X11_edge (by decide) tw_1084 ht (by decide) rfl rfl rfl (Nat.le_of_ble_eq_true rfl) ⟨Nat.zero_le _, Nat.zero_le _⟩ dX11_localBy_4 (fun r2 M1 h => ?_)
  refine V_istore hC (by decide) dX11_localBy_7 ?_
  refine V_iload hC rfl dX11_localBy_9 ?_
  refine V_bipush (v := (-9)) hC (by decide) dX11_localBy_11 ?_
  refine V_icmp_ne (tgt := 21) hC dX11_localBy_13 (by decide) (fun b4 => ?_) (fun b4 => ?_)
  · replace h := h.2 b4
    refine V_aload_n hC rfl dX11_localBy_21 ?_
    refine gf_11_23 hC ht tw_840 dX11_localBy_22 ?_
    refine V_iload hC rfl dX11_localBy_25 ?_
    obtain ⟨q3, h⟩ := h
    refine V_iald hC (ok_11_23 ht) q3 dX11_localBy_27 ?_
    refine V_aload_n hC rfl dX11_localBy_28 ?_
    refine gf_11_18 hC ht tw_835 dX11_localBy_29 ?_
    refine V_iadd hC dX11_localBy_32 ?_
    exact V_iret hC h dX11_localBy_33
  · replace h := h.1 b4
    refine V_ldc hC tw_1072 dX11_localBy_16 ?_
    refine V_goto (tgt := 33) hC (by decide) dX11_localBy_18 ?_
    exact V_iret hC h dX11_localBy_33
def f_Md_improveLocal_46 (fu : Nat) (post : Int32 → Mm → Prop) (K17 : Nat → Int32 → Int32 → Int32 → Int32 → Mm → Prop) (t : Nat) (x1 : Int32) (x3 : Int32) (x4 : Int32) (kx0 : Int32) (M : Mm) : Prop :=
  ∀ y1, y1 = x4 + 1 → K17 t x1 kx0 x3 y1 M
def f_Md_improveLocal_17 (fu : Nat) (post : Int32 → Mm → Prop) (K9 : Nat → Int32 → Int32 → Int32 → Mm → Prop) : Nat → Nat → Int32 → Int32 → Int32 → Int32 → Mm → Prop
  | 0, _, _, _, _, _, _ => False
  | kf + 1, t, x1, x2, x3, x4, M =>
    ((6 ≤ x4) → ∀ y1, y1 = x3 + 1 → K9 t x1 x2 y1 M) ∧ (¬ (6 ≤ x4) → f_Md_localBy fu (fun r3 M2 => ((x2 ≤ r3) → f_Md_improveLocal_46 fu post (f_Md_improveLocal_17 fu post K9 kf) t x1 x3 x4 x2 M2) ∧ (¬ (x2 ≤ r3) → f_Md_improveLocal_46 fu post (f_Md_improveLocal_17 fu post K9 kf) t x1 x3 x4 r3 M2)) t x1 x3 x4 M)
def f_Md_improveLocal_74 (fu : Nat) (post : Int32 → Mm → Prop) (t : Nat) (x1 : Int32) (x2 : Int32) (kx0 : Int32) (M : Mm) : Prop :=
  vp_in x1 (ln (t + 10)) ∧ (∀ M2, M2 = up M (t + 10) x1.toNatClampNeg x2 → zb kx0 ∧ post kx0 M2)
def f_Md_improveLocal_9 (fu : Nat) (post : Int32 → Mm → Prop) : Nat → Nat → Int32 → Int32 → Int32 → Mm → Prop
  | 0, _, _, _, _, _ => False
  | kf + 1, t, x1, x2, x3, M =>
    ((3 < x3) → vp_in x1 (ln (t + 10)) ∧ (((M (t + 10) x1.toNatClampNeg) ≤ x2) → f_Md_improveLocal_74 fu post t x1 x2 0 M) ∧ (¬ ((M (t + 10) x1.toNatClampNeg) ≤ x2) → f_Md_improveLocal_74 fu post t x1 x2 1 M)) ∧ (¬ (3 < x3) → f_Md_improveLocal_17 fu post (f_Md_improveLocal_9 fu post kf) fu t x1 x2 x3 0 M)
def f_Md_improveLocal (fu : Nat) (post : Int32 → Mm → Prop) (t : Nat) (x1 : Int32) (M : Mm) : Prop :=
  vp_in x1 (ln (t + 10)) ∧ ∀ y2, y2 = (M (t + 10) x1.toNatClampNeg) → f_Md_improveLocal_9 fu post fu t x1 y2 1 M
set_option maxRecDepth 100000 in
theorem j_Md_improveLocal_46 {l : Launch} {X : CX} {g : GX} {w : WX} {fu : Nat} {post : Int32 → Mm → Prop} (hX : X.2.1 = l) (hC : Cx X g cX11_improveLocal 6 RX11 (some .boolean) 3) {K17 : Nat → Int32 → Int32 → Int32 → Int32 → Mm → Prop} (hK17 : ∀ (t : Nat) (x1 : Int32) (x2 : Int32) (x3 : Int32) (x4 : Int32) (M : Mm), ok w t 11 → K17 t x1 x2 x3 x4 M → V X g w 6 0 0 (QI X g w (fun r M => zb r ∧ post r M) 0 0) 17 [some (ob g t), some (.int x1), some (.int x2), some (.int x3), some (.int x4), none] [] M) (t : Nat) (x1 : Int32) (x3 : Int32) (x4 : Int32) (kx0 : Int32) {M : Mm} (ht : ok w t 11) (h : f_Md_improveLocal_46 fu post K17 t x1 x3 x4 kx0 M) : V X g w 6 0 0 (QI X g w (fun r M => zb r ∧ post r M) 0 0) 46 [some (ob g t), some (.int x1), none, some (.int x3), some (.int x4), none] [.int kx0] M := by
  unfold f_Md_improveLocal_46 at h
  refine V_istore_n hC (by decide) dX11_improveLocal_46 ?_
  obtain ⟨y1, ey1⟩ : ∃ z, z = x4 + 1 := ⟨_, rfl⟩
  replace h := h y1 ey1
  refine V_iinc (v := y1) hC rfl (by rw [ey1]; rfl) (by decide) dX11_improveLocal_47 ?_
  refine V_goto (tgt := 17) hC (by decide) dX11_improveLocal_50 ?_
  refine V_sub (us := [some (ob g t), some (.int x1), some (.int kx0), some (.int x3), some (.int y1), none]) ⟨rfl, rfl, rfl, rfl, rfl, trivial⟩ ?_
  exact hK17 t x1 kx0 x3 y1 M ht h
set_option maxRecDepth 100000 in
theorem l_Md_improveLocal_17 {l : Launch} {X : CX} {g : GX} {w : WX} {fu : Nat} {post : Int32 → Mm → Prop} (hX : X.2.1 = l) (hC : Cx X g cX11_improveLocal 6 RX11 (some .boolean) 3) {K9 : Nat → Int32 → Int32 → Int32 → Mm → Prop} (hK9 : ∀ (t : Nat) (x1 : Int32) (x2 : Int32) (x3 : Int32) (M : Mm), ok w t 11 → K9 t x1 x2 x3 M → V X g w 6 0 0 (QI X g w (fun r M => zb r ∧ post r M) 0 0) 9 [some (ob g t), some (.int x1), some (.int x2), some (.int x3), none, none] [] M) : ∀ (kf : Nat) (t : Nat) (x1 : Int32) (x2 : Int32) (x3 : Int32) (x4 : Int32) (M : Mm) (ht : ok w t 11) (h : f_Md_improveLocal_17 fu post K9 kf t x1 x2 x3 x4 M), V X g w 6 0 0 (QI X g w (fun r M => zb r ∧ post r M) 0 0) 17 [some (ob g t), some (.int x1), some (.int x2), some (.int x3), some (.int x4), none] [] M := by
  intro kf
  induction kf with
  | zero => intro t x1 x2 x3 x4 M ht h; exact absurd h id
  | succ kf ih =>
    intro t x1 x2 x3 x4 M ht h
    rw [f_Md_improveLocal_17] at h
    refine V_iload hC rfl dX11_improveLocal_17 ?_
    refine V_bipush (v := 6) hC (by decide) dX11_improveLocal_19 ?_
    refine V_icmp_ge (tgt := 53) hC dX11_improveLocal_21 (by decide) (fun b5 => ?_) (fun b5 => ?_)
    · replace h := h.1 b5
      obtain ⟨y1, ey1⟩ : ∃ z, z = x3 + 1 := ⟨_, rfl⟩
      replace h := h y1 ey1
      refine V_iinc (v := y1) hC rfl (by rw [ey1]; rfl) (by decide) dX11_improveLocal_53 ?_
      refine V_goto (tgt := 9) hC (by decide) dX11_improveLocal_56 ?_
      refine V_sub (us := [some (ob g t), some (.int x1), some (.int x2), some (.int y1), none, none]) ⟨rfl, rfl, rfl, rfl, trivial⟩ ?_
      exact hK9 t x1 x2 y1 M ht h
    · replace h := h.2 b5
      refine V_aload_n hC rfl dX11_improveLocal_24 ?_
      refine V_iload_n hC rfl dX11_improveLocal_25 ?_
      refine V_iload_n hC rfl dX11_improveLocal_26 ?_
      refine V_iload hC rfl dX11_improveLocal_27 ?_
      refine V_calli (As := [.int x1, .int x3, .int x4]) hC (c_Md_localBy X.2.1 g w fu _ t x1 x3 x4 M ht h) mw_X11_localBy (by decide) tw_1168 ht (by decide) rfl rfl rfl (Nat.le_of_ble_eq_true rfl) ⟨Nat.zero_le _, Nat.zero_le _⟩ dX11_improveLocal_29 (fun r3 M2 h => ?_)
      refine V_istore hC (by decide) dX11_improveLocal_32 ?_
      refine V_iload hC rfl dX11_improveLocal_34 ?_
      refine V_iload_n hC rfl dX11_improveLocal_36 ?_
      refine V_icmp_ge (tgt := 45) hC dX11_improveLocal_37 (by decide) (fun b4 => ?_) (fun b4 => ?_)
      · replace h := h.1 b4
        refine V_iload_n hC rfl dX11_improveLocal_45 ?_
        refine V_sub (us := [some (ob g t), some (.int x1), none, some (.int x3), some (.int x4), none]) ⟨rfl, rfl, rfl, rfl, trivial⟩ ?_
        exact j_Md_improveLocal_46 hX hC ih t x1 x3 x4 x2 ht h
      · replace h := h.2 b4
        refine V_iload hC rfl dX11_improveLocal_40 ?_
        refine V_goto (tgt := 46) hC (by decide) dX11_improveLocal_42 ?_
        refine V_sub (us := [some (ob g t), some (.int x1), none, some (.int x3), some (.int x4), none]) ⟨rfl, rfl, rfl, rfl, trivial⟩ ?_
        exact j_Md_improveLocal_46 hX hC ih t x1 x3 x4 r3 ht h
set_option maxRecDepth 100000 in
theorem j_Md_improveLocal_74 {l : Launch} {X : CX} {g : GX} {w : WX} {fu : Nat} {post : Int32 → Mm → Prop} (hX : X.2.1 = l) (hC : Cx X g cX11_improveLocal 6 RX11 (some .boolean) 3) (t : Nat) (x1 : Int32) (x2 : Int32) (kx0 : Int32) {M : Mm} (ht : ok w t 11) (h : f_Md_improveLocal_74 fu post t x1 x2 kx0 M) : V X g w 6 0 0 (QI X g w (fun r M => zb r ∧ post r M) 0 0) 74 [some (ob g t), some (.int x1), some (.int x2), none, none, none] [.int kx0] M := by
  unfold f_Md_improveLocal_74 at h
  refine V_istore_n hC (by decide) dX11_improveLocal_74 ?_
  refine V_aload_n hC rfl dX11_improveLocal_75 ?_
  refine gf_11_23 hC ht tw_840 dX11_improveLocal_76 ?_
  refine V_iload_n hC rfl dX11_improveLocal_79 ?_
  refine V_iload_n hC rfl dX11_improveLocal_80 ?_
  obtain ⟨q1, h⟩ := h
  refine V_iast hC (ok_11_23 ht) q1 dX11_improveLocal_81 ?_
  obtain ⟨M2, eM2⟩ : ∃ z, z = up M (t + 10) x1.toNatClampNeg x2 := ⟨_, rfl⟩
  replace h := h M2 eM2
  refine V_mem eM2 ?_
  refine V_iload_n hC rfl dX11_improveLocal_82 ?_
  exact V_zret hC h.1 h.2 dX11_improveLocal_83
set_option maxRecDepth 100000 in
theorem l_Md_improveLocal_9 {l : Launch} {X : CX} {g : GX} {w : WX} {fu : Nat} {post : Int32 → Mm → Prop} (hX : X.2.1 = l) (hC : Cx X g cX11_improveLocal 6 RX11 (some .boolean) 3) : ∀ (kf : Nat) (t : Nat) (x1 : Int32) (x2 : Int32) (x3 : Int32) (M : Mm) (ht : ok w t 11) (h : f_Md_improveLocal_9 fu post kf t x1 x2 x3 M), V X g w 6 0 0 (QI X g w (fun r M => zb r ∧ post r M) 0 0) 9 [some (ob g t), some (.int x1), some (.int x2), some (.int x3), none, none] [] M := by
  intro kf
  induction kf with
  | zero => intro t x1 x2 x3 M ht h; exact absurd h id
  | succ kf ih =>
    intro t x1 x2 x3 M ht h
    rw [f_Md_improveLocal_9] at h
    refine V_iload_n hC rfl dX11_improveLocal_9 ?_
    refine V_iconst (v := 3) hC (by decide) dX11_improveLocal_10 ?_
    refine V_icmp_gt (tgt := 59) hC dX11_improveLocal_11 (by decide) (fun b3 => ?_) (fun b3 => ?_)
    · replace h := h.1 b3
      refine V_iload_n hC rfl dX11_improveLocal_59 ?_
      refine V_aload_n hC rfl dX11_improveLocal_60 ?_
      refine gf_11_23 hC ht tw_840 dX11_improveLocal_61 ?_
      refine V_iload_n hC rfl dX11_improveLocal_64 ?_
      obtain ⟨q1, h⟩ := h
      refine V_iald hC (ok_11_23 ht) q1 dX11_improveLocal_65 ?_
      refine V_icmp_ge (tgt := 73) hC dX11_improveLocal_66 (by decide) (fun b2 => ?_) (fun b2 => ?_)
      · replace h := h.1 b2
        refine V_iconst (v := 0) hC (by decide) dX11_improveLocal_73 ?_
        refine V_sub (us := [some (ob g t), some (.int x1), some (.int x2), none, none, none]) ⟨rfl, rfl, rfl, trivial⟩ ?_
        exact j_Md_improveLocal_74 hX hC t x1 x2 0 ht h
      · replace h := h.2 b2
        refine V_iconst (v := 1) hC (by decide) dX11_improveLocal_69 ?_
        refine V_goto (tgt := 74) hC (by decide) dX11_improveLocal_70 ?_
        refine V_sub (us := [some (ob g t), some (.int x1), some (.int x2), none, none, none]) ⟨rfl, rfl, rfl, trivial⟩ ?_
        exact j_Md_improveLocal_74 hX hC t x1 x2 1 ht h
    · replace h := h.2 b3
      refine V_iconst (v := 0) hC (by decide) dX11_improveLocal_14 ?_
      refine V_istore hC (by decide) dX11_improveLocal_15 ?_
      refine V_sub (us := [some (ob g t), some (.int x1), some (.int x2), some (.int x3), some (.int 0), none]) ⟨rfl, rfl, rfl, rfl, rfl, trivial⟩ ?_
      exact l_Md_improveLocal_17 hX hC ih fu t x1 x2 x3 0 M ht h
set_option maxRecDepth 100000 in
theorem c_Md_improveLocal (l : Launch) (g : GX) (w : WX) (fu : Nat) (post : Int32 → Mm → Prop) (t : Nat) (x1 : Int32) (M : Mm) (ht : ok w t 11) (h : f_Md_improveLocal fu post t x1 M) : Met l yX11_improveLocal [Cond.code yX11_improveLocal cX11_improveLocal 6 (some .boolean)] (rmC 3 0 0) (va_Pc [ob g t, .int x1] (Wb g w M)) (va_Qi (fun r M => zb r ∧ post r M) (Wb g w) (Af g)) 0 0 (Af g) := by
  refine Ct_i (by decide) rfl (fun v hv => by simp only [List.mem_cons, List.not_mem_nil, or_false] at hv; rcases hv with rfl | rfl <;> rfl) (Nat.le_of_ble_eq_true rfl) (Nat.le_refl _) ?_
  intro X hX _ hC
  unfold f_Md_improveLocal at h
  refine V_sub (us := [some (ob g t), some (.int x1), none, none, none, none]) ⟨rfl, rfl, trivial⟩ ?_
  refine V_aload_n hC rfl dX11_improveLocal_0 ?_
  refine gf_11_23 hC ht tw_840 dX11_improveLocal_1 ?_
  refine V_iload_n hC rfl dX11_improveLocal_4 ?_
  obtain ⟨q1, h⟩ := h
  refine V_iald hC (ok_11_23 ht) q1 dX11_improveLocal_5 ?_
  refine V_topi (fun y2 ey2 => ?_)
  replace h := h y2 ey2
  refine V_istore_n hC (by decide) dX11_improveLocal_6 ?_
  refine V_iconst (v := 1) hC (by decide) dX11_improveLocal_7 ?_
  refine V_istore_n hC (by decide) dX11_improveLocal_8 ?_
  refine V_sub (us := [some (ob g t), some (.int x1), some (.int y2), some (.int 1), none, none]) ⟨rfl, rfl, rfl, rfl, trivial⟩ ?_
  exact l_Md_improveLocal_9 hX hC fu t x1 y2 1 M ht h
def f_Md_findLocalCosts_48 (fu : Nat) (post : Mm → Prop) (K2 : Nat → Int32 → Int32 → Mm → Prop) (t : Nat) (x1 : Int32) (x2 : Int32) (ka0 : Nat) (kx1 : Int32) (kx2 : Int32) (M : Mm) : Prop :=
  vp_in kx1 (ln ka0) ∧ (∀ M2, M2 = up M ka0 kx1.toNatClampNeg kx2 → ∀ y3, y3 = x2 + 1 → K2 t x1 y3 M2)
def f_Md_findLocalCosts_46 (fu : Nat) (post : Mm → Prop) (K2 : Nat → Int32 → Int32 → Mm → Prop) (t : Nat) (x1 : Int32) (x2 : Int32) (ka0 : Nat) (kx1 : Int32) (M : Mm) : Prop :=
  f_Md_findLocalCosts_48 fu post K2 t x1 x2 ka0 kx1 1000000 M
def f_Md_findLocalCosts_123 (fu : Nat) (post : Mm → Prop) (K78 : Nat → Int32 → Int32 → Int32 → Mm → Prop) (t : Nat) (x2 : Int32) (x4 : Int32) (kx0 : Int32) (M : Mm) : Prop :=
  ∀ y1, y1 = x4 + 1 → K78 t x2 kx0 y1 M
def f_Md_findLocalCosts_118 (fu : Nat) (post : Mm → Prop) (K78 : Nat → Int32 → Int32 → Int32 → Mm → Prop) (t : Nat) (x2 : Int32) (x4 : Int32) (M : Mm) : Prop :=
  f_Md_findLocalCosts_123 fu post K78 t x2 x4 1 M
def f_Md_findLocalCosts_114 (fu : Nat) (post : Mm → Prop) (K78 : Nat → Int32 → Int32 → Int32 → Mm → Prop) (t : Nat) (x2 : Int32) (x3 : Int32) (x4 : Int32) (M : Mm) : Prop :=
  ((x3 = 0) → f_Md_findLocalCosts_123 fu post K78 t x2 x4 0 M) ∧ (¬ (x3 = 0) → f_Md_findLocalCosts_118 fu post K78 t x2 x4 M)
def f_Md_findLocalCosts_78 (fu : Nat) (post : Mm → Prop) (K69 : Nat → Int32 → Int32 → Mm → Prop) : Nat → Nat → Int32 → Int32 → Int32 → Mm → Prop
  | 0, _, _, _, _, _ => False
  | kf + 1, t, x2, x3, x4, M =>
    vp_in 0 (ln (t + 1)) ∧ (((16 * (M (t + 1) 0)) ≤ x4) → K69 t x2 x3 M) ∧ (¬ ((16 * (M (t + 1) 0)) ≤ x4) → f_Md_isConfig fu (fun r3 M2 => ((r3 = 0) → f_Md_findLocalCosts_114 fu post (f_Md_findLocalCosts_78 fu post K69 kf) t x2 x3 x4 M2) ∧ (¬ (r3 = 0) → f_Md_improveLocal fu (fun r5 M4 => ((r5 = 0) → f_Md_findLocalCosts_114 fu post (f_Md_findLocalCosts_78 fu post K69 kf) t x2 x3 x4 M4) ∧ (¬ (r5 = 0) → f_Md_findLocalCosts_118 fu post (f_Md_findLocalCosts_78 fu post K69 kf) t x2 x4 M4)) t ((96 * x2) + x4) M2)) x4 M)
def f_Md_findLocalCosts_69 (fu : Nat) (post : Mm → Prop) (K63 : Nat → Int32 → Mm → Prop) : Nat → Nat → Int32 → Int32 → Mm → Prop
  | 0, _, _, _, _ => False
  | kf + 1, t, x2, x3, M =>
    ((x3 = 0) → ∀ y1, y1 = x2 + (-1) → K63 t y1 M) ∧ (¬ (x3 = 0) → f_Md_findLocalCosts_78 fu post (f_Md_findLocalCosts_69 fu post K63 kf) fu t x2 0 0 M)
def f_Md_findLocalCosts_63 (fu : Nat) (post : Mm → Prop) : Nat → Nat → Int32 → Mm → Prop
  | 0, _, _, _ => False
  | kf + 1, t, x2, M =>
    ((x2 < 0) → post M) ∧ (¬ (x2 < 0) → f_Md_findLocalCosts_69 fu post (f_Md_findLocalCosts_63 fu post kf) fu t x2 1 M)
def f_Md_findLocalCosts_2 (fu : Nat) (post : Mm → Prop) : Nat → Nat → Int32 → Int32 → Mm → Prop
  | 0, _, _, _, _ => False
  | kf + 1, t, x1, x2, M =>
    vp_in 56 (ln (t + 1)) ∧ (((96 * ((M (t + 1) 56) + 1)) ≤ x2) → vp_in 56 (ln (t + 1)) ∧ ∀ y3, y3 = (M (t + 1) 56) → f_Md_findLocalCosts_63 fu post fu t y3 M) ∧ (¬ ((96 * ((M (t + 1) 56) + 1)) ≤ x2) → f_Md_isConfig fu (fun r5 M4 => ((r5 = 0) → f_Md_findLocalCosts_46 fu post (f_Md_findLocalCosts_2 fu post kf) t x1 x2 (t + 10) x2 M4) ∧ (¬ (r5 = 0) → f_Md_passes fu (fun r7 M6 => ((r7 = 0) → f_Md_findLocalCosts_46 fu post (f_Md_findLocalCosts_2 fu post kf) t x1 x2 (t + 10) x2 M6) ∧ (¬ (r7 = 0) → f_Md_findLocalCosts_48 fu post (f_Md_findLocalCosts_2 fu post kf) t x1 x2 (t + 10) x2 0 M6)) t x2 x1 M4)) (x2 - x2 / 96 * 96) M)
def f_Md_findLocalCosts (fu : Nat) (post : Mm → Prop) (t : Nat) (x1 : Int32) (M : Mm) : Prop :=
  f_Md_findLocalCosts_2 fu post fu t x1 0 M
set_option maxRecDepth 100000 in
theorem j_Md_findLocalCosts_48 {l : Launch} {X : CX} {g : GX} {w : WX} {fu : Nat} {post : Mm → Prop} (hX : X.2.1 = l) (hC : Cx X g cX11_findLocalCosts 5 RX11 (none) 4) {K2 : Nat → Int32 → Int32 → Mm → Prop} (hK2 : ∀ (t : Nat) (x1 : Int32) (x2 : Int32) (M : Mm), ok w t 11 → K2 t x1 x2 M → V X g w 5 0 0 (QV X g w post 0 0) 2 [some (ob g t), some (.int x1), some (.int x2), none, none] [] M) (t : Nat) (x1 : Int32) (x2 : Int32) (ka0 : Nat) (kx1 : Int32) (kx2 : Int32) {M : Mm} (ht : ok w t 11) (hka0 : ok w ka0 20) (h : f_Md_findLocalCosts_48 fu post K2 t x1 x2 ka0 kx1 kx2 M) : V X g w 5 0 0 (QV X g w post 0 0) 48 [some (ob g t), some (.int x1), some (.int x2), none, none] [.int kx2, .int kx1, ob g ka0] M := by
  unfold f_Md_findLocalCosts_48 at h
  obtain ⟨q1, h⟩ := h
  refine V_iast hC hka0 q1 dX11_findLocalCosts_48 ?_
  obtain ⟨M2, eM2⟩ : ∃ z, z = up M ka0 kx1.toNatClampNeg kx2 := ⟨_, rfl⟩
  replace h := h M2 eM2
  refine V_mem eM2 ?_
  obtain ⟨y3, ey3⟩ : ∃ z, z = x2 + 1 := ⟨_, rfl⟩
  replace h := h y3 ey3
  refine V_iinc (v := y3) hC rfl (by rw [ey3]; rfl) (by decide) dX11_findLocalCosts_49 ?_
  refine V_goto (tgt := 2) hC (by decide) dX11_findLocalCosts_52 ?_
  refine V_sub (us := [some (ob g t), some (.int x1), some (.int y3), none, none]) ⟨rfl, rfl, rfl, trivial⟩ ?_
  exact hK2 t x1 y3 M2 ht h
set_option maxRecDepth 100000 in
theorem j_Md_findLocalCosts_46 {l : Launch} {X : CX} {g : GX} {w : WX} {fu : Nat} {post : Mm → Prop} (hX : X.2.1 = l) (hC : Cx X g cX11_findLocalCosts 5 RX11 (none) 4) {K2 : Nat → Int32 → Int32 → Mm → Prop} (hK2 : ∀ (t : Nat) (x1 : Int32) (x2 : Int32) (M : Mm), ok w t 11 → K2 t x1 x2 M → V X g w 5 0 0 (QV X g w post 0 0) 2 [some (ob g t), some (.int x1), some (.int x2), none, none] [] M) (t : Nat) (x1 : Int32) (x2 : Int32) (ka0 : Nat) (kx1 : Int32) {M : Mm} (ht : ok w t 11) (hka0 : ok w ka0 20) (h : f_Md_findLocalCosts_46 fu post K2 t x1 x2 ka0 kx1 M) : V X g w 5 0 0 (QV X g w post 0 0) 46 [some (ob g t), some (.int x1), some (.int x2), none, none] [.int kx1, ob g ka0] M := by
  unfold f_Md_findLocalCosts_46 at h
  refine V_ldc hC tw_1072 dX11_findLocalCosts_46 ?_
  refine V_sub (us := [some (ob g t), some (.int x1), some (.int x2), none, none]) ⟨rfl, rfl, rfl, trivial⟩ ?_
  exact j_Md_findLocalCosts_48 hX hC hK2 t x1 x2 ka0 kx1 1000000 ht hka0 h
set_option maxRecDepth 100000 in
theorem j_Md_findLocalCosts_123 {l : Launch} {X : CX} {g : GX} {w : WX} {fu : Nat} {post : Mm → Prop} (hX : X.2.1 = l) (hC : Cx X g cX11_findLocalCosts 5 RX11 (none) 4) {K78 : Nat → Int32 → Int32 → Int32 → Mm → Prop} (hK78 : ∀ (t : Nat) (x2 : Int32) (x3 : Int32) (x4 : Int32) (M : Mm), ok w t 11 → K78 t x2 x3 x4 M → V X g w 5 0 0 (QV X g w post 0 0) 78 [some (ob g t), none, some (.int x2), some (.int x3), some (.int x4)] [] M) (t : Nat) (x2 : Int32) (x4 : Int32) (kx0 : Int32) {M : Mm} (ht : ok w t 11) (h : f_Md_findLocalCosts_123 fu post K78 t x2 x4 kx0 M) : V X g w 5 0 0 (QV X g w post 0 0) 123 [some (ob g t), none, some (.int x2), none, some (.int x4)] [.int kx0] M := by
  unfold f_Md_findLocalCosts_123 at h
  refine V_istore_n hC (by decide) dX11_findLocalCosts_123 ?_
  obtain ⟨y1, ey1⟩ : ∃ z, z = x4 + 1 := ⟨_, rfl⟩
  replace h := h y1 ey1
  refine V_iinc (v := y1) hC rfl (by rw [ey1]; rfl) (by decide) dX11_findLocalCosts_124 ?_
  refine V_goto (tgt := 78) hC (by decide) dX11_findLocalCosts_127 ?_
  refine V_sub (us := [some (ob g t), none, some (.int x2), some (.int kx0), some (.int y1)]) ⟨rfl, rfl, rfl, rfl, trivial⟩ ?_
  exact hK78 t x2 kx0 y1 M ht h
set_option maxRecDepth 100000 in
theorem j_Md_findLocalCosts_118 {l : Launch} {X : CX} {g : GX} {w : WX} {fu : Nat} {post : Mm → Prop} (hX : X.2.1 = l) (hC : Cx X g cX11_findLocalCosts 5 RX11 (none) 4) {K78 : Nat → Int32 → Int32 → Int32 → Mm → Prop} (hK78 : ∀ (t : Nat) (x2 : Int32) (x3 : Int32) (x4 : Int32) (M : Mm), ok w t 11 → K78 t x2 x3 x4 M → V X g w 5 0 0 (QV X g w post 0 0) 78 [some (ob g t), none, some (.int x2), some (.int x3), some (.int x4)] [] M) (t : Nat) (x2 : Int32) (x4 : Int32) {M : Mm} (ht : ok w t 11) (h : f_Md_findLocalCosts_118 fu post K78 t x2 x4 M) : V X g w 5 0 0 (QV X g w post 0 0) 118 [some (ob g t), none, some (.int x2), none, some (.int x4)] [] M := by
  unfold f_Md_findLocalCosts_118 at h
  refine V_iconst (v := 1) hC (by decide) dX11_findLocalCosts_118 ?_
  refine V_goto (tgt := 123) hC (by decide) dX11_findLocalCosts_119 ?_
  refine V_sub (us := [some (ob g t), none, some (.int x2), none, some (.int x4)]) ⟨rfl, rfl, rfl, trivial⟩ ?_
  exact j_Md_findLocalCosts_123 hX hC hK78 t x2 x4 1 ht h
set_option maxRecDepth 100000 in
theorem j_Md_findLocalCosts_114 {l : Launch} {X : CX} {g : GX} {w : WX} {fu : Nat} {post : Mm → Prop} (hX : X.2.1 = l) (hC : Cx X g cX11_findLocalCosts 5 RX11 (none) 4) {K78 : Nat → Int32 → Int32 → Int32 → Mm → Prop} (hK78 : ∀ (t : Nat) (x2 : Int32) (x3 : Int32) (x4 : Int32) (M : Mm), ok w t 11 → K78 t x2 x3 x4 M → V X g w 5 0 0 (QV X g w post 0 0) 78 [some (ob g t), none, some (.int x2), some (.int x3), some (.int x4)] [] M) (t : Nat) (x2 : Int32) (x3 : Int32) (x4 : Int32) {M : Mm} (ht : ok w t 11) (h : f_Md_findLocalCosts_114 fu post K78 t x2 x3 x4 M) : V X g w 5 0 0 (QV X g w post 0 0) 114 [some (ob g t), none, some (.int x2), some (.int x3), some (.int x4)] [] M := by
  unfold f_Md_findLocalCosts_114 at h
  refine V_iload_n hC rfl dX11_findLocalCosts_114 ?_
  refine V_if_eq (tgt := 122) hC dX11_findLocalCosts_115 (by decide) (fun b1 => ?_) (fun b1 => ?_)
  · replace h := h.1 b1
    refine V_iconst (v := 0) hC (by decide) dX11_findLocalCosts_122 ?_
    refine V_sub (us := [some (ob g t), none, some (.int x2), none, some (.int x4)]) ⟨rfl, rfl, rfl, trivial⟩ ?_
    exact j_Md_findLocalCosts_123 hX hC hK78 t x2 x4 0 ht h
  · replace h := h.2 b1
    refine V_sub (us := [some (ob g t), none, some (.int x2), none, some (.int x4)]) ⟨rfl, rfl, rfl, trivial⟩ ?_
    exact j_Md_findLocalCosts_118 hX hC hK78 t x2 x4 ht h
set_option maxRecDepth 100000 in
theorem l_Md_findLocalCosts_78 {l : Launch} {X : CX} {g : GX} {w : WX} {fu : Nat} {post : Mm → Prop} (hX : X.2.1 = l) (hC : Cx X g cX11_findLocalCosts 5 RX11 (none) 4) {K69 : Nat → Int32 → Int32 → Mm → Prop} (hK69 : ∀ (t : Nat) (x2 : Int32) (x3 : Int32) (M : Mm), ok w t 11 → K69 t x2 x3 M → V X g w 5 0 0 (QV X g w post 0 0) 69 [some (ob g t), none, some (.int x2), some (.int x3), none] [] M) : ∀ (kf : Nat) (t : Nat) (x2 : Int32) (x3 : Int32) (x4 : Int32) (M : Mm) (ht : ok w t 11) (h : f_Md_findLocalCosts_78 fu post K69 kf t x2 x3 x4 M), V X g w 5 0 0 (QV X g w post 0 0) 78 [some (ob g t), none, some (.int x2), some (.int x3), some (.int x4)] [] M := by
  intro kf
  induction kf with
  | zero => intro t x2 x3 x4 M ht h; exact absurd h id
  | succ kf ih =>
    intro t x2 x3 x4 M ht h
    rw [f_Md_findLocalCosts_78] at h
    refine V_iload hC rfl dX11_findLocalCosts_78 ?_
    refine V_bipush (v := 16) hC (by decide) dX11_findLocalCosts_80 ?_
    refine V_aload_n hC rfl dX11_findLocalCosts_82 ?_
    refine gf_11_0 hC ht tw_817 dX11_findLocalCosts_83 ?_
    refine V_iconst (v := 0) hC (by decide) dX11_findLocalCosts_86 ?_
    obtain ⟨q1, h⟩ := h
    refine V_iaL (j := 0) (by decide) hC (ok_11_0 ht) q1 dX11_findLocalCosts_87 ?_
    refine V_imul hC dX11_findLocalCosts_88 ?_
    refine V_icmp_ge (tgt := 130) hC dX11_findLocalCosts_89 (by decide) (fun b8 => ?_) (fun b8 => ?_)
    · replace h := h.1 b8
      refine V_goto (tgt := 69) hC (by decide) dX11_findLocalCosts_130 ?_
      refine V_sub (us := [some (ob g t), none, some (.int x2), some (.int x3), none]) ⟨rfl, rfl, rfl, trivial⟩ ?_
      exact hK69 t x2 x3 M ht h
    · replace h := h.2 b8
      refine V_iload hC rfl dX11_findLocalCosts_92 ?_
      refine V_scalli (As := [.int x4]) hC (c_Md_isConfig X.2.1 g w fu _ x4 M h) mw_X11_isConfig (by decide) tw_1073 rfl rfl (Nat.le_of_ble_eq_true rfl) ⟨Nat.zero_le _, Nat.zero_le _⟩ dX11_findLocalCosts_94 (fun r3 M2 h => ?_)
      obtain ⟨hzr3, h⟩ := h
      refine V_if_eq (tgt := 114) hC dX11_findLocalCosts_97 (by decide) (fun b7 => ?_) (fun b7 => ?_)
      · replace h := h.1 b7
        refine V_sub (us := [some (ob g t), none, some (.int x2), some (.int x3), some (.int x4)]) ⟨rfl, rfl, rfl, rfl, trivial⟩ ?_
        exact j_Md_findLocalCosts_114 hX hC ih t x2 x3 x4 ht h
      · replace h := h.2 b7
        refine V_aload_n hC rfl dX11_findLocalCosts_100 ?_
        refine V_bipush (v := 96) hC (by decide) dX11_findLocalCosts_101 ?_
        refine V_iload_n hC rfl dX11_findLocalCosts_103 ?_
        refine V_imul hC dX11_findLocalCosts_104 ?_
        refine V_iload hC rfl dX11_findLocalCosts_105 ?_
        refine V_iadd hC dX11_findLocalCosts_107 ?_
        refine V_calli (As := [.int ((96 * x2) + x4)]) hC (c_Md_improveLocal X.2.1 g w fu _ t ((96 * x2) + x4) M2 ht h) mw_X11_improveLocal (by decide) tw_1164 ht (by decide) rfl rfl rfl (Nat.le_of_ble_eq_true rfl) ⟨Nat.zero_le _, Nat.zero_le _⟩ dX11_findLocalCosts_108 (fun r5 M4 h => ?_)
        obtain ⟨hzr5, h⟩ := h
        refine V_if_ne (tgt := 118) hC dX11_findLocalCosts_111 (by decide) (fun b6 => ?_) (fun b6 => ?_)
        · replace h := h.2 b6
          refine V_sub (us := [some (ob g t), none, some (.int x2), none, some (.int x4)]) ⟨rfl, rfl, rfl, trivial⟩ ?_
          exact j_Md_findLocalCosts_118 hX hC ih t x2 x4 ht h
        · replace h := h.1 b6
          refine V_sub (us := [some (ob g t), none, some (.int x2), some (.int x3), some (.int x4)]) ⟨rfl, rfl, rfl, rfl, trivial⟩ ?_
          exact j_Md_findLocalCosts_114 hX hC ih t x2 x3 x4 ht h
set_option maxRecDepth 100000 in
theorem l_Md_findLocalCosts_69 {l : Launch} {X : CX} {g : GX} {w : WX} {fu : Nat} {post : Mm → Prop} (hX : X.2.1 = l) (hC : Cx X g cX11_findLocalCosts 5 RX11 (none) 4) {K63 : Nat → Int32 → Mm → Prop} (hK63 : ∀ (t : Nat) (x2 : Int32) (M : Mm), ok w t 11 → K63 t x2 M → V X g w 5 0 0 (QV X g w post 0 0) 63 [some (ob g t), none, some (.int x2), none, none] [] M) : ∀ (kf : Nat) (t : Nat) (x2 : Int32) (x3 : Int32) (M : Mm) (ht : ok w t 11) (h : f_Md_findLocalCosts_69 fu post K63 kf t x2 x3 M), V X g w 5 0 0 (QV X g w post 0 0) 69 [some (ob g t), none, some (.int x2), some (.int x3), none] [] M := by
  intro kf
  induction kf with
  | zero => intro t x2 x3 M ht h; exact absurd h id
  | succ kf ih =>
    intro t x2 x3 M ht h
    rw [f_Md_findLocalCosts_69] at h
    refine V_iload_n hC rfl dX11_findLocalCosts_69 ?_
    refine V_if_eq (tgt := 133) hC dX11_findLocalCosts_70 (by decide) (fun b2 => ?_) (fun b2 => ?_)
    · replace h := h.1 b2
      obtain ⟨y1, ey1⟩ : ∃ z, z = x2 + (-1) := ⟨_, rfl⟩
      replace h := h y1 ey1
      refine V_iinc (v := y1) hC rfl (by rw [ey1]; rfl) (by decide) dX11_findLocalCosts_133 ?_
      refine V_goto (tgt := 63) hC (by decide) dX11_findLocalCosts_136 ?_
      refine V_sub (us := [some (ob g t), none, some (.int y1), none, none]) ⟨rfl, rfl, trivial⟩ ?_
      exact hK63 t y1 M ht h
    · replace h := h.2 b2
      refine V_iconst (v := 0) hC (by decide) dX11_findLocalCosts_73 ?_
      refine V_istore_n hC (by decide) dX11_findLocalCosts_74 ?_
      refine V_iconst (v := 0) hC (by decide) dX11_findLocalCosts_75 ?_
      refine V_istore hC (by decide) dX11_findLocalCosts_76 ?_
      refine V_sub (us := [some (ob g t), none, some (.int x2), some (.int 0), some (.int 0)]) ⟨rfl, rfl, rfl, rfl, trivial⟩ ?_
      exact l_Md_findLocalCosts_78 hX hC ih fu t x2 0 0 M ht h
set_option maxRecDepth 100000 in
theorem l_Md_findLocalCosts_63 {l : Launch} {X : CX} {g : GX} {w : WX} {fu : Nat} {post : Mm → Prop} (hX : X.2.1 = l) (hC : Cx X g cX11_findLocalCosts 5 RX11 (none) 4) : ∀ (kf : Nat) (t : Nat) (x2 : Int32) (M : Mm) (ht : ok w t 11) (h : f_Md_findLocalCosts_63 fu post kf t x2 M), V X g w 5 0 0 (QV X g w post 0 0) 63 [some (ob g t), none, some (.int x2), none, none] [] M := by
  intro kf
  induction kf with
  | zero => intro t x2 M ht h; exact absurd h id
  | succ kf ih =>
    intro t x2 M ht h
    rw [f_Md_findLocalCosts_63] at h
    refine V_iload_n hC rfl dX11_findLocalCosts_63 ?_
    refine V_if_lt (tgt := 139) hC dX11_findLocalCosts_64 (by decide) (fun b1 => ?_) (fun b1 => ?_)
    · replace h := h.1 b1
      exact V_vret hC h dX11_findLocalCosts_139
    · replace h := h.2 b1
      refine V_iconst (v := 1) hC (by decide) dX11_findLocalCosts_67 ?_
      refine V_istore_n hC (by decide) dX11_findLocalCosts_68 ?_
      refine V_sub (us := [some (ob g t), none, some (.int x2), some (.int 1), none]) ⟨rfl, rfl, rfl, trivial⟩ ?_
      exact l_Md_findLocalCosts_69 hX hC ih fu t x2 1 M ht h
set_option maxRecDepth 100000 in
theorem l_Md_findLocalCosts_2 {l : Launch} {X : CX} {g : GX} {w : WX} {fu : Nat} {post : Mm → Prop} (hX : X.2.1 = l) (hC : Cx X g cX11_findLocalCosts 5 RX11 (none) 4) : ∀ (kf : Nat) (t : Nat) (x1 : Int32) (x2 : Int32) (M : Mm) (ht : ok w t 11) (h : f_Md_findLocalCosts_2 fu post kf t x1 x2 M), V X g w 5 0 0 (QV X g w post 0 0) 2 [some (ob g t), some (.int x1), some (.int x2), none, none] [] M := by
  intro kf
  induction kf with
  | zero => intro t x1 x2 M ht h; exact absurd h id
  | succ kf ih =>
    intro t x1 x2 M ht h
    rw [f_Md_findLocalCosts_2] at h
    refine V_iload_n hC rfl dX11_findLocalCosts_2 ?_
    refine V_bipush (v := 96) hC (by decide) dX11_findLocalCosts_3 ?_
    refine V_aload_n hC rfl dX11_findLocalCosts_5 ?_
    refine gf_11_0 hC ht tw_817 dX11_findLocalCosts_6 ?_
    refine V_bipush (v := 56) hC (by decide) dX11_findLocalCosts_9 ?_
    obtain ⟨q1, h⟩ := h
    refine V_iaL (j := 56) (by decide) hC (ok_11_0 ht) q1 dX11_findLocalCosts_11 ?_
    refine V_iconst (v := 1) hC (by decide) dX11_findLocalCosts_12 ?_
    refine V_iadd hC dX11_findLocalCosts_13 ?_
    refine V_imul hC dX11_findLocalCosts_14 ?_
    refine V_icmp_ge (tgt := 55) hC dX11_findLocalCosts_15 (by decide) (fun b10 => ?_) (fun b10 => ?_)
    · replace h := h.1 b10
      refine V_aload_n hC rfl dX11_findLocalCosts_55 ?_
      refine gf_11_0 hC ht tw_817 dX11_findLocalCosts_56 ?_
      refine V_bipush (v := 56) hC (by decide) dX11_findLocalCosts_59 ?_
      obtain ⟨q2, h⟩ := h
      refine V_iaL (j := 56) (by decide) hC (ok_11_0 ht) q2 dX11_findLocalCosts_61 ?_
      refine V_topi (fun y3 ey3 => ?_)
      replace h := h y3 ey3
      refine V_istore_n hC (by decide) dX11_findLocalCosts_62 ?_
      refine V_sub (us := [some (ob g t), none, some (.int y3), none, none]) ⟨rfl, rfl, trivial⟩ ?_
      exact l_Md_findLocalCosts_63 hX hC fu t y3 M ht h
    · replace h := h.2 b10
      refine V_aload_n hC rfl dX11_findLocalCosts_18 ?_
      refine gf_11_23 hC ht tw_840 dX11_findLocalCosts_19 ?_
      refine V_iload_n hC rfl dX11_findLocalCosts_22 ?_
      refine V_iload_n hC rfl dX11_findLocalCosts_23 ?_
      refine V_bipush (v := 96) hC (by decide) dX11_findLocalCosts_24 ?_
      refine V_irem hC (by decide) dX11_findLocalCosts_26 ?_
      refine V_scalli (As := [.int (x2 - x2 / 96 * 96)]) hC (c_Md_isConfig X.2.1 g w fu _ (x2 - x2 / 96 * 96) M h) mw_X11_isConfig (by decide) tw_1073 rfl rfl (Nat.le_of_ble_eq_true rfl) ⟨Nat.zero_le _, Nat.zero_le _⟩ dX11_findLocalCosts_27 (fun r5 M4 h => ?_)
      obtain ⟨hzr5, h⟩ := h
      refine V_if_eq (tgt := 46) hC dX11_findLocalCosts_30 (by decide) (fun b9 => ?_) (fun b9 => ?_)
      · replace h := h.1 b9
        refine V_sub (us := [some (ob g t), some (.int x1), some (.int x2), none, none]) ⟨rfl, rfl, rfl, trivial⟩ ?_
        exact j_Md_findLocalCosts_46 hX hC ih t x1 x2 (t + 10) x2 ht (ok_11_23 ht) h
      · replace h := h.2 b9
        refine V_aload_n hC rfl dX11_findLocalCosts_33 ?_
        refine V_iload_n hC rfl dX11_findLocalCosts_34 ?_
        refine V_iload_n hC rfl dX11_findLocalCosts_35 ?_
        refine V_calli (As := [.int x2, .int x1]) hC (c_Md_passes X.2.1 g w fu _ t x2 x1 M4 ht h) mw_X11_passes (by decide) tw_1160 ht (by decide) rfl rfl rfl (Nat.le_of_ble_eq_true rfl) ⟨Nat.zero_le _, Nat.zero_le _⟩ dX11_findLocalCosts_36 (fun r7 M6 h => ?_)
        obtain ⟨hzr7, h⟩ := h
        refine V_if_eq (tgt := 46) hC dX11_findLocalCosts_39 (by decide) (fun b8 => ?_) (fun b8 => ?_)
        · replace h := h.1 b8
          refine V_sub (us := [some (ob g t), some (.int x1), some (.int x2), none, none]) ⟨rfl, rfl, rfl, trivial⟩ ?_
          exact j_Md_findLocalCosts_46 hX hC ih t x1 x2 (t + 10) x2 ht (ok_11_23 ht) h
        · replace h := h.2 b8
          refine V_iconst (v := 0) hC (by decide) dX11_findLocalCosts_42 ?_
          refine V_goto (tgt := 48) hC (by decide) dX11_findLocalCosts_43 ?_
          refine V_sub (us := [some (ob g t), some (.int x1), some (.int x2), none, none]) ⟨rfl, rfl, rfl, trivial⟩ ?_
          exact j_Md_findLocalCosts_48 hX hC ih t x1 x2 (t + 10) x2 0 ht (ok_11_23 ht) h
set_option maxRecDepth 100000 in
theorem c_Md_findLocalCosts (l : Launch) (g : GX) (w : WX) (fu : Nat) (post : Mm → Prop) (t : Nat) (x1 : Int32) (M : Mm) (ht : ok w t 11) (h : f_Md_findLocalCosts fu post t x1 M) : Met l yX11_findLocalCosts [Cond.code yX11_findLocalCosts cX11_findLocalCosts 5 (none)] (rmC 4 0 0) (va_Pc [ob g t, .int x1] (Wb g w M)) (va_Qv post (Wb g w) (Af g)) 0 0 (Af g) := by
  refine Ct_v (by decide) rfl (fun v hv => by simp only [List.mem_cons, List.not_mem_nil, or_false] at hv; rcases hv with rfl | rfl <;> rfl) (Nat.le_of_ble_eq_true rfl) (Nat.le_refl _) ?_
  intro X hX _ hC
  unfold f_Md_findLocalCosts at h
  refine V_sub (us := [some (ob g t), some (.int x1), none, none, none]) ⟨rfl, rfl, trivial⟩ ?_
  refine V_iconst (v := 0) hC (by decide) dX11_findLocalCosts_0 ?_
  refine V_istore_n hC (by decide) dX11_findLocalCosts_1 ?_
  refine V_sub (us := [some (ob g t), some (.int x1), some (.int 0), none, none]) ⟨rfl, rfl, rfl, trivial⟩ ?_
  exact l_Md_findLocalCosts_2 hX hC fu t x1 0 M ht h
