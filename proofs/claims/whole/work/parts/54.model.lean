/-! the model's parser -/
def kM (M M' : Mm) : Prop := (∀ c, c ≠ 145 → c ≠ 147 → M' c = M c) ∧ ∀ k, k ≠ 6 → k ≠ 7 → k ≠ 8 → k ≠ 9 → k ≠ 10 → k ≠ 24 → M' 145 k = M 145 k
theorem kM.rfl' {M : Mm} : kM M M := ⟨fun _ _ _ => rfl, fun _ _ _ _ _ _ _ => rfl⟩
theorem kM.trans {M M1 M2 : Mm} (h : kM M M1) (h2 : kM M1 M2) : kM M M2 := ⟨fun c a b => (h2.1 c a b).trans (h.1 c a b), fun k a b c d e f => (h2.2 k a b c d e f).trans (h.2 k a b c d e f)⟩
theorem frD.k {M M' : Mm} (h : frD M M') : kM M M' := ⟨fun c a _ => h.1 c a, h.2⟩
theorem kM.up147 {M M' : Mm} {k : Nat} {v : Int32} (h : kM M M') : kM M (up M' 147 k v) := h.trans ⟨fun c _ b => up_c b, fun j _ _ _ _ _ _ => by rw [up_c (by omega)]⟩
theorem LM.up147 {M : Mm} {len s k : Nat} {T : Nat → Nat} {v : Int32} (h : LM M len T s) : LM (up M 147 k v) len T s := h.keep (up_c (by omega)) (fun j _ _ => by rw [up_c (by omega)])
theorem LM.lp {M : Mm} {len s : Nat} {T : Nat → Nat} (h : LM M len T s) : LQ M len T (nx T len s) := ⟨s, h, rfl⟩
theorem LM.at8 {M : Mm} {len s : Nat} {T : Nat → Nat} (h : LM M len T s) : M 145 8 = nI s := h.2.2.1
theorem LQ.le {M : Mm} {len s : Nat} {T : Nat → Nat} (h : LQ M len T s) : s ≤ len := by
  obtain ⟨s0, h0, rfl⟩ := h
  exact (nx_le (T := T) h0.2.1).1
theorem SitM.at7 {M : Mm} {D : Nat → Nat} (h : SitM M 147 0 D) {k : Nat} (hk : k < 69) : M 147 k = nI (D k) := by
  have := h k hk; rwa [Nat.zero_add] at this
theorem SitM.fr {M M' : Mm} {D : Nat → Nat} (h : SitM M 147 0 D) (k : frD M M') : SitM M' 147 0 D := h.keep (fun j _ => by rw [k.1 147 (by omega)])
theorem SitM.put {M : Mm} {D : Nat → Nat} {k v : Nat} (h : SitM M 147 0 D) : SitM (up M 147 k (nI v)) 147 0 (dput D k v) := fun j hj => by
  rw [Nat.zero_add]
  by_cases z : j = k
  · rw [z, up_s, dput_s]
  · rw [up_k z, dput_k z]; exact h.at7 hj
theorem acc_look : ∀ a, a < 64 → ∀ q, q < 6 → nI a ||| ((1 : Int32) <<< (nI q &&& 31)) = nI (a ||| 2 ^ q) := by decide +kernel
theorem m_readAccept {fu : Nat} {post : Int32 → Mm → Prop} {len s : Nat} {T D : Nat → Nat} {M : Mm} (hf : 1300 ≤ fu) (hl : len ≤ 150) (hch : ∀ i, i < len → T i < 256) (hP : LQ M len T s) (hD : SitM M 147 0 D) (hw : wfD D)
    (h0 : ∀ e, aAcc T len D s = .inl e → ∀ M', M' 145 8 = nI e → kM M M' → post 0 M')
    (h1 : ∀ s' D', aAcc T len D s = .inr (s', D') → ∀ M', LQ M' len T s' → SitM M' 147 0 D' → kM M M' → post 1 M') : f_Md_readAccept fu post 145 M := by
  have w := hw.1
  unfold f_Md_readAccept
  simp only [Nat.reduceAdd]
  rw [ln_M.2.1]
  refine m_readState hf hl hch hP (hD.at7 (by omega)) w (fun hd M1 a1 a3 a2 => ⟨vp_in_nI (n := 1) (by omega) (by omega), br_f (by decide) ?_⟩) (fun hd M1 a1 a2 => ⟨vp_in_nI (n := 1) (by omega) (by omega), br_t rfl ?_⟩)
  · have g := dg_lt hd
    unfold f_Md_readAccept_26
    rw [ln_M.2.1]
    refine ⟨vp_in_nI (n := 1) (by omega) (by omega), fun M2 e2 => ⟨Or.inr rfl, ?_⟩⟩
    rw [show (1 : Int32).toNatClampNeg = 1 from rfl, (hD.fr a2).at7 (by omega), a3, acc_look _ hw.2.1 _ (by omega)] at e2
    rw [e2]
    exact h1 _ _ (ch_t hd) _ a1.up147.lp (hD.fr a2).put a2.k.up147
  · unfold f_Md_readAccept_26
    rw [ln_M.2.1]
    refine ⟨vp_in_nI (n := 1) (by omega) (by omega), fun M2 e2 => ⟨Or.inl rfl, ?_⟩⟩
    rw [e2]
    exact h0 _ (ch_f hd) _ a1.up147.at8 a2.k.up147
theorem m_readRule {fu : Nat} {post : Int32 → Mm → Prop} {len s ty : Nat} {T D : Nat → Nat} {M : Mm} (hf : 1300 ≤ fu) (hl : len ≤ 150) (hch : ∀ i, i < len → T i < 256) (ht : 1 ≤ ty ∧ ty ≤ 3) (hP : LQ M len T s) (hD : SitM M 147 0 D) (hw : wfD D)
    (h0 : ∀ e, aRul T len D ty s = .inl e → ∀ M', M' 145 8 = nI e → kM M M' → post 0 M')
    (h1 : ∀ s' D', aRul T len D ty s = .inr (s', D') → ∀ M', LQ M' len T s' → SitM M' 147 0 D' → kM M M' → post 1 M') : f_Md_readRule fu post 145 (nI ty) M := by
  have w := hw.1
  unfold f_Md_readRule
  simp only [Nat.reduceAdd]
  rw [ln_M.2.1]
  refine m_readState hf hl hch hP (hD.at7 (by omega)) w (fun hd M1 a1 a3 a2 => br_f (by decide) (fun y1 ey1 => ?_)) (fun hd M1 a1 a2 => br_t rfl (h0 _ (ch_f hd) M1 a1.at8 a2.k))
  have g := dg_lt hd
  rw [show aRul T len D ty s = aRu1 T len D ty (T s - 48) (nx T len s) from ch_t hd] at h0 h1
  have hD1 := hD.fr a2
  have k1 := a2.k
  have p1 := a1.lp
  clear a2 a1 hd
  rw [ey1, a3]
  generalize nx T len s = s1 at p1 h0 h1
  generalize T s - 48 = st at g h0 h1 ⊢
  refine m_readKind hf hl hch p1 (fun hk M2 b1 b3 b2 => br_f (by decide) ?_) (fun hk M2 b1 b2 => br_t rfl (h0 s1 (ch_f (fun y => hk y.1)) M2 b1.at8 (k1.trans b2.k)))
  have g2 := kd_lt6 hk
  have hD2 := hD1.fr b2
  rw [b3, show (6 : Int32) = nI 6 from rfl, show (2 : Int32) = nI 2 from rfl, pk_mul, nI_add, nI_add, show 2 + 6 * st + (T s1 - 97) = 2 + (6 * st + (T s1 - 97)) by omega, nI_clamp (by omega), hD2.at7 (by omega)]
  have hr := hw.2.2.1 (6 * st + (T s1 - 97)) (by omega)
  have hb : D (2 + (6 * st + (T s1 - 97))) < 2 ^ 31 := by
    rcases hr with h | ⟨ty, tg, sy, q1, q2, q3, q4, q5⟩ <;> omega
  refine ⟨vp_in_nI (by omega) (by omega), pk_eq (D (2 + (6 * st + (T s1 - 97)))) 0 (fun z y2 ey2 => ?_) (fun z => h0 s1 (ch_f (fun y => z y.2)) M2 b1.at8 (k1.trans b2.k)) rfl rfl hb⟩
  rw [show aRu1 T len D ty st s1 = aRu2 T len D ty (2 + (6 * st + (T s1 - 97))) (nx T len s1) from ch_t ⟨hk, z⟩] at h0 h1
  have k2 : kM M M2 := k1.trans b2.k
  have p2 := b1.lp
  clear hr hb z hk b2 b1 b3
  rw [ey2]
  generalize nx T len s1 = s2 at p2 h0 h1
  generalize T s1 - 97 = kd at g2 h0 h1 ⊢
  refine m_readState hf hl hch p2 (hD2.at7 (by omega)) w (fun hd2 M3 c1 c3 c2 => br_f (by decide) (fun y3 ey3 => ?_)) (fun hd2 M3 c1 c2 => br_t rfl (h0 _ (ch_f hd2) M3 c1.at8 (k2.trans c2.k)))
  have g3 := dg_lt hd2
  rw [show aRu2 T len D ty (2 + (6 * st + kd)) s2 = aRu3 T len D ty (2 + (6 * st + kd)) (T s2 - 48) (nx T len s2) from ch_t hd2] at h0 h1
  have hD3 := hD2.fr c2
  have k3 : kM M M3 := k2.trans c2.k
  have p3 := c1.lp
  have x3 := c1.at8
  rw [ey3, c3, show (100 : Int32) = nI 100 from rfl, show (10 : Int32) = nI 10 from rfl, pk_mul, pk_mul, nI_add]
  generalize nx T len s2 = s3 at p3 h0 h1
  generalize T s2 - 48 = tg at g3 h0 h1 ⊢
  refine pk_eq ty 1 (fun z => ?_) (fun z => ?_)
  · unfold f_Md_readRule_91 f_Md_readRule_96
    rw [show 145 + 2 = 147 from rfl, ln_M.2.1, nI_clamp (by omega)]
    refine pk_eq ty 1 (fun _ => ⟨vp_in_nI (by omega) (by omega), fun M4 e4 => ⟨Or.inr rfl, ?_⟩⟩) (fun y => absurd z y)
    rw [e4]
    refine h1 _ _ (if_pos z) _ ?_ hD3.put k3.up147
    obtain ⟨s0, q1, q2⟩ := p3
    exact ⟨s0, q1.up147, q2⟩
  · refine m_readDigit (lo := 0) (hi := 1) hf hl hch p3 (by omega) (fun hd3 M4 d1 d3 d2 => br_f (by decide) ?_) (fun hd3 M4 d1 d2 => br_t rfl ?_)
    · have g4 := dg_lt hd3
      unfold f_Md_readRule_91 f_Md_readRule_96
      rw [show 145 + 2 = 147 from rfl, ln_M.2.1, nI_clamp (by omega)]
      refine pk_eq ty 1 (fun y => absurd y z) (fun _ => ⟨vp_in_nI (by omega) (by omega), fun M5 e5 => ⟨Or.inr rfl, ?_⟩⟩)
      rw [e5, d3, nI_add]
      exact h1 _ _ ((if_neg z).trans (ch_t hd3)) _ d1.up147.lp (hD3.fr d2).put (k3.trans d2.k).up147
    · unfold f_Md_readRule_96
      rw [show 145 + 2 = 147 from rfl, ln_M.2.1, nI_clamp (by omega)]
      refine pk_eq ty 1 (fun y => absurd y z) (fun _ => ⟨vp_in_nI (by omega) (by omega), fun M5 e5 => ⟨Or.inl rfl, ?_⟩⟩)
      rw [e5]
      exact h0 s3 ((if_neg z).trans (ch_f hd3)) _ d1.up147.at8 (k3.trans d2.k).up147
theorem m_coLoop {fu : Nat} {post : Int32 → Mm → Prop} {len k : Nat} {T : Nat → Nat} (hf : 1300 ≤ fu) (hl : len ≤ 150) (hch : ∀ i, i < len → T i < 256) (hk : k < 6) : ∀ (n kf s : Nat) (D : Nat → Nat) (M : Mm), n ≤ 3 → n + 1 ≤ kf → LQ M len T s → SitM M 147 0 D →
    (∀ e, aCo T len k n D s = .inl e → ∀ M', M' 145 8 = nI e → kM M M' → post 0 M') →
    (∀ s' D', aCo T len k n D s = .inr (s', D') → ∀ M', LQ M' len T s' → SitM M' 147 0 D' → kM M M' → post 1 M') → f_Md_readCost_17 fu post kf 145 (nI k) (nI (56 - 6 * n)) M := by
  intro n
  induction n with
  | zero =>
    intro kf s D M h3 hkf hP hD h0 h1
    obtain ⟨kf, rfl⟩ : ∃ j, kf = j + 1 := ⟨kf - 1, by omega⟩
    rw [f_Md_readCost_17]
    exact pk_le 56 (56 - 6 * 0) (fun _ => h1 s D rfl M hP hD kM.rfl') (fun z => by omega)
  | succ n ih =>
    intro kf s D M h3 hkf hP hD h0 h1
    obtain ⟨kf, rfl⟩ : ∃ j, kf = j + 1 := ⟨kf - 1, by omega⟩
    rw [f_Md_readCost_17]
    refine pk_le 56 (56 - 6 * (n + 1)) (fun z => by omega) (fun _ => ?_)
    refine m_readDigit (lo := 1) (hi := 9) hf hl hch hP (by omega) (fun hd M1 a1 a3 a2 => br_f (by decide) ?_) (fun hd M1 a1 a2 => br_t rfl (h0 s (ch_f hd) M1 a1.at8 a2.k))
    have g := dg_lt hd
    rw [nI_add, show 145 + 2 = 147 from rfl, ln_M.2.1, nI_clamp (by omega), a3]
    refine ⟨vp_in_nI (by omega) (by omega), fun M4 e4 y ey => ?_⟩
    rw [ey, show (6 : Int32) = nI 6 from rfl, nI_add, show 56 - 6 * (n + 1) + 6 = 56 - 6 * n by omega]
    rw [show 56 - 6 * (n + 1) + k = 38 + 6 * (2 - n) + k by omega] at e4
    rw [e4]
    exact ih kf (nx T len s) _ _ (by omega) (by omega) a1.up147.lp (hD.fr a2).put (fun e q M' b1 b2 => h0 e ((ch_t hd).trans q) M' b1 (a2.k.up147.trans b2)) (fun s' D' q M' b1 b2 b3 => h1 s' D' ((ch_t hd).trans q) M' b1 b2 (a2.k.up147.trans b3))
theorem m_readCost {fu : Nat} {post : Int32 → Mm → Prop} {len s : Nat} {T D : Nat → Nat} {M : Mm} (hf : 1300 ≤ fu) (hl : len ≤ 150) (hch : ∀ i, i < len → T i < 256) (hP : LQ M len T s) (hD : SitM M 147 0 D)
    (h0 : ∀ e, aCst T len D s = .inl e → ∀ M', M' 145 8 = nI e → kM M M' → post 0 M')
    (h1 : ∀ s' D', aCst T len D s = .inr (s', D') → ∀ M', LQ M' len T s' → SitM M' 147 0 D' → kM M M' → post 1 M') : f_Md_readCost fu post 145 M := by
  unfold f_Md_readCost
  refine m_readKind hf hl hch hP (fun hk M1 a1 a3 a2 => br_f (by decide) (fun y ey => ?_)) (fun hk M1 a1 a2 => br_t rfl (h0 s (ch_f hk) M1 a1.at8 a2.k))
  have g := kd_lt6 hk
  rw [ey, a3]
  exact m_coLoop hf hl hch g 3 fu _ D M1 (by omega) (by omega) a1.lp (hD.fr a2) (fun e q M' b1 b2 => h0 e ((ch_t hk).trans q) M' b1 (a2.k.trans b2)) (fun s' D' q M' b1 b2 b3 => h1 s' D' ((ch_t hk).trans q) M' b1 b2 (a2.k.trans b3))
theorem cmp_ne {a b : Nat} (ha : a < 2 ^ 63) (hb : b < 2 ^ 63) (h : a ≠ b) : ¬ (lg_cmp (lN a) (lN b) = 0) := fun q => h ((pk_lEQ ha hb).1 ((lg_cmp_eq _ _).1 q))
theorem cmp_eq {a : Nat} : lg_cmp (lN a) (lN a) = 0 := (lg_cmp_eq _ _).2 rfl
theorem m_134 {fu : Nat} {post : Int32 → Mm → Prop} {len s ty : Nat} {T D : Nat → Nat} {M : Mm} (hf : 1300 ≤ fu) (hl : len ≤ 150) (hch : ∀ i, i < len → T i < 256) (ht : 1 ≤ ty ∧ ty ≤ 3) (hP : LQ M len T s) (hD : SitM M 147 0 D) (hw : wfD D)
    (h0 : ∀ e, aRul T len D ty s = .inl e → ∀ M', M' 145 8 = nI e → kM M M' → post 0 M')
    (h1 : ∀ s' D', aRul T len D ty s = .inr (s', D') → ∀ M', LQ M' len T s' → SitM M' 147 0 D' → kM M M' → post 1 M') : f_Md_readStatement_134 fu post 145 (nI ty) M := by
  unfold f_Md_readStatement_134
  refine pk_le ty 0 (fun z => by omega) (fun _ => ?_)
  exact m_readRule hf hl hch ht hP hD hw (fun e q M' a1 a2 => br_t rfl (h0 e q M' a1 a2)) (fun s' D' q M' a1 a2 a3 => br_f (by decide) (h1 s' D' q M' a1 a2 a3))
theorem m_stm0 {fu : Nat} {post : Int32 → Mm → Prop} {len s : Nat} {T D : Nat → Nat} {M : Mm} (hf : 1300 ≤ fu) (hl : len ≤ 150) (hch : ∀ i, i < len → T i < 256) (hX : LM M len T s) (hD : SitM M 147 0 D) (hw : wfD D)
    (h0 : ∀ e, aBdy T len D s = .inl e → ∀ M', M' 145 8 = nI e → kM M M' → post 0 M')
    (h1 : ∀ s' D', aBdy T len D s = .inr (s', D') → ∀ M', LQ M' len T s' → SitM M' 147 0 D' → kM M M' → post 1 M') : f_Md_readStatement fu post 145 0 M := by
  have hs := hX.2.1
  have hb := lxc_lt hch hs
  have hwc := wcd_lt (T := T) hs
  have i2 := wd_iff (T := T) (a := 2) hs (by omega) (by omega)
  have i3 := wd_iff (T := T) (a := 3) hs (by omega) (by omega)
  have i4 := wd_iff (T := T) (a := 4) hs (by omega) (by omega)
  have i5 := wd_iff (T := T) (a := 5) hs (by omega) (by omega)
  have i6 := wd_iff (T := T) (a := 6) hs (by omega) (by omega)
  rw [show cdL.getD 2 0 = 688032865 from rfl] at i2
  rw [show cdL.getD 3 0 = 21177619 from rfl] at i3
  rw [show cdL.getD 4 0 = 282288 from rfl] at i4
  rw [show cdL.getD 5 0 = 16880 from rfl] at i5
  rw [show cdL.getD 6 0 = 675299 from rfl] at i6
  unfold f_Md_readStatement
  rw [hX.2.2.2.2.2, hX.2.2.2.2.1]
  have no : (lxc T len s = 1001 → wcd T len s ≠ 688032865 ∧ wcd T len s ≠ 21177619 ∧ wcd T len s ≠ 282288 ∧ wcd T len s ≠ 16880 ∧ wcd T len s ≠ 675299) → post 0 M := fun q => by
    refine h0 s ?_ M hX.at8 kM.rfl'
    unfold aBdy
    rw [ch_f (fun y => (q (i2.1 y).1).1 (i2.1 y).2), ch_f (fun y => (q (i3.1 y).1).2.1 (i3.1 y).2), ch_f (fun y => (q (i4.1 y).1).2.2.1 (i4.1 y).2), ch_f (fun y => (q (i5.1 y).1).2.2.2.1 (i5.1 y).2), ch_f (fun y => (q (i6.1 y).1).2.2.2.2 (i6.1 y).2)]
  refine pk_eq (lxc T len s) 1001 (fun zl => ?_) (fun z => no (fun y => absurd y z))
  rw [show (643434131 : Int64) = lN 643434131 from rfl]
  by_cases z0 : wcd T len s = 643434131
  · refine br_t (by rw [z0]; exact cmp_eq) ?_
    unfold f_Md_readStatement_27
    exact br_f (by decide) (no (fun _ => by omega))
  · refine br_f (cmp_ne hwc (by decide) z0) ?_
    unfold f_Md_readStatement_27
    refine br_t rfl (br_t rfl ?_)
    rw [hX.2.2.2.2.2, show (688032865 : Int64) = lN 688032865 from rfl, show (675299 : Int64) = lN 675299 from rfl, show (21177619 : Int64) = lN 21177619 from rfl, show (282288 : Int64) = lN 282288 from rfl, show (16880 : Int64) = lN 16880 from rfl]
    have p := hX.lp
    by_cases z2 : wcd T len s = 688032865
    · refine br_t (by rw [z2]; exact cmp_eq) ?_
      rw [show aBdy T len D s = aAcc T len D (nx T len s) from ch_t (i2.2 ⟨zl, z2⟩)] at h0 h1
      exact m_readAccept hf hl hch p hD hw h0 h1
    have n2 : ¬ isWd T len 2 s := fun y => z2 (i2.1 y).2
    refine br_f (cmp_ne hwc (by decide) z2) ?_
    by_cases z6 : wcd T len s = 675299
    · refine br_t (by rw [z6]; exact cmp_eq) ?_
      have n3 : ¬ isWd T len 3 s := fun y => by have := (i3.1 y).2; omega
      have n4 : ¬ isWd T len 4 s := fun y => by have := (i4.1 y).2; omega
      have n5 : ¬ isWd T len 5 s := fun y => by have := (i5.1 y).2; omega
      rw [show aBdy T len D s = aCst T len D (nx T len s) from (ch_f n2).trans ((ch_f n3).trans ((ch_f n4).trans ((ch_f n5).trans (ch_t (i6.2 ⟨zl, z6⟩)))))] at h0 h1
      exact m_readCost hf hl hch p hD h0 h1
    refine br_f (cmp_ne hwc (by decide) z6) ?_
    by_cases z3 : wcd T len s = 21177619
    · refine br_t (by rw [z3]; exact cmp_eq) ?_
      rw [show aBdy T len D s = aRul T len D 1 (nx T len s) from (ch_f n2).trans (ch_t (i3.2 ⟨zl, z3⟩))] at h0 h1
      exact m_134 (ty := 1) hf hl hch (by omega) p hD hw h0 h1
    have n3 : ¬ isWd T len 3 s := fun y => z3 (i3.1 y).2
    refine br_f (cmp_ne hwc (by decide) z3) ?_
    by_cases z4 : wcd T len s = 282288
    · refine br_t (by rw [z4]; exact cmp_eq) ?_
      rw [show aBdy T len D s = aRul T len D 2 (nx T len s) from (ch_f n2).trans ((ch_f n3).trans (ch_t (i4.2 ⟨zl, z4⟩)))] at h0 h1
      exact m_134 (ty := 2) hf hl hch (by omega) p hD hw h0 h1
    have n4 : ¬ isWd T len 4 s := fun y => z4 (i4.1 y).2
    refine br_f (cmp_ne hwc (by decide) z4) ?_
    by_cases z5 : wcd T len s = 16880
    · refine br_t (by rw [z5]; exact cmp_eq) ?_
      rw [show aBdy T len D s = aRul T len D 3 (nx T len s) from (ch_f n2).trans ((ch_f n3).trans ((ch_f n4).trans (ch_t (i5.2 ⟨zl, z5⟩))))] at h0 h1
      exact m_134 (ty := 3) hf hl hch (by omega) p hD hw h0 h1
    refine br_f (cmp_ne hwc (by decide) z5) ?_
    unfold f_Md_readStatement_134
    exact br_t (by decide) (no (fun _ => ⟨z2, z3, z4, z5, z6⟩))
/-- the data before the first statement -/
def zD : Nat → Nat := fun k => if 38 ≤ k ∧ k < 56 then 1 else 0
theorem m_stm1 {fu : Nat} {post : Int32 → Mm → Prop} {len s : Nat} {T : Nat → Nat} {M : Mm} (hf : 1300 ≤ fu) (hl : len ≤ 150) (hch : ∀ i, i < len → T i < 256) (hX : LM M len T s) (hD : SitM M 147 0 zD)
    (h0 : ∀ e, aHd T len s = .inl e → ∀ M', M' 145 8 = nI e → kM M M' → post 0 M')
    (h1 : ∀ s' D', aHd T len s = .inr (s', D') → ∀ M', LQ M' len T s' → SitM M' 147 0 D' → kM M M' → post 1 M') : f_Md_readStatement fu post 145 1 M := by
  have hs := hX.2.1
  have hb := lxc_lt hch hs
  have hwc := wcd_lt (T := T) hs
  have i0 := wd_iff (T := T) (a := 0) hs (by omega) (by omega)
  rw [show cdL.getD 0 0 = 643434131 from rfl] at i0
  unfold f_Md_readStatement
  rw [hX.2.2.2.2.2, hX.2.2.2.2.1]
  have no : ¬ isWd T len 0 s → post 0 M := fun q => h0 s (ch_f q) M hX.at8 kM.rfl'
  refine pk_eq (lxc T len s) 1001 (fun zl => ?_) (fun z => no (fun y => z (i0.1 y).1))
  rw [show (643434131 : Int64) = lN 643434131 from rfl]
  by_cases z0 : wcd T len s = 643434131
  · have w := i0.2 ⟨zl, z0⟩
    refine br_t (by rw [z0]; exact cmp_eq) ?_
    unfold f_Md_readStatement_27
    refine br_t rfl (br_f (by decide) ?_)
    rw [show 145 + 2 = 147 from rfl, ln_M.2.1]
    have eD0 : ∀ (M1 : Mm) n, SitM M1 147 0 zD → SitM (up M1 147 0 (nI n)) 147 0 (dput eD 0 n) := fun M1 n hz j hj => by
      rw [Nat.zero_add]
      by_cases z : j = 0
      · rw [z, up_s, dput_s]
      · rw [up_k z, dput_k z, hz.at7 hj]
        unfold zD eD
        rw [if_neg z]
    refine m_readDigit (lo := 1) (hi := 6) hf hl hch hX.lp (by omega) (fun hd M1 a1 a3 a2 => ⟨vp_in_nI (n := 0) (by omega) (by omega), fun M2 e2 => ?_⟩) (fun hd M1 a1 a2 => ⟨vp_in_nI (n := 0) (by omega) (by omega), fun M2 e2 => ?_⟩)
    · rw [e2, a3]
      exact h1 _ _ ((ch_t w).trans (ch_t hd)) _ a1.up147.lp (eD0 M1 _ (hD.fr a2)) a2.k.up147
    · rw [e2]
      exact h0 _ ((ch_t w).trans (ch_f hd)) _ a1.up147.at8 a2.k.up147
  · refine br_f (cmp_ne hwc (by decide) z0) ?_
    unfold f_Md_readStatement_27
    exact br_f (by decide) (no (fun y => z0 (i0.1 y).2))
def kP (M M' : Mm) : Prop := (∀ c, c ≠ 145 → c ≠ 147 → M' c = M c) ∧ ∀ k, k ≠ 6 → k ≠ 7 → k ≠ 8 → k ≠ 9 → k ≠ 10 → k ≠ 11 → k ≠ 24 → M' 145 k = M 145 k
theorem kP.rfl' {M : Mm} : kP M M := ⟨fun _ _ _ => rfl, fun _ _ _ _ _ _ _ _ => rfl⟩
theorem kP.trans {M M1 M2 : Mm} (h : kP M M1) (h2 : kP M1 M2) : kP M M2 := ⟨fun c a b => (h2.1 c a b).trans (h.1 c a b), fun k a b c d e f g => (h2.2 k a b c d e f g).trans (h.2 k a b c d e f g)⟩
theorem kM.p {M M' : Mm} (h : kM M M') : kP M M' := ⟨h.1, fun k a b c d e _ g => h.2 k a b c d e g⟩
theorem frN.p {M M' : Mm} (h : frN M M') : kP M M' := h.d.k.p
/-- after a statement: the semicolon, and the next lexeme -/
theorem m_semi {fu : Nat} {post : Int32 → Mm → Prop} {K : Nat → Mm → Prop} {len n : Nat} {T : Nat → Nat} {M M1 : Mm} {s' : Nat} {D' : Nat → Nat} (hf : 1300 ≤ fu) (hl : len ≤ 150) (hch : ∀ i, i < len → T i < 256) (hP : LQ M1 len T s') (hD : SitM M1 147 0 D') (h11 : M1 145 11 = nI n) (hk : kP M M1)
    (h0 : ¬ isWd T len 1 s' → ∀ M', kP M M' → post (nI s') M')
    (h1 : isWd T len 1 s' → ∀ M', LM M' len T (nx T len s') → SitM M' 147 0 D' → M' 145 11 = nI (n + 1) → kP M M' → K 145 M') : f_Md_next fu (fun M3 => (((M3 145 7) = 59) → ∀ M4, M4 = up M3 145 11 ((M3 145 11) + 1) → f_Md_next fu (fun M5 => K 145 M5) 145 M4) ∧ (¬ ((M3 145 7) = 59) → post (M3 145 8) M3)) 145 M1 := by
  have hs := hP.le
  have i1 := semi_iff (T := T) hs
  have hb := lxc_lt hch hs
  obtain ⟨s0, hX, rfl⟩ := hP
  refine m_nextLM hf hl hch hX (fun M3 a1 a2 => ?_)
  rw [a1.2.2.2.2.1, a1.at8]
  refine pk_eq (lxc T len (nx T len s0)) 59 (fun z M4 e4 => ?_) (fun z => h0 (fun y => z (i1.1 y)) M3 (hk.trans a2.p))
  have X4 : LM M4 len T (nx T len s0) := a1.keep (by rw [e4, up_c (by omega)]) (fun k _ b => by rw [e4, up_k b])
  have h113 : M3 145 11 = nI n := by rw [a2.2 11 (by omega) (by omega) (by omega) (by omega) (by omega)]; exact h11
  rw [h113, nI_1] at e4
  have k4 : kP M3 M4 := ⟨fun c c1 _ => by rw [e4, up_c c1], fun k _ _ _ _ _ b _ => by rw [e4, up_k b]⟩
  refine m_nextLM hf hl hch X4 (fun M5 b1 b2 => ?_)
  refine h1 (i1.2 z) M5 b1 (hD.keep (fun k _ => by rw [b2.1 147 (by omega), e4, up_c (by omega), a2.1 147 (by omega)])) ?_ (((hk.trans a2.p).trans k4).trans b2.p)
  rw [b2.2 11 (by omega) (by omega) (by omega) (by omega) (by omega), e4, up_s]
theorem m_paLoop {fu : Nat} {post : Int32 → Mm → Prop} {len : Nat} {T : Nat → Nat} (hf : 1300 ≤ fu) (hl : len ≤ 150) (hch : ∀ i, i < len → T i < 256) : ∀ (f kf n s : Nat) (D : Nat → Nat) (M : Mm), f ≤ kf → len - s < f → 1 ≤ n → n ≤ s → LM M len T s → M 145 11 = nI n → SitM M 147 0 D → wfD D →
    (∀ e, aRun T len f n s D = .inl e → ∀ M', kP M M' → post (nI e) M') →
    (∀ n' D', aRun T len f n s D = .inr (n', D') → ∀ M', SitM M' 147 0 D' → M' 145 11 = nI n' → kP M M' → post (-9) M') → f_Md_parse_21 fu post kf 145 M := by
  intro f
  induction f with
  | zero => intro kf n s D M h1 h2; omega
  | succ f ih =>
    intro kf n s D M hkf hfs hn1 hn hX h11 hD hw h0 h1
    have hs := hX.2.1
    have hb := lxc_lt hch hs
    obtain ⟨kf, rfl⟩ : ∃ j, kf = j + 1 := ⟨kf - 1, by omega⟩
    rw [f_Md_parse_21, hX.2.2.2.2.1, h11]
    have hlx : lxc T len s = 1000 ↔ s = len := by
      rcases lx_cases (T := T) hs with ⟨a1, a2, a3⟩ | ⟨a1, a2, a3, a4, a5⟩ | ⟨a1, a2, a3, a4⟩
      · exact ⟨fun _ => a1, fun _ => a2⟩
      · exact ⟨fun y => by omega, fun y => by omega⟩
      · have := hch s a1
        exact ⟨fun y => by omega, fun y => by omega⟩
    refine pk_eq (lxc T len s) 1000 (fun z => pk_eq n 0 (fun y => by omega) (fun _ => ?_)) (fun z => ?_)
    · exact h1 n D (by rw [aRun, if_pos (hlx.1 z)]) M hD h11 kP.rfl'
    have hne : ¬ s = len := fun y => z (hlx.2 y)
    unfold f_Md_parse_38
    rw [h11]
    refine pk_eq n 0 (fun y => by omega) (fun _ => ?_)
    unfold f_Md_parse_51
    have okb := aBdy_ok (T := T) hw hs
    have ok := aSem_ok (T := T) okb
    refine m_stm0 hf hl hch hX hD hw (fun e q M1 a1 a2 => br_t rfl ?_) (fun s' D' q M1 a1 a2 a3 => br_f (by decide) ?_)
    · rw [a1]
      exact h0 e (by rw [aRun, if_neg hne]; unfold aStm; simp only [q, aSem]) M1 a2.p
    · refine m_semi (n := n) hf hl hch a1 a2 (by rw [a3.2 11 (by omega) (by omega) (by omega) (by omega) (by omega) (by omega)]; exact h11) a3.p (fun w M' b1 => ?_) (fun w M' b1 b2 b3 b4 => ?_)
      · have e1 : aStm T len D s = .inl s' := by unfold aStm; rw [q]; exact ch_f w
        exact h0 s' (by rw [aRun, if_neg hne]; simp only [e1]) M' b1
      · have e1 : aStm T len D s = .inr (nx T len s', D') := by unfold aStm; rw [q]; exact ch_t w
        have g := ok.2 _ _ e1
        have er : aRun T len (f + 1) n s D = aRun T len f (n + 1) (nx T len s') D' := by rw [aRun, if_neg hne]; simp only [e1]
        rw [er] at h0 h1
        exact ih kf (n + 1) _ D' M' (by omega) (by omega) (by omega) (by omega) b1 b3 b2 g.1 (fun e q2 M2 c1 => h0 e q2 M2 (b4.trans c1)) (fun n' D'' q2 M2 c1 c2 c3 => h1 n' D'' q2 M2 c1 c2 (b4.trans c3))
theorem m_parse {fu : Nat} {post : Int32 → Mm → Prop} {len : Nat} {T : Nat → Nat} {M : Mm} (hf : 1300 ≤ fu) (hl : len ≤ 150) (hch : ∀ i, i < len → T i < 256) (hT : TxM M len T)
    (h0 : ∀ e, aPar T len = .inl e → ∀ M', kP M M' → post (nI e) M')
    (h1 : ∀ n' D', aPar T len = .inr (n', D') → ∀ M', SitM M' 147 0 D' → M' 145 11 = nI n' → kP M M' → post (-9) M') : f_Md_parse fu post 145 M := by
  unfold f_Md_parse
  refine s_clearData (r := 145 + 2) ln_M.2.1 hf (fun M1 a1 a2 M2 e2 M3 e3 => ?_)
  rw [show 145 + 2 = 147 from rfl] at a1 a2
  have k3 : kP M M3 := ⟨fun c c1 c2 => by rw [e3, up_c c1, e2, up_c c1, a2 c c2], fun k b1 _ _ _ _ b6 _ => by rw [e3, up_k b1, e2, up_k b6, a2 145 (by omega)]⟩
  have hT3 : TxM M3 len T := ⟨by rw [k3.2 5 (by omega) (by omega) (by omega) (by omega) (by omega) (by omega) (by omega)]; exact hT.1, fun i hi => by rw [k3.1 149 (by omega) (by omega)]; exact hT.2 i hi⟩
  have D3 : SitM M3 147 0 zD := fun j hj => by
    rw [Nat.zero_add, e3, up_c (by omega), e2, up_c (by omega), a1 j hj]; rfl
  refine m_next (i := 0) hf hl hch hT3 (by omega) (by rw [e3, up_s]; rfl) (fun M4 b1 b2 b3 b4 b5 => ?_)
  have hk := sk_le (T := T) (len := len) (i := 0) (by omega)
  have X4 : LM M4 len T (sk T len 0) := ⟨hT3.fr b5, hk.2, b1, b2, b3, b4⟩
  have D4 : SitM M4 147 0 zD := D3.fr b5.d
  have k4 : kP M M4 := k3.trans b5.p
  have h114 : M4 145 11 = nI 0 := by rw [b5.2 11 (by omega) (by omega) (by omega) (by omega) (by omega), e3, up_k (by omega), e2, up_s]; rfl
  have hb := lxc_lt hch hk.2
  have ok := aSem_ok (T := T) (aHd_ok (T := T) hk.2)
  obtain ⟨kf, hkf⟩ : ∃ j, fu = j + 1 := ⟨fu - 1, by omega⟩
  have body : f_Md_parse_38 fu post (f_Md_parse_21 fu post kf) 145 M4 := by
    unfold f_Md_parse_38
    refine pk_eq 0 0 (fun _ => ?_) (fun y => absurd rfl y) h114
    unfold f_Md_parse_51
    refine m_stm1 hf hl hch X4 D4 (fun e q M1 c1 c2 => br_t rfl ?_) (fun s' D' q M1 c1 c2 c3 => br_f (by decide) ?_)
    · rw [c1]
      exact h0 e (by unfold aPar; simp only [q, aSem]) M1 (k4.trans c2.p)
    · refine m_semi (n := 0) hf hl hch c1 c2 (by rw [c3.2 11 (by omega) (by omega) (by omega) (by omega) (by omega) (by omega)]; exact h114) (k4.trans c3.p) (fun w M' d1 => ?_) (fun w M' d1 d2 d3 d4 => ?_)
      · have e1 : aSem T len (aHd T len (sk T len 0)) = .inl s' := by rw [q]; exact ch_f w
        exact h0 s' (by unfold aPar; simp only [e1]) M' d1
      · have e1 : aSem T len (aHd T len (sk T len 0)) = .inr (nx T len s', D') := by rw [q]; exact ch_t w
        have g := ok.2 _ _ e1
        have er : aPar T len = aRun T len (len + 1) 1 (nx T len s') D' := by unfold aPar; simp only [e1]
        rw [er] at h0 h1
        exact m_paLoop hf hl hch (len + 1) kf 1 _ D' M' (by omega) (by omega) (by omega) (by omega) d1 d3 d2 g.1 (fun e q2 M2 f1 => h0 e q2 M2 (d4.trans f1)) (fun n' D'' q2 M2 f1 f2 f3 => h1 n' D'' q2 M2 f1 f2 (d4.trans f3))
  rw [show f_Md_parse_21 fu post fu 145 M4 = f_Md_parse_21 fu post (kf + 1) 145 M4 from congrArg (fun j => f_Md_parse_21 fu post j 145 M4) hkf, f_Md_parse_21]
  refine pk_eq (lxc T len (sk T len 0)) 1000 (fun _ => ?_) (fun _ => body) b3
  exact pk_eq 0 0 (fun _ => body) (fun y => absurd rfl y) h114
