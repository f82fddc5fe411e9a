/-! the class's parser -/
def kC (M M' : Mm) : Prop := (∀ c, c ≠ 93 → (c < 95 ∨ 105 ≤ c) → M' c = M c) ∧ M' 93 2 = M 93 2
theorem kC.rfl' {M : Mm} : kC M M := ⟨fun _ _ _ => rfl, rfl⟩
theorem kC.trans {M M1 M2 : Mm} (h : kC M M1) (h2 : kC M1 M2) : kC M M2 := ⟨fun c a b => (h2.1 c a b).trans (h.1 c a b), h2.2.trans h.2⟩
theorem fr93.k {M M' : Mm} (h : fr93 M M') : kC M M' := ⟨fun c a _ => h.1 c a, h.2 2 (by omega) (by omega)⟩
theorem LX.keep {M M' : Mm} {len s : Nat} {T : Nat → Nat} (h : LX M len T s) (k1 : M' 93 = M 93) (k2 : M' 94 = M 94) : LX M' len T s := by
  obtain ⟨⟨h1, h2⟩, h3, h4, h5⟩ := h
  exact ⟨⟨by rw [k1]; exact h1, fun i hi => by rw [k2]; exact h2 i hi⟩, by rw [k1]; exact h3, by rw [k1]; exact h4, h5⟩
theorem ln_D : ln 97 = 6 ∧ ln 98 = 36 ∧ ln 99 = 36 ∧ ln 100 = 36 ∧ ln 102 = 24 := by decide +kernel
theorem kd_95 : kd 95 = 8 := by decide +kernel
theorem SitC.acc {M : Mm} {s q : Nat} {D : Nat → Nat} (h : SitC M s D) : SitC (up M (s + 2) q 1) s (dput D 1 (D 1 ||| 2 ^ q)) := by
  obtain ⟨d1, d2, d3, d4, d5, d6⟩ := h
  refine ⟨?_, fun j hj => ?_, fun j hj => ?_, fun j hj => ?_, ?_, ?_⟩
  · rw [up_c (by omega), dput_k (by omega)]; exact d1
  · rw [dput_s, Nat.testBit_or, Nat.testBit_two_pow]
    by_cases z : j = q
    · rw [z, up_s, show decide (q = q) = true from decide_eq_true rfl, Bool.or_true]; rfl
    · rw [up_k z, show decide (q = j) = false from decide_eq_false (fun y => z y.symm), Bool.or_false]; exact d2 j hj
  · rw [up_c (by omega), up_c (by omega), up_c (by omega), dput_k (by omega)]; exact d3 j hj
  · rw [up_c (by omega), dput_k (by omega), dput_k (by omega), dput_k (by omega)]; exact d4 j hj
  · rw [up_c (by omega), dput_k (by omega)]; exact d5
  · rw [dput_k (by omega)]
    intro i hi
    rw [up_c (by omega), dput_k (by omega)]; exact d6 i hi
theorem SitC.rule {M : Mm} {s c ty tg sy : Nat} {D : Nat → Nat} (h : SitC M s D) (hc : c < 36) (h2 : tg < 10) (h3 : sy < 10) : SitC (up (up (up M (s + 3) c (nI ty)) (s + 4) c (nI tg)) (s + 5) c (nI sy)) s (dput D (2 + c) (100 * ty + 10 * tg + sy)) := by
  obtain ⟨d1, d2, d3, d4, d5, d6⟩ := h
  have k : ∀ a, a ≠ s + 5 → a ≠ s + 4 → a ≠ s + 3 → up (up (up M (s + 3) c (nI ty)) (s + 4) c (nI tg)) (s + 5) c (nI sy) a = M a := fun a b1 b2 b3 => by rw [up_c b1, up_c b2, up_c b3]
  refine ⟨?_, fun j hj => ?_, fun j hj => ?_, fun j hj => ?_, ?_, ?_⟩
  · rw [k _ (by omega) (by omega) (by omega), dput_k (by omega)]; exact d1
  · rw [k _ (by omega) (by omega) (by omega), dput_k (by omega)]; exact d2 j hj
  · by_cases z : j = c
    · rw [z, dput_s, up_s, up_c (show s + 4 ≠ s + 5 by omega), up_s, up_c (show s + 3 ≠ s + 5 by omega), up_c (show s + 3 ≠ s + 4 by omega), up_s]
      exact ⟨congrArg nI (by omega), fun _ => ⟨congrArg nI (by omega), congrArg nI (by omega)⟩⟩
    · rw [dput_k (by omega), up_c (show s + 3 ≠ s + 5 by omega), up_c (show s + 3 ≠ s + 4 by omega), up_k z, up_c (show s + 4 ≠ s + 5 by omega), up_k z, up_c (show s + 4 ≠ s + 3 by omega), up_k z, up_c (show s + 5 ≠ s + 4 by omega), up_c (show s + 5 ≠ s + 3 by omega)]
      exact d3 j hj
  · rw [k _ (by omega) (by omega) (by omega), dput_k (by omega), dput_k (by omega), dput_k (by omega)]; exact d4 j hj
  · rw [k _ (by omega) (by omega) (by omega), dput_k (by omega)]; exact d5
  · rw [dput_k (by omega)]
    intro i hi
    rw [k _ (by omega) (by omega) (by omega), dput_k (by omega)]; exact d6 i hi
theorem c_readAccept {fu : Nat} {post : Int32 → Mm → Prop} {len s : Nat} {T D : Nat → Nat} {M : Mm} (hf : 1300 ≤ fu) (hl : len ≤ 150) (hch : ∀ i, i < len → T i < 256) (hX : LX M len T s) (hD : SitC M 95 D) (hw : wfD D)
    (h0 : ∀ e, aAcc T len D s = .inl e → ∀ M', M' 93 3 = nI e → kC M M' → post 0 M')
    (h1 : ∀ s' D', aAcc T len D s = .inr (s', D') → ∀ M', LX M' len T s' → SitC M' 95 D' → kC M M' → post 1 M') : f_Gt_readAccept fu post 93 M := by
  have h9 : M 96 4 = nI (D 0) := hD.1
  have w := hw.1
  unfold f_Gt_readAccept
  simp only [Nat.reduceAdd]
  rw [h9, nI_p1 w.1]
  refine c_takeDigit (lo := 0) hf hl hch hX (by omega) (by omega) (fun hd M1 a1 a2 => ?_) (fun hd => br_f (by decide) (h0 s (ch_f hd) M hX.2.1 kC.rfl'))
  have g := dg_lt hd
  refine br_t (nI_pos' (by omega)) ?_
  unfold f_Au_setAccepting
  refine s_put (by rw [show 96 + 1 = 97 from rfl, ln_D.1]; omega) ?_
  exact h1 _ _ (ch_t hd) _ (a1.keep (up_c (by omega)) (up_c (by omega))) (SitC.acc (s := 95) (hD.keep (fun c _ _ => a2.1 c (by omega)))) (a2.k.trans ⟨fun c c1 c2 => up_c (by omega), by rw [up_c (by omega)]⟩)
theorem c_readRule {fu : Nat} {post : Int32 → Mm → Prop} {len s ty : Nat} {T D : Nat → Nat} {M : Mm} (hf : 1300 ≤ fu) (hl : len ≤ 150) (hch : ∀ i, i < len → T i < 256) (ht : 1 ≤ ty ∧ ty ≤ 3) (hX : LX M len T s) (hD : SitC M 95 D) (hw : wfD D)
    (h0 : ∀ e, aRul T len D ty s = .inl e → ∀ M', M' 93 3 = nI e → kC M M' → post 0 M')
    (h1 : ∀ s' D', aRul T len D ty s = .inr (s', D') → ∀ M', LX M' len T s' → SitC M' 95 D' → kC M M' → post 1 M') : f_Gt_readRule fu post 93 (nI ty) M := by
  have h9 : M 96 4 = nI (D 0) := hD.1
  have w := hw.1
  unfold f_Gt_readRule
  simp only [Nat.reduceAdd]
  rw [h9, nI_p1 w.1]
  refine c_takeDigit (lo := 0) hf hl hch hX (by omega) (by omega) (fun hd M1 a1 a2 => ?_) (fun hd => br_f (by decide) (h0 s (ch_f hd) M hX.2.1 kC.rfl'))
  have g := dg_lt hd
  rw [show aRul T len D ty s = aRu1 T len D ty (T s - 48) (nx T len s) from ch_t hd] at h0 h1
  have hD1 : SitC M1 95 D := hD.keep (fun c _ _ => a2.1 c (by omega))
  generalize nx T len s = s1 at a1 h0 h1
  generalize T s - 48 = st at g h0 h1 ⊢
  refine br_t (nI_pos' (by omega)) ?_
  have no1 : ¬ (isKd T len s1 ∧ D (2 + (6 * st + (T s1 - 97))) = 0) → post 0 M1 := fun q => h0 s1 (ch_f q) M1 a1.2.1 a2.k
  refine c_kindHere hl hch a1 (fun hk => ?_) (fun hk => br_t (by decide) (no1 (fun y => hk y.1)))
  have g2 := kd_lt6 hk
  refine br_f (nI_pos (by omega)) ?_
  unfold f_Au_hasRule
  rw [show (6 : Int32) = nI 6 from rfl, pk_mul, nI_add, show st * 6 + (T s1 - 97) = 6 * st + (T s1 - 97) by omega]
  refine s_at (by rw [show 96 + 2 = 98 from rfl, ln_D.2.1]; omega) ?_
  rw [show M1 (96 + 2) (6 * st + (T s1 - 97)) = nI (D (2 + (6 * st + (T s1 - 97))) / 100) from (hD1.2.2.1 _ (by omega)).1]
  have hr := rok_un w.2 (hw.2.2.1 (6 * st + (T s1 - 97)) (by omega))
  refine pk_eq (D (2 + (6 * st + (T s1 - 97))) / 100) 0 (fun z => br_t rfl ?_) (fun z => br_f (by decide) (no1 (fun y => z (by have := y.2; omega))))
  have hz : D (2 + (6 * st + (T s1 - 97))) = 0 := by omega
  rw [show aRu1 T len D ty st s1 = aRu2 T len D ty (2 + (6 * st + (T s1 - 97))) (nx T len s1) from ch_t ⟨hk, hz⟩] at h0 h1
  refine c_nextLX hf hl hch a1 (fun M2 b1 b2 => ?_)
  have hD2 : SitC M2 95 D := hD1.keep (fun c _ _ => b2.1 c (by omega))
  have k2 : kC M M2 := a2.k.trans b2.k
  clear hr hz no1 hk
  generalize nx T len s1 = s2 at b1 h0 h1
  generalize T s1 - 97 = kd at g2 h0 h1 ⊢
  have h92 : M2 96 4 = nI (D 0) := hD2.1
  rw [h92, nI_p1 w.1]
  refine c_takeDigit (lo := 0) hf hl hch b1 (by omega) (by omega) (fun hd2 M3 c1 c2 => ?_) (fun hd2 => br_f (by decide) (h0 s2 (ch_f hd2) M2 b1.2.1 k2))
  have g3 := dg_lt hd2
  rw [show aRu2 T len D ty (2 + (6 * st + kd)) s2 = aRu3 T len D ty (2 + (6 * st + kd)) (T s2 - 48) (nx T len s2) from ch_t hd2] at h0 h1
  have hD3 : SitC M3 95 D := hD2.keep (fun c _ _ => c2.1 c (by omega))
  have k3 : kC M M3 := k2.trans c2.k
  generalize nx T len s2 = s3 at c1 h0 h1
  generalize T s2 - 48 = tg at g3 h0 h1 ⊢
  refine br_t (nI_pos' (by omega)) ?_
  have add : ∀ (sy s4 : Nat) (M4 : Mm), sy ≤ 1 → LX M4 len T s4 → SitC M4 95 D → kC M M4 → aRu3 T len D ty (2 + (6 * st + kd)) tg s3 = .inr (s4, dput D (2 + (6 * st + kd)) (100 * ty + 10 * tg + sy)) → f_Gt_readRule_95 fu post 93 (nI ty) (nI st) (nI kd) (nI tg) (nI sy) M4 := by
    intro sy s4 M4 q1 q2 q3 q4 q5
    unfold f_Gt_readRule_95 f_Au_addRule
    refine br_t (nI_pos' (by omega)) (fun y ey => ?_)
    rw [ey, show (6 : Int32) = nI 6 from rfl, pk_mul, nI_add, show st * 6 + kd = 6 * st + kd by omega]
    refine s_put (by rw [show 93 + 3 + 2 = 98 from rfl, ln_D.2.1]; omega) (s_put (by rw [show 93 + 3 + 3 = 99 from rfl, ln_D.2.2.1]; omega) (s_put (by rw [show 93 + 3 + 4 = 100 from rfl, ln_D.2.2.2.1]; omega) ?_))
    exact h1 _ _ q5 _ (q2.keep (by rw [up_c (by omega), up_c (by omega), up_c (by omega)]) (by rw [up_c (by omega), up_c (by omega), up_c (by omega)])) (SitC.rule (s := 95) q3 (by omega) (by omega) (by omega)) (q4.trans ⟨fun c c1 c2 => by rw [up_c (by omega), up_c (by omega), up_c (by omega)], by rw [up_c (by omega), up_c (by omega), up_c (by omega)]⟩)
  refine pk_eq ty 1 (fun z => ?_) (fun z => ?_)
  · exact add 0 s3 M3 (by omega) c1 hD3 k3 (if_pos z)
  · refine c_takeDigit (lo := 0) (hi := 1) hf hl hch c1 (by omega) (by omega) (fun hd3 M4 d1 d2 => ?_) (fun hd3 => ?_)
    · have g4 := dg_lt hd3
      exact add _ _ M4 g4.2 d1 (hD3.keep (fun c _ _ => d2.1 c (by omega))) (k3.trans d2.k) ((if_neg z).trans (ch_t hd3))
    · unfold f_Gt_readRule_95
      exact br_f (by decide) (h0 s3 ((if_neg z).trans (ch_f hd3)) M3 c1.2.1 k3)
theorem c_coLoop {fu : Nat} {post : Int32 → Mm → Prop} {len k : Nat} {T : Nat → Nat} (hf : 1300 ≤ fu) (hl : len ≤ 150) (hch : ∀ i, i < len → T i < 256) (hk : k < 6) : ∀ (n kf s : Nat) (D : Nat → Nat) (M : Mm), n ≤ 3 → n + 1 ≤ kf → LX M len T s → SitC M 95 D →
    (∀ e, aCo T len k n D s = .inl e → ∀ M', M' 93 3 = nI e → kC M M' → post 0 M') →
    (∀ s' D', aCo T len k n D s = .inr (s', D') → ∀ M', LX M' len T s' → SitC M' 95 D' → kC M M' → post 1 M') → f_Gt_readCosts_17 fu post kf 93 (nI k) (nI n) M := by
  intro n
  induction n with
  | zero =>
    intro kf s D M h3 hkf hX hD h0 h1
    obtain ⟨kf, rfl⟩ : ∃ j, kf = j + 1 := ⟨kf - 1, by omega⟩
    rw [f_Gt_readCosts_17]
    exact pk_lt 0 1 (fun _ => h1 s D rfl M hX hD kC.rfl') (fun z => by omega)
  | succ n ih =>
    intro kf s D M h3 hkf hX hD h0 h1
    obtain ⟨kf, rfl⟩ : ∃ j, kf = j + 1 := ⟨kf - 1, by omega⟩
    rw [f_Gt_readCosts_17]
    refine pk_lt (n + 1) 1 (fun z => by omega) (fun _ => ?_)
    refine c_takeDigit (lo := 1) (hi := 9) hf hl hch hX (by omega) (by omega) (fun hd M1 a1 a2 => ?_) (fun hd => br_f (by decide) (h0 s (ch_f hd) M hX.2.1 kC.rfl'))
    have g := dg_lt hd
    refine br_t (nI_pos' (by omega)) ?_
    unfold f_Co_change
    rw [show (6 : Int32) = nI 6 from rfl, pk_mul, nI_add, show (n + 1) * 6 + k = 6 * (n + 1) + k by omega]
    refine s_put (by rw [show 93 + 8 + 1 = 102 from rfl, ln_D.2.2.2.2]; omega) (fun y ey => ?_)
    rw [ey, nI_m1 (by omega), show n + 1 - 1 = n by omega]
    have hc : cpl (n + 1) (38 + 6 * (2 - n)) := by
      have : n = 0 ∨ n = 1 ∨ n = 2 := by omega
      rcases this with rfl | rfl | rfl
      · exact Or.inr (Or.inr ⟨rfl, rfl⟩)
      · exact Or.inr (Or.inl ⟨rfl, rfl⟩)
      · exact Or.inl ⟨rfl, rfl⟩
    have ku : kC M (up M1 (93 + 8 + 1) (6 * (n + 1) + k) (nI (T s - 48))) := a2.k.trans ⟨fun c c1 c2 => up_c (by omega), by rw [up_c (by omega)]⟩
    refine ih kf (nx T len s) _ _ (by omega) (by omega) (a1.keep (up_c (by omega)) (up_c (by omega))) (SitC.cost (s := 95) (hD.keep (fun c _ _ => a2.1 c (by omega))) hc hk) (fun e q M' b1 b2 => h0 e ((ch_t hd).trans q) M' b1 (ku.trans b2)) (fun s' D' q M' b1 b2 b3 => h1 s' D' ((ch_t hd).trans q) M' b1 b2 (ku.trans b3))
theorem c_readCosts {fu : Nat} {post : Int32 → Mm → Prop} {len s : Nat} {T D : Nat → Nat} {M : Mm} (hf : 1300 ≤ fu) (hl : len ≤ 150) (hch : ∀ i, i < len → T i < 256) (hX : LX M len T s) (hD : SitC M 95 D)
    (h0 : ∀ e, aCst T len D s = .inl e → ∀ M', M' 93 3 = nI e → kC M M' → post 0 M')
    (h1 : ∀ s' D', aCst T len D s = .inr (s', D') → ∀ M', LX M' len T s' → SitC M' 95 D' → kC M M' → post 1 M') : f_Gt_readCosts fu post 93 M := by
  unfold f_Gt_readCosts
  refine c_kindHere hl hch hX (fun hk => ?_) (fun hk => br_f (by decide) (h0 s (ch_f hk) M hX.2.1 kC.rfl'))
  have g := kd_lt6 hk
  refine br_t (nI_pos' (by omega)) (c_nextLX hf hl hch hX (fun M1 a1 a2 => ?_))
  exact c_coLoop hf hl hch g 3 fu _ D M1 (by omega) (by omega) a1 (hD.keep (fun c _ _ => a2.1 c (by omega))) (fun e q M' b1 b2 => h0 e ((ch_t hk).trans q) M' b1 (a2.k.trans b2)) (fun s' D' q M' b1 b2 b3 => h1 s' D' ((ch_t hk).trans q) M' b1 b2 (a2.k.trans b3))
theorem c_readStatement {fu : Nat} {post : Int32 → Mm → Prop} {len s : Nat} {T D : Nat → Nat} {M : Mm} (hf : 1300 ≤ fu) (hl : len ≤ 150) (hch : ∀ i, i < len → T i < 256) (hX : LX M len T s) (hD : SitC M 95 D) (hw : wfD D)
    (h0 : ∀ e, aStm T len D s = .inl e → ∀ M', M' 93 3 = nI e → kC M M' → post 0 M')
    (h1 : ∀ s' D', aStm T len D s = .inr (s', D') → ∀ M', LX M' len T s' → SitC M' 95 D' → kC M M' → post 1 M') : f_Gt_readStatement fu post 93 M := by
  have e0 : ∀ e, aBdy T len D s = .inl e → ∀ M', M' 93 3 = nI e → kC M M' → f_Gt_readStatement_87 fu post 93 0 M' := fun e q M' a1 a2 => by
    unfold f_Gt_readStatement_87
    exact br_t rfl (h0 e (by unfold aStm; rw [q]; rfl) M' a1 a2)
  have e1 : ∀ s' D', aBdy T len D s = .inr (s', D') → ∀ M', LX M' len T s' → SitC M' 95 D' → kC M M' → f_Gt_readStatement_87 fu post 93 1 M' := fun s' D' q M' a1 a2 a3 => by
    unfold f_Gt_readStatement_87
    refine br_f (by decide) (c_takeWord hf hl hch a1 (by omega) (fun w M1 b1 b2 => br_f (by decide) ?_) (fun w => br_t rfl ?_))
    · exact h1 _ D' (by unfold aStm; rw [q]; exact ch_t w) M1 b1 (a2.keep (fun c _ _ => b2.1 c (by omega))) (a3.trans b2.k)
    · exact h0 s' (by unfold aStm; rw [q]; exact ch_f w) M' a1.2.1 a3
  unfold f_Gt_readStatement
  refine c_takeWord hf hl hch hX (by omega) (fun w M1 a1 a2 => br_f (by decide) ?_) (fun w2 => br_t rfl ?_)
  · exact c_readAccept hf hl hch a1 (hD.keep (fun c _ _ => a2.1 c (by omega))) hw (fun e q M' b1 b2 => e0 e ((ch_t w).trans q) M' b1 (a2.k.trans b2)) (fun s' D' q M' b1 b2 b3 => e1 s' D' ((ch_t w).trans q) M' b1 b2 (a2.k.trans b3))
  refine c_takeWord hf hl hch hX (by omega) (fun w M1 a1 a2 => br_f (by decide) ?_) (fun w3 => br_t rfl ?_)
  · exact c_readRule (ty := 1) hf hl hch (by omega) a1 (hD.keep (fun c _ _ => a2.1 c (by omega))) hw (fun e q M' b1 b2 => e0 e ((ch_f w2).trans ((ch_t w).trans q)) M' b1 (a2.k.trans b2)) (fun s' D' q M' b1 b2 b3 => e1 s' D' ((ch_f w2).trans ((ch_t w).trans q)) M' b1 b2 (a2.k.trans b3))
  refine c_takeWord hf hl hch hX (by omega) (fun w M1 a1 a2 => br_f (by decide) ?_) (fun w4 => br_t rfl ?_)
  · exact c_readRule (ty := 2) hf hl hch (by omega) a1 (hD.keep (fun c _ _ => a2.1 c (by omega))) hw (fun e q M' b1 b2 => e0 e ((ch_f w2).trans ((ch_f w3).trans ((ch_t w).trans q))) M' b1 (a2.k.trans b2)) (fun s' D' q M' b1 b2 b3 => e1 s' D' ((ch_f w2).trans ((ch_f w3).trans ((ch_t w).trans q))) M' b1 b2 (a2.k.trans b3))
  refine c_takeWord hf hl hch hX (by omega) (fun w M1 a1 a2 => br_f (by decide) ?_) (fun w5 => br_t rfl ?_)
  · exact c_readRule (ty := 3) hf hl hch (by omega) a1 (hD.keep (fun c _ _ => a2.1 c (by omega))) hw (fun e q M' b1 b2 => e0 e ((ch_f w2).trans ((ch_f w3).trans ((ch_f w4).trans ((ch_t w).trans q)))) M' b1 (a2.k.trans b2)) (fun s' D' q M' b1 b2 b3 => e1 s' D' ((ch_f w2).trans ((ch_f w3).trans ((ch_f w4).trans ((ch_t w).trans q)))) M' b1 b2 (a2.k.trans b3))
  refine c_takeWord hf hl hch hX (by omega) (fun w M1 a1 a2 => br_f (by decide) ?_) (fun w6 => br_t rfl ?_)
  · exact c_readCosts hf hl hch a1 (hD.keep (fun c _ _ => a2.1 c (by omega))) (fun e q M' b1 b2 => e0 e ((ch_f w2).trans ((ch_f w3).trans ((ch_f w4).trans ((ch_f w5).trans ((ch_t w).trans q))))) M' b1 (a2.k.trans b2)) (fun s' D' q M' b1 b2 b3 => e1 s' D' ((ch_f w2).trans ((ch_f w3).trans ((ch_f w4).trans ((ch_f w5).trans ((ch_t w).trans q))))) M' b1 b2 (a2.k.trans b3))
  · exact e0 s ((ch_f w2).trans ((ch_f w3).trans ((ch_f w4).trans ((ch_f w5).trans (ch_f w6))))) M hX.2.1 kC.rfl'
theorem c_siClear {fu : Nat} {post : Mm → Prop} {s n : Nat} {M : Mm} (hf : 1300 ≤ fu) (hs : kd s = 8) (h : ∀ M', SitC M' s (dput eD 0 n) → (∀ c, (c ≤ s ∨ s + 10 ≤ c) → M' c = M c) → post M') : f_Si_clear fu post s (nI n) M := by
  obtain ⟨l2, l3, l4, l5, l7, l9⟩ := lnS' hs
  unfold f_Si_clear f_Au_clear
  intro M1 e1
  refine s_fill hf (fun M2 a1 a2 => s_fill hf (fun M3 b1 b2 => s_setAll hf hs (fun M4 c1 c2 c3 M5 e5 => ?_)))
  rw [show s + 1 + 1 = s + 2 from rfl] at a1 a2
  rw [show s + 1 + 2 = s + 3 from rfl] at b1 b2
  rw [l2] at a1
  rw [l3] at b1
  refine h M5 ⟨?_, fun q hq => ?_, fun k hk => ⟨?_, fun y => absurd ?_ y⟩, fun k hk => ⟨?_, ?_, ?_, ?_⟩, ?_, fun i hi => ?_⟩ (fun c hc => by rw [e5, up_c (by omega), c3 c (by omega), b2 c (by omega), a2 c (by omega), e1, up_c (by omega)])
  · rw [e5, up_c (by omega), c3 _ (by omega), b2 _ (by omega), a2 _ (by omega), e1, up_s, dput_s]
  · rw [e5, up_c (by omega), c3 _ (by omega), b2 _ (by omega), a1 q hq, dput_k (by omega), show eD 1 = 0 from rfl, Nat.zero_testBit]; rfl
  · rw [e5, up_c (by omega), c3 _ (by omega), b1 k hk, dput_k (by omega), show eD (2 + k) = 0 from by unfold eD; rw [if_neg (by omega), if_neg (by omega)]]; rfl
  · rw [dput_k (by omega)]; unfold eD; rw [if_neg (by omega), if_neg (by omega)]
  · rw [e5, up_c (by omega), c1 k hk]
  · rw [e5, up_c (by omega), c2 _ (by omega) (by omega), dput_k (by omega)]; unfold eD; rw [if_neg (by omega), if_pos (by omega)]
  · rw [e5, up_c (by omega), c2 _ (by omega) (by omega), dput_k (by omega)]; unfold eD; rw [if_neg (by omega), if_pos (by omega)]
  · rw [e5, up_c (by omega), c2 _ (by omega) (by omega), dput_k (by omega)]; unfold eD; rw [if_neg (by omega), if_pos (by omega)]
  · rw [e5, up_s]; rfl
  · rw [dput_k (by omega), show eD 56 = 0 from rfl] at hi; omega
theorem c_readStates {fu : Nat} {post : Int32 → Mm → Prop} {len s : Nat} {T : Nat → Nat} {M : Mm} (hf : 1300 ≤ fu) (hl : len ≤ 150) (hch : ∀ i, i < len → T i < 256) (hX : LX M len T s)
    (h0 : ∀ e, aSem T len (aHd T len s) = .inl e → ∀ M', M' 93 3 = nI e → kC M M' → post 0 M')
    (h1 : ∀ s' D', aSem T len (aHd T len s) = .inr (s', D') → ∀ M', LX M' len T s' → SitC M' 95 D' → kC M M' → post 1 M') : f_Gt_readStates fu post 93 M := by
  unfold f_Gt_readStates
  refine c_takeWord hf hl hch hX (by omega) (fun w M1 a1 a2 => br_f (by decide) ?_) (fun w => br_t rfl (h0 s (by unfold aHd; rw [ch_f w]; rfl) M hX.2.1 kC.rfl'))
  refine c_takeDigit (lo := 1) (hi := 6) hf hl hch a1 (by omega) (by omega) (fun hd M2 b1 b2 => ?_) (fun hd => br_f (by decide) (h0 _ (by unfold aHd; rw [ch_t w, ch_f hd]; rfl) M1 a1.2.1 a2.k))
  have g := dg_lt hd
  refine br_t (nI_pos' (by omega)) (c_siClear (s := 95) hf kd_95 (fun M3 c1 c2 => ?_))
  have k3 : kC M M3 := (a2.k.trans b2.k).trans ⟨fun c q1 q2 => c2 c (by omega), by rw [c2 93 (by omega)]⟩
  have X3 : LX M3 len T (nx T len (nx T len s)) := b1.keep (c2 93 (by omega)) (c2 94 (by omega))
  refine c_takeWord hf hl hch X3 (by omega) (fun w2 M4 d1 d2 => ?_) (fun w2 => ?_)
  · exact h1 _ _ (by unfold aHd; rw [ch_t w, ch_t hd]; exact ch_t w2) M4 d1 (c1.keep (fun c _ _ => d2.1 c (by omega))) (k3.trans d2.k)
  · exact h0 _ (by unfold aHd; rw [ch_t w, ch_t hd]; exact ch_f w2) M3 X3.2.1 k3
theorem c_rdLoop {fu : Nat} {post : Int32 → Mm → Prop} {len : Nat} {T : Nat → Nat} (hf : 1300 ≤ fu) (hl : len ≤ 150) (hch : ∀ i, i < len → T i < 256) : ∀ (f kf n s : Nat) (D : Nat → Nat) (M : Mm), f ≤ kf → len - s < f → n ≤ s → LX M len T s → SitC M 95 D → wfD D →
    (∀ e, aRun T len f n s D = .inl e → ∀ M', kC M M' → post ((-10) - nI e) M') →
    (∀ n' D', aRun T len f n s D = .inr (n', D') → ∀ M', SitC M' 95 D' → kC M M' → post (nI n') M') → f_Gt_read_26 fu post kf 93 (nI n) M := by
  intro f
  induction f with
  | zero => intro kf n s D M h1 h2; omega
  | succ f ih =>
    intro kf n s D M hkf hfs hn hX hD hw h0 h1
    have hs := hX.2.2.2
    obtain ⟨kf, rfl⟩ : ∃ j, kf = j + 1 := ⟨kf - 1, by omega⟩
    rw [f_Gt_read_26, hX.1.1, hX.2.1]
    refine pk_le len s (fun z => ?_) (fun z => pk_le 150 n (fun y => by omega) (fun _ => ?_))
    · exact h1 n D (by rw [aRun, if_pos (by omega)]) M hD kC.rfl'
    have ok := aSem_ok (T := T) (aBdy_ok (T := T) hw hs)
    refine c_readStatement hf hl hch hX hD hw (fun e q M1 a1 a2 => br_t rfl ?_) (fun s' D' q M1 a1 a2 a3 => br_f (by decide) (fun y ey => ?_))
    · rw [a1]
      exact h0 e (by rw [aRun, if_neg (by omega)]; simp only [q]) M1 a2
    · have g := ok.2 s' D' q
      have er : aRun T len (f + 1) n s D = aRun T len f (n + 1) s' D' := by rw [aRun, if_neg (by omega)]; simp only [q]
      rw [er] at h0 h1
      rw [ey, nI_1]
      exact ih kf (n + 1) s' D' M1 (by omega) (by omega) (by omega) a1 a2 g.1 (fun e q2 M' b1 => h0 e q2 M' (a3.trans b1)) (fun n' D'' q2 M' b1 b2 => h1 n' D'' q2 M' b1 (a3.trans b2))
theorem c_read {fu : Nat} {post : Int32 → Mm → Prop} {len : Nat} {T : Nat → Nat} {M : Mm} (hf : 1300 ≤ fu) (hl : len ≤ 150) (hch : ∀ i, i < len → T i < 256) (hT : TxC M len T)
    (h0 : ∀ e, aPar T len = .inl e → ∀ M', kC M M' → post ((-10) - nI e) M')
    (h1 : ∀ n' D', aPar T len = .inr (n', D') → ∀ M', SitC M' 95 D' → kC M M' → post (nI n') M') : f_Gt_read fu post 93 M := by
  unfold f_Gt_read
  intro M1 e1
  have hT1 : TxC M1 len T := ⟨by rw [e1, up_k (by omega)]; exact hT.1, fun i hi => by rw [e1, up_c (by omega)]; exact hT.2 i hi⟩
  have k1 : kC M M1 := ⟨fun c a _ => by rw [e1, up_c a], by rw [e1, up_k (by omega)]⟩
  refine c_next (i := 0) hf hl hch hT1 (by omega) (by rw [e1, up_s]; rfl) (fun M2 a1 a2 a3 => ?_)
  have hk := sk_le (T := T) (len := len) (i := 0) (by omega)
  have X2 : LX M2 len T (sk T len 0) := ⟨hT1.fr a3, a1, a2, hk.2⟩
  have k2 : kC M M2 := k1.trans a3.k
  have ok := aSem_ok (T := T) (aHd_ok (T := T) hk.2)
  refine c_readStates hf hl hch X2 (fun e q M3 b1 b2 => br_t rfl ?_) (fun s' D' q M3 b1 b2 b3 => br_f (by decide) ?_)
  · rw [b1]
    exact h0 e (by unfold aPar; simp only [q]) M3 (k2.trans b2)
  · have g := ok.2 s' D' q
    have er : aPar T len = aRun T len (len + 1) 1 s' D' := by unfold aPar; simp only [q]
    rw [er] at h0 h1
    exact c_rdLoop hf hl hch (len + 1) fu 1 s' D' M3 (by omega) (by omega) (by omega) b1 b2 g.1 (fun e q2 M' d1 => h0 e q2 M' ((k2.trans b3).trans d1)) (fun n' D'' q2 M' d1 d2 => h1 n' D'' q2 M' d1 ((k2.trans b3).trans d2))
