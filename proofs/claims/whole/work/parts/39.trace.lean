/-! the class traces a script -/
def TbG (M : Mm) (t : Nat) (D : Nat → Nat) (la : Nat) (G : Nat → Prop) (gn : Nat) (gq : Nat → Nat) : Prop := SitC M (t + 1) D ∧ Rea M (t + 1) D G gn gq ∧ ∀ p c, p ≤ D 56 → G c → M (t + 15) (96 * p + c) = nI (Ls D la (96 * p + c)) ∧ M (t + 17) (96 * p + c) = nI (min (Ws D la (96 * p + c)) 1000)
theorem TbG.keep {M M' : Mm} {t : Nat} {D : Nat → Nat} {la : Nat} {G : Nat → Prop} {gn : Nat} {gq : Nat → Nat} (h : TbG M t D la G gn gq) (k : ∀ c, t < c → c < t + 18 → M' c = M c) : TbG M' t D la G gn gq := by
  obtain ⟨h1, h2, h3⟩ := h
  refine ⟨h1.keep (fun c a b => k c (by omega) (by omega)), h2.keep (fun a b c => k a (by omega) (by omega)), ?_⟩
  rw [k (t + 15) (by omega) (by omega), k (t + 17) (by omega) (by omega)]
  exact h3
theorem Tab.G {M : Mm} {t : Nat} {D : Nat → Nat} {la : Nat} (h : Tab M t D la) : ∃ G gn gq, TbG M t D la G gn gq := by
  obtain ⟨h1, G, n, q, h2, h3⟩ := h
  refine ⟨G, n, q, h1, h2, fun p c hp hc => ?_⟩
  obtain ⟨l, s, w, ⟨r1, r2, r3⟩, v1, v2, v3⟩ := h3 p c hp hc
  rw [v1, v3, r1, r3]
  exact ⟨rfl, rfl⟩
def tokN (D : Nat → Nat) (p : Nat) : Nat := if p < D 56 then D (57 + p) else 0
def tokI (D : Nat → Nat) (p : Nat) : Int32 := if p < D 56 then nI (D (57 + p)) else -1
theorem c_kindAtI {fu : Nat} {post : Int32 → Mm → Prop} {s p : Nat} {D : Nat → Nat} {M : Mm} (hs : kd s = 8) (hD : SitC M s D) (hw : D 56 ≤ 12) (hp : p ≤ 12) (h : post (tokI D p) M) : f_To_kindAt fu post (s + 8) (nI p) M := by
  unfold tokI at h
  by_cases z : p < D 56
  · rw [if_pos z] at h; exact c_kindAt hs hD hw z h
  · rw [if_neg z] at h; exact c_kindAt_hi hD (by omega) (by omega) h
theorem mv_0 : ∀ m, m < 14 → mv 0 m = nI (cm 0 m).1 := by decide +kernel
theorem mv_1 : ∀ m, m < 14 → mv 1 m = if m = 0 ∨ m = 7 then -1 else nI (cm 0 m).2 := by decide +kernel
theorem cm_1 {tok m : Nat} : (cm tok m).1 = (cm 0 m).1 := by
  unfold cm
  by_cases h0 : m = 0
  · rw [if_pos h0, if_pos h0]
  · rw [if_neg h0, if_neg h0]
    by_cases h1 : m < 7
    · rw [if_pos h1, if_pos h1]
    · rw [if_neg h1, if_neg h1]
      by_cases h2 : m = 7
      · rw [if_pos h2, if_pos h2]
      · rw [if_neg h2, if_neg h2]
theorem cm_2 {tok m : Nat} (h : ¬ (m = 0 ∨ m = 7)) : (cm tok m).2 = (cm 0 m).2 := by
  have h0 : ¬ m = 0 := fun y => h (Or.inl y)
  have h2 : ¬ m = 7 := fun y => h (Or.inr y)
  unfold cm
  rw [if_neg h0, if_neg h0]
  by_cases h1 : m < 7
  · rw [if_pos h1, if_pos h1]
  · rw [if_neg h1, if_neg h1, if_neg h2, if_neg h2]
theorem s_ats {fu : Nat} {post : Int32 → Mm → Prop} {r m : Nat} {M : Mm} (hm : m < 14) (h : post (mv r m) M) : f_SR_at_s fu post r (nI m) M := by
  unfold f_SR_at_s
  refine br_f (nI_pos (by omega)) (br_f (nI_ge (b := 14) hm (by omega)) ⟨vp_in_nI hm (by omega), ?_⟩)
  rw [nI_clamp (by omega)]
  exact h
theorem c_kindOf {fu : Nat} {post : Int32 → Mm → Prop} {m : Nat} {tk : Int32} {M : Mm} (hm : m < 14) (h : post (if m = 0 ∨ m = 7 then tk else nI (cm 0 m).2) M) : f_St_kindOf fu post (nI m) tk M := by
  unfold f_St_kindOf
  refine s_ats hm ?_
  rw [mv_1 m hm]
  by_cases z : m = 0 ∨ m = 7
  · rw [if_pos z] at h ⊢
    exact br_f (by decide) h
  · rw [if_neg z] at h ⊢
    refine br_t (nI_pos' ?_) h
    unfold cm; rw [if_neg (by omega)]; split
    · show m - 1 < _; omega
    · rw [if_neg (by omega)]; show m - 8 < _; omega
def gI (o : Option (Nat × Nat)) : Int32 := match o with
  | none => -1
  | some y => nI y.1
theorem cm_cases {tok m : Nat} (hm : m < 14) : (m = 0 ∧ cm tok m = (0, tok)) ∨ (1 ≤ m ∧ m < 7 ∧ cm tok m = (1, m - 1)) ∨ (m = 7 ∧ cm tok m = (2, tok)) ∨ (8 ≤ m ∧ cm tok m = (3, m - 8)) := by
  unfold cm
  by_cases h0 : m = 0
  · left; rw [if_pos h0]; exact ⟨h0, rfl⟩
  · by_cases h1 : m < 7
    · right; left; rw [if_neg h0, if_pos h1]; exact ⟨by omega, h1, rfl⟩
    · by_cases h2 : m = 7
      · right; right; left; rw [if_neg h0, if_neg h1, if_pos h2]; exact ⟨h2, rfl⟩
      · right; right; right; rw [if_neg h0, if_neg h1, if_neg h2]; exact ⟨by omega, rfl⟩
theorem c_targetOf {fu : Nat} {post : Int32 → Mm → Prop} {t p c m la gn : Nat} {D : Nat → Nat} {G : Nat → Prop} {gq : Nat → Nat} {M : Mm} (ht : t = 105 ∨ t = 123) (hw : wfD D) (hT : TbG M t D la G gn gq) (hp : p ≤ D 56) (hc : G c) (hm : m < 14) (hla : la = 0 ∨ m ≠ 0)
    (h : post (gI (eg D la (96 * p + c) (cm (tokN D p) m).1 (cm (tokN D p) m).2)) M) : f_St_targetOf fu post t (nI p) (nI c) (nI m) M := by
  have h12 := hw.2.2.2.2.1
  have hkd := (ln_T t ht).1
  have hG := hT.2.1.clo
  have hc96 := (hG c hc).2.1
  have t93 : ∀ lev k x, k < 6 → (cns D c k).map (fun c' => (96 * lev + c', x)) = eg D la (96 * p + c) (cm (tokN D p) m).1 (cm (tokN D p) m).2 → f_Re_after fu (fun r2 M1 => f_St_targetOf_93 fu post (nI lev) r2 M1) (t + 11) (nI c) (nI k) M := fun lev k x hk he => by
    refine c_Reafter ht hT.2.1 hc hk ?_
    unfold f_St_targetOf_93
    rw [← he] at h
    cases hq : cns D c k with
    | none => rw [hq] at h; exact br_f (show ¬ (0 : Int32) ≤ -1 by decide) h
    | some c' =>
      rw [hq] at h
      refine br_t (nI_pos' (n := c') (by have := cns_lt hw hc96 hk hq; omega)) ?_
      rw [show (96 : Int32) = nI 96 from rfl, pk_mul, show oI (-1) (some c') = nI c' from rfl, nI_add, Nat.mul_comm lev 96]
      exact h
  unfold f_St_targetOf
  refine s_ats hm ?_
  refine c_kindAtI hkd hT.1 h12 (by omega) ?_
  rw [mv_0 m hm]
  have tk : p < D 56 → tokI D p = nI (D (57 + p)) ∧ tokN D p = D (57 + p) ∧ D (57 + p) < 6 := fun z => ⟨if_pos z, if_pos z, hw.2.2.2.2.2 p (by omega)⟩
  have tk0 : ¬ p < D 56 → tokI D p = -1 := fun z => if_neg z
  have q0 := eg_0 (D := D) (la := la) (p := p) (k := tokN D p) hc96
  have q1 := fun k => eg_1 (D := D) (la := la) (p := p) (k := k) hc96
  have q2 := eg_2 (D := D) (la := la) (p := p) (k := tokN D p) hc96
  have q3 := fun k => eg_3 (D := D) (la := la) (p := p) (k := k) hc96
  rcases cm_cases (tok := tokN D p) hm with ⟨c1, c2⟩ | ⟨c1, c1', c2⟩ | ⟨c1, c2⟩ | ⟨c1, c2⟩
  · rw [c2] at h t93
    subst c1
    refine br_f (by decide) ?_
    by_cases z : p < D 56
    · obtain ⟨k1, k2, k3⟩ := tk z
      rw [k1]
      refine br_t (nI_pos' (by omega)) ?_
      unfold f_St_targetOf_35
      refine c_kindOf hm ?_
      rw [if_pos (Or.inl rfl)]
      refine br_f (by decide) ?_
      unfold f_St_targetOf_58 f_St_targetOf_71
      refine br_f (by decide) (br_f (by decide) ?_)
      rw [nI_1]
      refine t93 (p + 1) _ 0 k3 ?_
      show _ = eg D la (96 * p + c) 0 (tokN D p)
      rw [q0, if_pos ⟨by omega, z, k2⟩, k2]
    · rw [tk0 z]
      refine br_f (by decide) ?_
      rw [show eg D la (96 * p + c) 0 (tokN D p) = none by rw [q0, if_neg (fun y => z y.2.1)]] at h
      exact h
  · rw [c2] at h t93
    have o1 : (cm 0 m).1 = 1 := by rw [← cm_1 (tok := tokN D p), c2]
    have o2 : (cm 0 m).2 = m - 1 := by rw [← cm_2 (tok := tokN D p) (by omega), c2]
    rw [o1]
    refine br_f (by decide) ?_
    by_cases z : p < D 56
    · obtain ⟨k1, k2, k3⟩ := tk z
      rw [k1]
      refine br_t (nI_pos' (by omega)) ?_
      unfold f_St_targetOf_35
      refine c_kindOf hm ?_
      rw [if_neg (by omega), o2]
      refine br_t rfl (pk_eq (m - 1) (D (57 + p)) (fun z2 => ?_) (fun z2 => ?_))
      · rw [show eg D la (96 * p + c) 1 (m - 1) = none by rw [q1, if_neg (fun y => y.2 z2)]] at h
        exact h
      · unfold f_St_targetOf_58 f_St_targetOf_71
        refine br_f (by decide) (br_f (by decide) ?_)
        rw [nI_1]
        refine t93 (p + 1) _ (D (50 + (m - 1))) (by omega) ?_
        show _ = eg D la (96 * p + c) 1 (m - 1)
        rw [q1, if_pos ⟨z, z2⟩]
    · rw [tk0 z]
      refine br_f (by decide) ?_
      rw [show eg D la (96 * p + c) 1 (m - 1) = none by rw [q1, if_neg (fun y => z y.1)]] at h
      exact h
  · rw [c2] at h
    subst c1
    refine br_f (by decide) ?_
    by_cases z : p < D 56
    · obtain ⟨k1, k2, k3⟩ := tk z
      rw [k1]
      refine br_t (nI_pos' (by omega)) ?_
      unfold f_St_targetOf_35
      refine c_kindOf hm ?_
      rw [if_pos (Or.inr rfl)]
      refine br_f (by decide) ?_
      unfold f_St_targetOf_58 f_St_targetOf_71 f_St_targetOf_93
      refine br_f (by decide) (br_t rfl (br_t (nI_pos' (by omega)) ?_))
      rw [show eg D la (96 * p + c) 2 (tokN D p) = some (96 * (p + 1) + c, D (44 + tokN D p)) by rw [q2, if_pos ⟨z, k2⟩]] at h
      rw [nI_1, show (96 : Int32) = nI 96 from rfl, pk_mul, nI_add, Nat.mul_comm (p + 1) 96]
      exact h
    · rw [tk0 z]
      refine br_f (by decide) ?_
      rw [show eg D la (96 * p + c) 2 (tokN D p) = none by rw [q2, if_neg (fun y => z y.1)]] at h
      exact h
  · rw [c2] at h t93
    have o1 : (cm 0 m).1 = 3 := by rw [← cm_1 (tok := tokN D p), c2]
    have o2 : (cm 0 m).2 = m - 8 := by rw [← cm_2 (tok := tokN D p) (by omega), c2]
    rw [o1]
    refine br_t rfl ?_
    unfold f_St_targetOf_35
    refine c_kindOf hm ?_
    rw [if_neg (by omega), o2]
    refine br_f (by decide) ?_
    unfold f_St_targetOf_58 f_St_targetOf_71
    refine br_t rfl (br_f (by decide) ?_)
    refine t93 p _ (D (38 + (m - 8))) (by omega) ?_
    show _ = eg D la (96 * p + c) 3 (m - 8)
    rw [q3]
theorem c_priceOf {fu : Nat} {post : Int32 → Mm → Prop} {t p c m la gn n' a : Nat} {D : Nat → Nat} {G : Nat → Prop} {gq : Nat → Nat} {M : Mm} (ht : t = 105 ∨ t = 123) (hw : wfD D) (hT : TbG M t D la G gn gq) (hp : p ≤ D 56) (hc : G c) (hm : m < 14)
    (he : eg D la (96 * p + c) (cm (tokN D p) m).1 (cm (tokN D p) m).2 = some (n', a)) (h : post (nI a) M) : f_St_priceOf fu post t (nI m) (tokI D p) M := by
  have h12 := hw.2.2.2.2.1
  have hkd := (ln_T t ht).1
  have hc96 := (hT.2.1.clo c hc).2.1
  unfold f_St_priceOf
  refine s_ats hm (c_kindOf hm ?_)
  rw [mv_0 m hm]
  have tk : p < D 56 → tokI D p = nI (D (57 + p)) ∧ tokN D p = D (57 + p) ∧ D (57 + p) < 6 := fun z => ⟨if_pos z, if_pos z, hw.2.2.2.2.2 p (by omega)⟩
  rcases cm_cases (tok := tokN D p) hm with ⟨c1, c2⟩ | ⟨c1, c1', c2⟩ | ⟨c1, c2⟩ | ⟨c1, c2⟩
  · rw [c2] at he
    rw [eg_0 hc96] at he
    by_cases z : la = 0 ∧ p < D 56 ∧ tokN D p = D (57 + p)
    · rw [if_pos z, Option.map_eq_some_iff] at he
      obtain ⟨c', _, e⟩ := he
      cases e
      obtain ⟨k1, k2, k3⟩ := tk z.2.1
      rw [if_pos (Or.inl c1), k1, c1]
      refine c_Coof (s := t + 1) (o := 0) hkd (by omega) k3 ?_
      have := (hT.1.2.2.2.1 _ k3).1
      rw [show 6 * 0 + D (57 + p) = D (57 + p) by omega, this]
      exact h
    · rw [if_neg z] at he; cases he
  · rw [c2] at he
    have o1 : (cm 0 m).1 = 1 := by rw [← cm_1 (tok := tokN D p), c2]
    have o2 : (cm 0 m).2 = m - 1 := by rw [← cm_2 (tok := tokN D p) (by omega), c2]
    rw [eg_1 hc96] at he
    by_cases z : p < D 56 ∧ m - 1 ≠ D (57 + p)
    · rw [if_pos z, Option.map_eq_some_iff] at he
      obtain ⟨c', _, e⟩ := he
      cases e
      rw [if_neg (by omega), o1, o2]
      refine c_Coof (s := t + 1) (o := 1) hkd (by omega) (by omega) ?_
      rw [hT.1.costAt (Or.inr (Or.inr ⟨rfl, rfl⟩)) (by omega)]
      exact h
    · rw [if_neg z] at he; cases he
  · rw [c2] at he
    rw [eg_2 hc96] at he
    by_cases z : p < D 56 ∧ tokN D p = D (57 + p)
    · rw [if_pos z] at he
      cases he
      obtain ⟨k1, k2, k3⟩ := tk z.1
      rw [if_pos (Or.inr c1), k1, c1]
      refine c_Coof (s := t + 1) (o := 2) hkd (by omega) k3 ?_
      rw [hT.1.costAt (Or.inr (Or.inl ⟨rfl, rfl⟩)) k3, ← k2]
      exact h
    · rw [if_neg z] at he; cases he
  · rw [c2] at he
    have o1 : (cm 0 m).1 = 3 := by rw [← cm_1 (tok := tokN D p), c2]
    have o2 : (cm 0 m).2 = m - 8 := by rw [← cm_2 (tok := tokN D p) (by omega), c2]
    rw [eg_3 hc96, Option.map_eq_some_iff] at he
    obtain ⟨c', _, e⟩ := he
    cases e
    rw [if_neg (by omega), o1, o2]
    refine c_Coof (s := t + 1) (o := 3) hkd (by omega) (by omega) ?_
    rw [hT.1.costAt (Or.inl ⟨rfl, rfl⟩) (by omega)]
    exact h
theorem cm_kd {tok m : Nat} (ht : tok < 6) (hm : m < 14) : (cm tok m).2 < 6 ∧ (cm tok m).1 < 4 := by
  rcases cm_cases (tok := tok) hm with ⟨c1, c2⟩ | ⟨c1, c1', c2⟩ | ⟨c1, c2⟩ | ⟨c1, c2⟩ <;> rw [c2]
  · exact ⟨ht, by show 0 < 4; omega⟩
  · exact ⟨by show m - 1 < 6; omega, by show 1 < 4; omega⟩
  · exact ⟨ht, by show 2 < 4; omega⟩
  · exact ⟨by show m - 8 < 6; omega, by show 3 < 4; omega⟩
theorem c_pick_loop {fu : Nat} {post : Int32 → Mm → Prop} {t p c la gn : Nat} {D : Nat → Nat} {G : Nat → Prop} {gq : Nat → Nat} {x : Nat × Nat} {left' : Nat} (ht : t = 105 ∨ t = 123) (hw : wfD D) (hp : p ≤ D 56) (hc : G c) (hl : Ls D la (96 * p + c) < 1000000) : ∀ (kf j left : Nat) (M : Mm), j + 1 ≤ kf → j ≤ 14 → (la = 0 ∨ j ≤ 13) → TbG M t D la G gn gq → M t 10 = nI left → left ≤ 7 → gp (ew D la (96 * p + c)) (cl (tokN D p) j) left = some (x, left') →
    (∀ M' m, m < 14 → cm (tokN D p) m = x → (la = 0 ∨ m ≠ 0) → M' t 10 = nI left' → (∀ a, a ≠ t → M' a = M a) → (∀ k, k ≠ 10 → M' t k = M t k) → post (nI m) M') → f_St_pickMove_26 fu post kf t (nI p) (nI c) (nI (Ls D la (96 * p + c))) (tokI D p) (nI (14 - j)) M := by
  have h12 := hw.2.2.2.2.1
  intro kf
  induction kf with
  | zero => intro j left M h1; omega
  | succ kf ih =>
    intro j left M h1 h2 h3 hT h10 h7 hg h
    cases j with
    | zero => unfold cl gp at hg; cases hg
    | succ j =>
      have hG := hT.2.1.clo
      have htn : tokN D p < 6 := by
        unfold tokN
        split
        · exact hw.2.2.2.2.2 p (by omega)
        · omega
      have hm : 13 - j < 14 := by omega
      have e0 : 14 - (j + 1) = 13 - j := by omega
      rw [e0, f_St_pickMove_26]
      refine br_f (nI_ge (b := 14) hm (by omega)) ?_
      have nxt : gp (ew D la (96 * p + c)) (cl (tokN D p) j) left = some (x, left') → ∀ y, y = nI (13 - j) + 1 → f_St_pickMove_26 fu post kf t (nI p) (nI c) (nI (Ls D la (96 * p + c))) (tokI D p) y M := fun hg2 y ey => by
        rw [ey, nI_1, show 13 - j + 1 = 14 - j by omega]
        exact ih j left M (by omega) (by omega) (by omega) hT h10 h7 hg2 h
      refine c_targetOf ht hw hT hp hc hm (by omega) ?_
      cases he : eg D la (96 * p + c) (cm (tokN D p) (13 - j)).1 (cm (tokN D p) (13 - j)).2 with
      | none =>
        refine br_t (show (-1 : Int32) < 0 by decide) (nxt ?_)
        unfold cl at hg
        rwa [gp_0 (show ew D la (96 * p + c) (cm (tokN D p) (13 - j)) = 0 from eterm_no he)] at hg
      | some y =>
        obtain ⟨n', a⟩ := y
        obtain ⟨kk1, kk2⟩ := cm_kd htn hm
        obtain ⟨p', c', e1, g1, g2, g3, g4⟩ := eg_G hG hc hp kk1 he
        have ha := (eg_ok hw (okn_of hG hc hp) kk1 he).2.1
        have l2 := Ls_le1 D la n'
        obtain ⟨v1, v2⟩ := hT.2.2 p' c' g3 g1
        rw [← e1] at v1 v2
        obtain ⟨l5, _, l7⟩ := (ln_T t ht).2.2.2.2
        refine br_f (nI_pos (n := n') (by omega)) (c_priceOf ht hw hT hp hc hm he ?_)
        refine s_at (n := n') (by rw [l5]; omega) ?_
        rw [v1, nI_add]
        have hew : ew D la (96 * p + c) (cm (tokN D p) (13 - j)) = if a + Ls D la n' = Ls D la (96 * p + c) ∧ Ls D la (96 * p + c) < 1000000 then Ws D la n' else 0 := eterm_yes he
        refine pk_eq (a + Ls D la n') (Ls D la (96 * p + c)) (fun z => ?_) (fun z => nxt ?_)
        · rw [if_pos ⟨z, hl⟩] at hew
          refine s_at (n := n') (by rw [l7]; omega) ?_
          rw [v2, h10]
          unfold cl at hg
          refine pk_le (min (Ws D la n') 1000) left (fun z2 M11 e11 => ?_) (fun z2 => ?_)
          · rw [gp, hew, if_neg (by omega)] at hg
            rw [pk_sub z2, Nat.min_eq_left (by omega)] at e11
            intro y ey
            rw [ey, nI_1, show 13 - j + 1 = 14 - j by omega]
            refine ih j (left - Ws D la n') M11 (by omega) (by omega) (by omega) (hT.keep (fun a _ _ => by rw [e11, up_c (by omega)])) (by rw [e11, up_s]) (by omega) hg (fun M' m b1 b2 b3 b4 b5 b6 => h M' m b1 b2 b3 b4 (fun a ha => by rw [b5 a ha, e11, up_c ha]) (fun k hk => by rw [b6 k hk, e11, up_k hk]))
          · rw [gp, hew, if_pos (by omega)] at hg
            cases hg
            exact h M (13 - j) hm rfl (by omega) h10 (fun _ _ => rfl) (fun _ _ => rfl)
        · unfold cl at hg
          rw [if_neg (fun y => z y.1)] at hew
          rwa [gp_0 hew] at hg
theorem c_pickMove {fu : Nat} {post : Int32 → Mm → Prop} {t p c la gn left left' : Nat} {D : Nat → Nat} {G : Nat → Prop} {gq : Nat → Nat} {x : Nat × Nat} {M : Mm} (hf : 1300 ≤ fu) (ht : t = 105 ∨ t = 123) (hw : wfD D) (hla : la ≤ 5) (hp : p ≤ D 56) (hc : G c) (hl : Ls D la (96 * p + c) < 1000000) (hT : TbG M t D la G gn gq) (h6 : M t 6 = nI la) (h10 : M t 10 = nI left) (h7 : left ≤ 7) (hg : pick D la (96 * p + c) left = some (x, left'))
    (h : ∀ M' m, m < 14 → cm (tokN D p) m = x → (la = 0 ∨ m ≠ 0) → M' t 10 = nI left' → (∀ a, a ≠ t → M' a = M a) → (∀ k, k ≠ 10 → M' t k = M t k) → post (nI m) M') : f_St_pickMove fu post t (nI p) (nI c) M := by
  have h12 := hw.2.2.2.2.1
  have hkd := (ln_T t ht).1
  have hG := hT.2.1.clo
  have hc96 := (hG c hc).2.1
  have hpc := (pick_class hw (la := la) (left := left) hc96 hp).1
  rw [hg] at hpc
  obtain ⟨l5, _, l7⟩ := (ln_T t ht).2.2.2.2
  unfold f_St_pickMove f_St_leastFrom
  rw [show (96 : Int32) = nI 96 from rfl, pk_mul, nI_add, Nat.mul_comm p 96]
  refine s_at (by rw [l5]; omega) ?_
  rw [(hT.2.2 p c hp hc).1]
  refine c_kindAtI hkd hT.1 h12 (by omega) ?_
  unfold f_St_firstMove
  refine pk_eq la 0 (fun z => ?_) (fun z => ?_) h6
  · rw [if_pos z] at hpc
    exact c_pick_loop ht hw hp hc hl fu 14 left M (by omega) (by omega) (Or.inl z) hT h10 h7 hpc.symm h
  · rw [if_neg z] at hpc
    exact c_pick_loop ht hw hp hc hl fu 13 left M (by omega) (by omega) (Or.inr (by omega)) hT h10 h7 hpc.symm h
