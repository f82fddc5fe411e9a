/-! the operations on local scripts -/
theorem op_k27 {fu : Nat} (hf : 1300 ≤ fu) : op_27 fu JR := by
  rintro M ⟨D, cnt, H, len, T, hW, hC, hM⟩ x
  have hw := hW.1
  have h12 := hw.2.2.2.2.1
  have sp := runD_spec hw (D 56) 0 1 (by omega) (by omega)
  have eqn : ∀ la la' : Nat, la ≤ 5 → la' ≤ 5 → x = nI la → x = nI la' → la' = la := fun la la' a b e e' => by rw [e', nI_eq (by omega) (by omega)] at e; exact e
  unfold f_SR_localCost
  refine c_solveLocal hf hW hC (fun q => br_f (by decide) ?_) (fun la l1 l5 e hb M1 c1 c2 => br_f (by decide) ?_) (fun la l1 l5 e hb hl M1 c1 c2 => br_f (by decide) ?_) (fun la l1 l5 e hb hl M1 G gn gq c1 c2 c3 c4 c5 c6 c7 => br_t (by decide) ?_)
  · unfold f_Md_localCost
    exact m_findLocal hf hw hM (fun _ => ⟨rfl, mkR hW hC hM⟩) (fun la a b e => absurd ⟨la, a, b, e⟩ q) (fun la a b e => absurd ⟨la, a, b, e⟩ q) (fun la a b e => absurd ⟨la, a, b, e⟩ q)
  · unfold f_Md_localCost
    exact m_findLocal hf hw (hM.frC c2) (fun q => absurd ⟨la, l1, l5, e⟩ q) (fun la' a b e' hb' M2 m1 m2 => ⟨rfl, mkR hW (c1.frM m2) m1⟩) (fun la' a b e' hb' => absurd hb' (by rw [hb]; decide)) (fun la' a b e' hb' => absurd hb' (by rw [hb]; decide))
  · unfold f_Md_localCost
    refine m_findLocal hf hw (hM.frC c2) (fun q => absurd ⟨la, l1, l5, e⟩ q) (fun la' a b e' hb' => absurd hb' (by rw [hb]; decide)) (fun la' a b e' hb' hl' M2 m1 m2 => ⟨rfl, mkR hW (c1.frM m2) m1⟩) (fun la' a b e' hb' hl' => ?_)
    rw [eqn la la' l5 b e e'] at hl'
    omega
  · unfold f_St_leastFrom
    simp only [Nat.reduceAdd]
    rw [c6, c7, show (96 : Int32) = nI 96 from rfl, pk_mul, nI_add, Nat.mul_comm _ 96]
    refine s_at (by rw [(ln_T 123 (Or.inr rfl)).2.2.2.2.1]; omega) ?_
    rw [(c4.2.2 (runD D (D 56) 0 1).1 (runD D (D 56) 0 1).2 (by omega) c5).1]
    unfold f_Md_localCost
    refine m_findLocal hf hw (hM.frC c2) (fun q => absurd ⟨la, l1, l5, e⟩ q) (fun la' a b e' hb' => absurd hb' (by rw [hb]; decide)) (fun la' a b e' hb' hl' => ?_) (fun la' a b e' hb' hl' M2 n L X q1 m1 m2 m3 => ⟨by rw [eqn la la' l5 b e e'], mkR hW (c1.frM m2) m1⟩)
    rw [eqn la la' l5 b e e'] at hl'
    omega
theorem op_lentry {fu : Nat} (hf : 1300 ≤ fu) {M : Mm} {D : Nat → Nat} {cnt : Nat} {H : Nat → Nat → Nat} {len : Nat} {T : Nat → Nat} (hW : WF D cnt H len T) (hC : JC M D cnt H len T) (hM : JM M D cnt H len T) {x1 x2 : Int32} {kx : Int32} (hkx : kx = 0 ∨ kx = 1) {Q : Int32 → Mm → Prop} (hQ : ∀ r M1, f_Md_localEntry fu (fun r2 M2 => r = r2 ∧ JR M2) 145 x1 x2 kx M1 → Q r M1)
    {P : Int32 → Mm → Prop} (hP1 : ∀ r M1, r = -1 ∨ r = -2 ∨ r = -9 → Q r M1 → P r M1) (hP2 : ∀ i M1, x2 = nI i → i < 2 ^ 31 → (∀ Q' : Mm → Prop, (∀ M2 L X, L ≤ 1248 → SCR M2 L X → Q (if i < L then (if kx = 0 then nI (X i).1 else nI (X i).2) else -9) M2 → Q' M2) → f_St_trace fu Q' 123 144 (nI 0) 141 M1) → P 0 M1) : ((0 ≤ x2) → f_SR_solveLocal fu P 0 x1 M) ∧ (¬ (0 ≤ x2) → P (-1) M) := by
  have hw := hW.1
  have h12 := hw.2.2.2.2.1
  have sp := runD_spec hw (D 56) 0 1 (by omega) (by omega)
  have eqn : ∀ la la' : Nat, la ≤ 5 → la' ≤ 5 → x1 = nI la → x1 = nI la' → la' = la := fun la la' a b e e' => by rw [e', nI_eq (by omega) (by omega)] at e; exact e
  refine ⟨fun hx => ?_, fun hx => hP1 _ _ (Or.inl rfl) (hQ _ _ ?_)⟩
  · obtain ⟨i, hi, e2⟩ := nI_of (fun y : x2 < 0 => absurd y (Std.not_lt.2 hx))
    refine c_solveLocal hf hW hC (fun q => hP1 _ _ (Or.inl rfl) (hQ _ _ ?_)) (fun la l1 l5 e hb M1 c1 c2 => hP1 _ _ (Or.inr (Or.inl rfl)) (hQ _ _ ?_)) (fun la l1 l5 e hb hl M1 c1 c2 => hP1 _ _ (Or.inr (Or.inr rfl)) (hQ _ _ ?_)) (fun la l1 l5 e hb hl M1 G gn gq c1 c2 c3 c4 c5 c6 c7 => hP2 i M1 e2 hi (fun Q' hQ' => ?_))
    · unfold f_Md_localEntry
      refine br_t hx ?_
      exact m_findLocal hf hw hM (fun _ => br_f (by decide) ⟨rfl, mkR hW hC hM⟩) (fun la a b e => absurd ⟨la, a, b, e⟩ q) (fun la a b e => absurd ⟨la, a, b, e⟩ q) (fun la a b e => absurd ⟨la, a, b, e⟩ q)
    · unfold f_Md_localEntry
      refine br_t hx ?_
      exact m_findLocal hf hw (hM.frC c2) (fun q => absurd ⟨la, l1, l5, e⟩ q) (fun la' a b e' hb' M2 m1 m2 => br_f (by decide) ⟨rfl, mkR hW (c1.frM m2) m1⟩) (fun la' a b e' hb' => absurd hb' (by rw [hb]; decide)) (fun la' a b e' hb' => absurd hb' (by rw [hb]; decide))
    · unfold f_Md_localEntry
      refine br_t hx ?_
      refine m_findLocal hf hw (hM.frC c2) (fun q => absurd ⟨la, l1, l5, e⟩ q) (fun la' a b e' hb' => absurd hb' (by rw [hb]; decide)) (fun la' a b e' hb' hl' M2 m1 m2 => br_f (by decide) ⟨rfl, mkR hW (c1.frM m2) m1⟩) (fun la' a b e' hb' hl' => ?_)
      rw [eqn la la' l5 b e e'] at hl'
      omega
    · have hn := okn_of c4.2.1.clo c5 (show (runD D (D 56) 0 1).1 ≤ D 56 by omega)
      refine c_trace hf (Or.inr rfl) hw l5 (Ws_pos hw la 1248 _ hn (pot_1248 hw hn) hl) hl (by omega) c5 (by omega) c4 c3 c6 c7 (fun M2 p' c' L X q1 q2 q3 q4 q5 q6 q7 q8 q9 q10 q11 => hQ' M2 L X q5 q9 (hQ _ _ ?_))
      have c1' := c1.tr (Or.inr rfl) q11
      have c2' : frC M M2 := c2.trans (fun c hc => q11.1 c (by omega) (by omega))
      unfold f_Md_localEntry
      refine br_t hx ?_
      refine m_findLocal hf hw (hM.frC c2') (fun q => absurd ⟨la, l1, l5, e⟩ q) (fun la' a b e' hb' => absurd hb' (by rw [hb]; decide)) (fun la' a b e' hb' hl' => ?_) (fun la' a b e' hb' hl' M3 n L' X' r1 m1 m2 m3 => br_t (nI_pos' (by omega)) ?_)
      · rw [eqn la la' l5 b e e'] at hl'
        omega
      · rw [eqn la la' l5 b e e', q1] at r1
        cases r1
        have hJ : JR M3 := mkR hW (c1'.frM m2) m1
        unfold f_Md_scriptEntry
        simp only [Nat.reduceAdd]
        rw [m3.1, e2, ln_M.2.2.2.2.2.2.2.1, ln_M.2.2.2.2.2.2.2.2.1]
        refine pk_lt i L (fun z2 => ?_) (fun z2 => ⟨by rw [if_neg (by omega)], hJ⟩)
        rw [if_pos z2, nI_clamp (by omega)]
        obtain ⟨s1, s2⟩ := m3.2 i z2
        rcases hkx with y | y
        · rw [y, s1]
          exact br_t rfl ⟨vp_in_nI (by omega) (by omega), by rw [if_pos rfl], hJ⟩
        · rw [y, s2]
          exact br_f (by decide) ⟨vp_in_nI (by omega) (by omega), by rw [if_neg (by decide)], hJ⟩
  · unfold f_Md_localEntry
    exact br_f hx ⟨rfl, mkR hW hC hM⟩
theorem op_k28 {fu : Nat} (hf : 1300 ≤ fu) : op_28 fu JR := by
  rintro M ⟨D, cnt, H, len, T, hW, hC, hM⟩ x1 x2
  unfold f_SR_localOperation f_Md_localOperation
  refine op_lentry hf hW hC hM (x1 := x1) (x2 := x2) (kx := 0) (Or.inl rfl) (fun r M1 h => h) (fun r M1 hr h => ?_) (fun i M1 e hi h => ?_)
  · unfold f_SR_localOperation_13
    exact br_f (by rcases hr with y | y | y <;> rw [y] <;> decide) h
  · unfold f_SR_localOperation_13
    subst e
    refine br_t (by decide) (h _ (fun M2 L X hL hS g => ?_))
    rw [if_pos rfl] at g
    exact c_opAt hi hL hS g
theorem op_k29 {fu : Nat} (hf : 1300 ≤ fu) : op_29 fu JR := by
  rintro M ⟨D, cnt, H, len, T, hW, hC, hM⟩ x1 x2
  unfold f_SR_localKind f_Md_localKind
  refine op_lentry hf hW hC hM (x1 := x1) (x2 := x2) (kx := 1) (Or.inr rfl) (fun r M1 h => h) (fun r M1 hr h => ?_) (fun i M1 e hi h => ?_)
  · unfold f_SR_localKind_13
    exact br_f (by rcases hr with y | y | y <;> rw [y] <;> decide) h
  · unfold f_SR_localKind_13
    subst e
    refine br_t (by decide) (h _ (fun M2 L X hL hS g => ?_))
    rw [if_neg (show ¬ (1 : Int32) = 0 by decide)] at g
    exact c_kdAt hi hL hS g
