/-! applyRepair -/
def ccn (X : Nat → Nat × Nat) : Nat → Nat
  | 0 => 0
  | i + 1 => if (X i).1 = 2 then ccn X i else ccn X i + 1
def aD (D : Nat → Nat) (X : Nat → Nat × Nat) : Nat → Nat → Nat
  | 0 => dput D 56 0
  | i + 1 => if (X i).1 = 2 then aD D X i else insD (aD D X i) (aD D X i 56) (X i).2
theorem ccn_le (X : Nat → Nat × Nat) : ∀ i, ccn X i ≤ i
  | 0 => Nat.le_refl _
  | i + 1 => by have := ccn_le X i; unfold ccn; split <;> omega
theorem ccn_mono (X : Nat → Nat × Nat) : ∀ i j, i ≤ j → ccn X i ≤ ccn X j
  | i, 0, h => by rw [show i = 0 by omega]; exact Nat.le_refl _
  | i, j + 1, h => by
    by_cases z : i = j + 1
    · rw [z]; exact Nat.le_refl _
    · have := ccn_mono X i j (by omega)
      conv => rhs; unfold ccn
      split <;> omega
theorem aD_56 (D : Nat → Nat) (X : Nat → Nat × Nat) : ∀ i, aD D X i 56 = ccn X i
  | 0 => dput_s
  | i + 1 => by
    unfold aD ccn
    split
    · exact aD_56 D X i
    · unfold insD; rw [if_pos rfl, aD_56 D X i]
theorem wfD_aD {D : Nat → Nat} {X : Nat → Nat × Nat} (hw : wfD D) : ∀ i, ccn X i ≤ 12 → XB i X → wfD (aD D X i)
  | 0, _, _ => wfD_tok hw (fun i hi => dput_k (by omega)) (by show dput D 56 0 56 ≤ 12; rw [dput_s]; omega) (fun i hi => by show dput D 56 0 (57 + i) < 6; rw [dput_k (by omega)]; exact hw.2.2.2.2.2 i hi)
  | i + 1, h, hX => by
    unfold ccn at h
    unfold aD
    split
    · rename_i z
      rw [if_pos z] at h
      exact wfD_aD hw i h (fun j hj => hX j (by omega))
    · rename_i z
      rw [if_neg z] at h
      exact wfD_ins (wfD_aD hw i (by omega) (fun j hj => hX j (by omega))) (Nat.le_refl _) (by rw [aD_56]; omega) (hX i (by omega)).2
theorem c_countConsumed {fu : Nat} {post : Int32 → Mm → Prop} {L : Nat} {X : Nat → Nat × Nat} {M : Mm} (hf : 1300 ≤ fu) (hL : L ≤ 1248) (hS : SCR M L X) (hX : XB L X) (h : post (nI (ccn X L)) M) : f_Sc_countConsumed fu post 141 M := by
  have lp : ∀ kf i, 1249 ≤ kf + i → i ≤ L → f_Sc_countConsumed_4 fu post kf 141 (nI (ccn X i)) (nI i) M := by
    intro kf
    induction kf with
    | zero => intro i h1 h2; omega
    | succ kf ih =>
      intro i h1 h2
      rw [f_Sc_countConsumed_4]
      refine pk_le L i (fun z => by rw [show i = L by omega]; exact h) (fun z => ?_) hS.1
      refine c_opAt (by omega) hL hS ?_
      rw [if_pos z]
      have hi := ih (i + 1) (by omega) (by omega)
      rw [ccn] at hi
      have hb := (hX i z).1
      refine pk_eq (X i).1 2 (fun z2 y ey => ?_) (fun z2 y ey y2 ey2 => ?_)
      · rw [if_pos z2] at hi
        rw [ey, nI_1]; exact hi
      · rw [if_neg z2] at hi
        rw [ey, ey2, nI_1, nI_1]; exact hi
  unfold f_Sc_countConsumed
  exact lp fu 0 (by omega) (by omega)
theorem c_takeConsumed {fu : Nat} {post : Mm → Prop} {D : Nat → Nat} {L : Nat} {X : Nat → Nat × Nat} {M : Mm} (hf : 1300 ≤ fu) (hD : SitC M 1 D) (hL : L ≤ 1248) (hS : SCR M L X) (hc : ccn X L ≤ 12)
    (hX : XB L X) (h : ∀ M', SitC M' 1 (aD D X L) → (∀ c, c ≠ 10 → c ≠ 9 → M' c = M c) → post M') : f_To_takeConsumed fu post 9 141 M := by
  have lp : ∀ kf i (M1 : Mm), 1249 ≤ kf + i → i ≤ L → SitC M1 1 (aD D X i) → (∀ c, c ≠ 10 → c ≠ 9 → M1 c = M c) → f_To_takeConsumed_7 fu post kf 9 141 (nI i) M1 := by
    intro kf
    induction kf with
    | zero => intro i M1 h1 h2; omega
    | succ kf ih =>
      intro i M1 h1 h2 hD1 k1
      have hS1 : SCR M1 L X := ⟨by rw [k1 141 (by omega) (by omega)]; exact hS.1, fun j hj => by rw [k1 142 (by omega) (by omega), k1 143 (by omega) (by omega)]; exact hS.2 j hj⟩
      rw [f_To_takeConsumed_7]
      refine pk_le L i (fun z => ?_) (fun z => ?_) hS1.1
      · rw [show i = L by omega] at hD1
        exact h M1 hD1 k1
      · refine c_opAt (by omega) hL hS1 ?_
        rw [if_pos z]
        have hb := (hX i z).1
        refine pk_eq (X i).1 2 (fun z2 y ey => ?_) (fun z2 => ?_)
        · rw [ey, nI_1]
          exact ih (i + 1) M1 (by omega) (by omega) (by unfold aD; rw [if_pos z2]; exact hD1) k1
        · refine c_kdAt (by omega) hL hS1 ?_
          rw [if_pos z, show M1 9 1 = nI (aD D X i 56) from hD1.2.2.2.2.1]
          have hcc : ccn X (i + 1) = ccn X i + 1 := by conv => lhs; unfold ccn; rw [if_neg z2]
          have hm := ccn_mono X (i + 1) L (by omega)
          refine w_To_add hf hD1 (Nat.le_refl _) (by rw [aD_56]; omega) (fun M6 a1 a2 y ey => ?_)
          rw [ey, nI_1]
          exact ih (i + 1) M6 (by omega) (by omega) (by unfold aD; rw [if_neg z2]; exact a1) (fun c b1 b2 => by rw [a2 c b1 b2, k1 c b1 b2])
  unfold f_To_takeConsumed
  intro M1 e1
  have e0 : ∀ c, c ≠ 9 → M1 c = M c := fun c hc => by rw [e1, up_c hc]
  refine lp fu 0 M1 (by omega) (by omega) ?_ (fun c _ b => e0 c b)
  show SitC M1 1 (dput D 56 0)
  refine hD.tok (fun c _ _ => e0 c (by omega)) (fun i hi => dput_k (by omega)) ?_ (fun i hi => ?_)
  · show M1 9 1 = _
    rw [e1, up_s, dput_s]; rfl
  · rw [dput_s] at hi; omega
theorem m_count {fu : Nat} {post : Int32 → Mm → Prop} {L : Nat} {X : Nat → Nat × Nat} {M : Mm} (hf : 1300 ≤ fu) (hL : L ≤ 1248) (hS : SCM M L X) (hX : XB L X)
    (h1 : ccn X L ≤ 12 → f_Md_save fu (fun M1 => vp_in 56 (ln 146) ∧ (∀ M3, M3 = up M1 146 56 0 → f_Md_applyRepair_75 fu post fu 145 (nI (ccn X L)) 0 M3)) 145 M) (h2 : 12 < ccn X L → post (-3) M) : f_Md_applyRepair_17 fu post fu 145 0 0 M := by
  have L153 : ln 153 = 1248 := ln_M.2.2.2.2.2.2.2.1
  have hcl := ccn_le X L
  have lp : ∀ kf i, 1249 ≤ kf + i → i ≤ L → f_Md_applyRepair_17 fu post kf 145 (nI (ccn X i)) (nI i) M := by
    intro kf
    induction kf with
    | zero => intro i h1 h2; omega
    | succ kf ih =>
      intro i b1 b2
      rw [f_Md_applyRepair_17]
      simp only [Nat.reduceAdd]
      refine pk_le L i (fun z => ?_) (fun z => ?_) hS.1
      · rw [show i = L by omega]
        exact pk_le (ccn X L) 12 (fun z2 => h1 z2) (fun z2 => h2 z2)
      · rw [L153, nI_clamp (by omega), (hS.2 i z).1]
        have hi := ih (i + 1) (by omega) (by omega)
        rw [ccn] at hi
        have hb := (hX i z).1
        unfold f_Md_applyRepair_43
        refine ⟨vp_in_nI (by omega) (by omega), pk_eq (X i).1 2 (fun z2 y ey y2 ey2 => ?_) (fun z2 y ey y2 ey2 => ?_)⟩
        · rw [if_pos z2] at hi
          rw [ey, ey2, nI_1, show (0 : Int32) = nI 0 from rfl, nI_add]; exact hi
        · rw [if_neg z2] at hi
          rw [ey, ey2, nI_1, nI_1]; exact hi
  exact lp fu 0 (by omega) (by omega)
theorem m_take {fu : Nat} {post : Int32 → Mm → Prop} {D : Nat → Nat} {L : Nat} {X : Nat → Nat × Nat} {x : Int32} {M : Mm} (hf : 1300 ≤ fu) (hD : SitM M 146 0 (dput D 56 0)) (hL : L ≤ 1248) (hS : SCM M L X) (hc : ccn X L ≤ 12) (hX : XB L X)
    (h : ∀ M', SitM M' 146 0 (aD D X L) → (∀ c, c ≠ 146 → M' c = M c) → post x M') : f_Md_applyRepair_75 fu post fu 145 x 0 M := by
  have L153 : ln 153 = 1248 := ln_M.2.2.2.2.2.2.2.1
  have L154 : ln 154 = 1248 := ln_M.2.2.2.2.2.2.2.2.1
  have v56 : vp_in 56 69 := vp_in_nI (n := 56) (by omega) (by omega)
  have lp : ∀ kf i (M1 : Mm), 1249 ≤ kf + i → i ≤ L → SitM M1 146 0 (aD D X i) → (∀ c, c ≠ 146 → M1 c = M c) → f_Md_applyRepair_75 fu post kf 145 x (nI i) M1 := by
    intro kf
    induction kf with
    | zero => intro i M1 h1 h2; omega
    | succ kf ih =>
      intro i M1 b1 b2 hD1 k1
      have hS1 : SCM M1 L X := ⟨by rw [k1 145 (by omega)]; exact hS.1, fun j hj => by rw [k1 153 (by omega), k1 154 (by omega)]; exact hS.2 j hj⟩
      rw [f_Md_applyRepair_75]
      simp only [Nat.reduceAdd]
      refine pk_le L i (fun z => ?_) (fun z => ?_) hS1.1
      · rw [show i = L by omega] at hD1
        exact h M1 hD1 k1
      · rw [L153, L154, nI_clamp (by omega), (hS1.2 i z).1, (hS1.2 i z).2, ln_M.1, hD1.at (by omega), aD_56, show (57 : Int32) = nI 57 from rfl, nI_add]
        have hb := (hX i z).1
        have hb2 := (hX i z).2
        refine ⟨vp_in_nI (by omega) (by omega), pk_eq (X i).1 2 (fun z2 y ey => ?_) (fun z2 => ?_)⟩
        · rw [ey, nI_1]
          exact ih (i + 1) M1 (by omega) (by omega) (by unfold aD; rw [if_pos z2]; exact hD1) k1
        · have hcc : ccn X (i + 1) = ccn X i + 1 := by conv => lhs; unfold ccn; rw [if_neg z2]
          have hm := ccn_mono X (i + 1) L (by omega)
          rw [nI_clamp (by omega)]
          refine ⟨v56, vp_in_nI (by omega) (by omega), vp_in_nI (by omega) (by omega), fun M6 e6 => ⟨v56, v56, fun M9 e9 y ey => ?_⟩⟩
          rw [ey, nI_1]
          refine ih (i + 1) M9 (by omega) (by omega) (fun j hj => ?_) (fun c hc => by rw [e9, up_c hc, e6, up_c hc, k1 c hc])
          rw [Nat.zero_add]
          unfold aD
          rw [if_neg z2]
          unfold insD
          rw [aD_56, e9]
          by_cases y1 : j = 56
          · rw [y1, up_s, if_pos rfl, e6, up_k (by omega), hD1.at (by omega), aD_56, nI_1]
          · rw [up_k y1, if_neg y1, e6]
            by_cases y2 : j = 57 + ccn X i
            · rw [y2, up_s, if_pos rfl]
            · rw [up_k y2, if_neg y2, if_neg (by omega)]; exact hD1.at hj
  exact lp fu 0 M (by omega) (by omega) hD (fun _ _ => rfl)
theorem op_k26 {fu : Nat} (hf : 1300 ≤ fu) : op_26 fu JR := by
  rintro M ⟨D, cnt, H, len, T, hW, hC, hM⟩ x
  unfold f_SR_applyRepair
  refine c_traceBest hf hW hC (fun q => br_f (by decide) ?_) (fun k hk e z M1 a1 a2 => br_f (by decide) ?_) (fun k hk e z M1 n L X a1 a2 a3 a4 a5 a6 => br_t (by decide) ?_)
  · unfold f_Md_applyRepair
    exact m_findScript hf hW.1 hM (fun _ => br_f (by decide) ⟨rfl, mkR hW hC hM⟩) (fun k hk e => absurd ⟨k, hk, e⟩ q) (fun k hk e => absurd ⟨k, hk, e⟩ q)
  · unfold f_Md_applyRepair
    refine m_findScript hf hW.1 (hM.frC a2) (fun q => absurd ⟨k, hk, e⟩ q) (fun k' hk' e' z' M2 b1 b2 => br_f (by decide) ⟨rfl, mkR hW (a1.frM b2) b1⟩) (fun k' hk' e' z' => ?_)
    have : k' = k := by rw [e', nI_eq (by omega) (by omega)] at e; exact e
    omega
  · -- the model behind its script
    have md : ∀ (Q : Int32 → Mm → Prop) (M5 : Mm), JM M5 D cnt H len T → (∀ M2, JM M2 D cnt H len T → frM M5 M2 → SCM M2 L X → f_Md_applyRepair_17 fu Q fu 145 0 0 M2) → f_Md_applyRepair fu Q 145 x M5 := fun Q M5 hM5 hQ => by
      unfold f_Md_applyRepair
      refine m_findScript hf hW.1 hM5 (fun q => absurd ⟨k, hk, e⟩ q) (fun k' hk' e' z' => ?_) (fun k' hk' e' z' M2 n' L' X' b0 b1 b2 b3 => br_t (by decide) ?_)
      · have : k' = k := by rw [e', nI_eq (by omega) (by omega)] at e; exact e
        omega
      · have e1 : k' = k := by rw [e', nI_eq (by omega) (by omega)] at e; exact e
        rw [e1, a1] at b0
        cases b0
        exact hQ M2 b1 b2 b3
    have hcl := ccn_le X L
    simp only [Nat.reduceAdd]
    refine c_countConsumed hf a2 a6 a3 (pk_le (ccn X L) 12 (fun z2 => ?_) (fun z2 => ?_))
    · refine c_beginEdit hf hW a4 (fun M3 b1 b2 b3 b4 b5 => ?_)
      refine c_takeConsumed hf b1.1 a2 (X := X) (L := L) ⟨by rw [b5 141 (by omega) (by omega) (by omega)]; exact a6.1, fun i hi => by rw [b5 142 (by omega) (by omega) (by omega), b5 143 (by omega) (by omega) (by omega)]; exact a6.2 i hi⟩ z2 a3 (fun M4 g1 g2 => ?_)
      have hC4 : JC M4 (aD D X L) (hisN cnt) (hisP cnt H D) len T := b1.edit b2 b3 (fun c _ _ => g2 c (by omega) (by omega)) g1
      have fC4 : frC M M4 := fun c hc => by rw [g2 c (by omega) (by omega), b5 c (by omega) (by omega) (by omega), a5 c hc]
      rw [show M4 9 1 = nI (ccn X L) by rw [← aD_56 D X L]; exact g1.2.2.2.2.1]
      refine md _ M4 (hM.frC fC4) (fun M5 m1 m2 m3 => m_count hf a2 m3 a3 (fun _ => ?_) (fun y => by omega))
      refine s_save hf hW.2.2.1 m1.1 m1.2.1 (fun M6 d1 d2 d3 => ⟨by rw [ln_M.1]; exact vp_in_nI (n := 56) (by omega) (by omega), fun M7 e7 => ?_⟩)
      refine m_take (D := D) hf (fun j hj => ?_) a2 ⟨?_, fun i hi => ?_⟩ z2 a3 (fun M8 f1 f2 => ⟨rfl, ?_⟩)
      · rw [Nat.zero_add, e7]
        by_cases y : j = 56
        · rw [y, up_s, dput_s]; rfl
        · rw [up_k y, dput_k y, d2 146 (by omega) (by omega)]; exact m1.1.at hj
      · rw [e7, up_c (by omega), d3 21 (by omega)]; exact m3.1
      · rw [e7, up_c (by omega), up_c (by omega), d2 153 (by omega) (by omega), d2 154 (by omega) (by omega)]; exact m3.2 i hi
      · refine mkR (hW.push (wfD_aD hW.1 L z2 a3)) (hC4.frM (fun c hc => by rw [f2 c (by omega), e7, up_c (by omega), d2 c (by omega) (by omega), m2 c hc])) (m1.edit d2 d3 d1 (fun c hc => by rw [f2 c hc, e7, up_c hc]) f1)
    · exact md _ M1 (hM.frC a5) (fun M5 m1 m2 m3 => m_count hf a2 m3 a3 (fun y => by omega) (fun _ => ⟨rfl, mkR hW (a4.frM m2) m1⟩))
