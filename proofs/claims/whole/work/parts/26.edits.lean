/-! the edits -/
theorem nI_m1 {i : Nat} (h : 1 ≤ i) : nI i + (-1) = nI (i - 1) := by
  rw [show (-1 : Int32) = -(1 : Int32) from rfl, ← Int32.sub_eq_add_neg]
  exact pk_sub h
theorem nI_p1 {i : Nat} (h : 1 ≤ i) : nI i - 1 = nI (i - 1) := pk_sub h
theorem mkR {M : Mm} {D : Nat → Nat} {cnt : Nat} {H : Nat → Nat → Nat} {len : Nat} {T : Nat → Nat} (hW : WF D cnt H len T) (hC : JC M D cnt H len T) (hM : JM M D cnt H len T) : JR M := ⟨D, cnt, H, len, T, hW, hC, hM⟩
theorem JM.edit {M M' M2 : Mm} {D D' : Nat → Nat} {cnt cnt' : Nat} {H H' : Nat → Nat → Nat} {len : Nat} {T : Nat → Nat} (h : JM M D cnt H len T) (k1 : ∀ c, c ≠ 148 → c ≠ 145 → M' c = M c) (k2 : ∀ k, k ≠ 3 → M' 145 k = M 145 k) (hH : HisM M' cnt' H') (k3 : ∀ c, c ≠ 146 → M2 c = M' c) (hD : SitM M2 146 0 D') : JM M2 D' cnt' H' len T := by
  obtain ⟨m1, m2, m3, m4⟩ := h
  obtain ⟨g1, g2⟩ := hH
  refine ⟨hD, ⟨by rw [k3 145 (by omega)]; exact g1, fun i hi => (g2 i hi).keep (fun k _ => by rw [k3 148 (by omega)])⟩, ?_, fun i hi => ?_⟩
  · rw [k3 145 (by omega), k2 5 (by omega)]; exact m3
  · rw [k3 149 (by omega), k1 149 (by omega) (by omega)]; exact m4 i hi
theorem wfD_tok {D D' : Nat → Nat} (h : wfD D) (h1 : ∀ i, i < 56 → D' i = D i) (h2 : D' 56 ≤ 12) (h3 : ∀ i, i < 12 → D' (57 + i) < 6) : wfD D' := by
  obtain ⟨a1, a2, a3, a4, a5, a6⟩ := h
  refine ⟨by rw [h1 0 (by omega)]; exact a1, by rw [h1 1 (by omega)]; exact a2, fun k hk => ?_, fun k hk => ?_, h2, h3⟩
  · rw [h1 0 (by omega), h1 (2 + k) (by omega)]; exact a3 k hk
  · rw [h1 (38 + k) (by omega)]; exact a4 k hk
def insD (D : Nat → Nat) (p k : Nat) : Nat → Nat := fun i => if i = 56 then D 56 + 1 else if i = 57 + p then k else if 57 + p < i ∧ i ≤ 57 + D 56 then D (i - 1) else D i
def remD (D : Nat → Nat) (p : Nat) : Nat → Nat := fun i => if i = 56 then D 56 - 1 else if 57 + p ≤ i ∧ i + 1 < 57 + D 56 then D (i + 1) else D i
theorem wfD_ins {D : Nat → Nat} {p k : Nat} (h : wfD D) (hp : p ≤ D 56) (hn : D 56 < 12) (hk : k < 6) : wfD (insD D p k) := by
  refine wfD_tok h (fun i hi => ?_) ?_ (fun i hi => ?_)
  · unfold insD; rw [if_neg (by omega), if_neg (by omega), if_neg (by omega)]
  · unfold insD; rw [if_pos rfl]; omega
  · unfold insD
    rw [if_neg (by omega)]
    split
    · exact hk
    · split
      · have := h.2.2.2.2.2 (i - 1) (by omega)
        rwa [show 57 + i - 1 = 57 + (i - 1) by omega]
      · exact h.2.2.2.2.2 i hi
theorem wfD_rem {D : Nat → Nat} {p : Nat} (h : wfD D) : wfD (remD D p) := by
  have h12 := h.2.2.2.2.1
  refine wfD_tok h (fun i hi => ?_) ?_ (fun i hi => ?_)
  · unfold remD; rw [if_neg (by omega), if_neg (by omega)]
  · unfold remD; rw [if_pos rfl]; omega
  · unfold remD
    rw [if_neg (by omega)]
    split
    · have := h.2.2.2.2.2 (i + 1) (by omega)
      rwa [show 57 + i + 1 = 57 + (i + 1) by omega]
    · exact h.2.2.2.2.2 i hi
theorem SitC.tok {M M' : Mm} {s : Nat} {D D' : Nat → Nat} (h : SitC M s D) (k : ∀ c, s < c → c < s + 8 → M' c = M c) (h1 : ∀ i, i < 56 → D' i = D i) (h2 : M' (s + 8) 1 = nI (D' 56)) (h3 : ∀ i, i < D' 56 → M' (s + 9) i = nI (D' (57 + i))) : SitC M' s D' := by
  obtain ⟨d1, d2, d3, d4, d5, d6⟩ := h
  refine ⟨by rw [k _ (by omega) (by omega), h1 0 (by omega)]; exact d1, fun q hq => by rw [k _ (by omega) (by omega), h1 1 (by omega)]; exact d2 q hq, fun q hq => ?_, fun q hq => ?_, h2, h3⟩
  · rw [k _ (by omega) (by omega), k (s + 4) (by omega) (by omega), k (s + 5) (by omega) (by omega), h1 (2 + q) (by omega)]; exact d3 q hq
  · rw [k _ (by omega) (by omega), h1 (50 + q) (by omega), h1 (44 + q) (by omega), h1 (38 + q) (by omega)]; exact d4 q hq
theorem c_add_loop {fu : Nat} {post : Mm → Prop} {p k : Nat} : ∀ (kf i : Nat) (M : Mm), i + 1 ≤ kf + p → p ≤ i → i < 12 →
    (∀ M', (∀ j, M' 10 j = if j = p then nI k else if p < j ∧ j ≤ i then M 10 (j - 1) else M 10 j) → (∀ c, c ≠ 10 → c ≠ 9 → M' c = M c) → M' 9 1 = M 9 1 + 1 → post M') → f_To_add_15 fu post kf 9 (nI p) (nI k) (nI i) M := by
  intro kf
  induction kf with
  | zero => intro i M h1 h2; omega
  | succ kf ih =>
    intro i M h1 h2 h3 h
    rw [f_To_add_15]
    simp only [Nat.reduceAdd]
    refine pk_le i p (fun z => ?_) (fun z => ?_)
    · have e : i = p := by omega
      subst e
      refine s_put (by rw [ln_C.2.2.2.1]; exact h3) (fun M2 e => h M2 (fun j => ?_) (fun c a b => by rw [e, up_c b, up_c a]) (by rw [e, up_s, up_c (by omega)]))
      rw [e, up_c (by omega)]
      by_cases z2 : j = i
      · rw [z2, up_s, if_pos rfl]
      · rw [up_k z2, if_neg z2, if_neg (by omega)]
    · rw [nI_p1 (by omega)]
      refine s_at (by rw [ln_C.2.2.2.1]; omega) (s_put (by rw [ln_C.2.2.2.1]; exact h3) (fun y ey => ?_))
      rw [ey, nI_m1 (by omega)]
      refine ih (i - 1) _ (by omega) (by omega) (by omega) (fun M' a1 a2 a3 => h M' (fun j => ?_) (fun c a b => by rw [a2 c a b, up_c a]) (by rw [a3, up_c (by omega)]))
      rw [a1 j]
      by_cases z2 : j = p
      · rw [if_pos z2, if_pos z2]
      · rw [if_neg z2, if_neg z2]
        by_cases z3 : j = i
        · rw [if_neg (by omega), if_pos (by omega), z3, up_s]
        · by_cases z4 : p < j ∧ j ≤ i
          · rw [if_pos (by omega), if_pos z4, up_k (by omega)]
          · rw [if_neg (by omega), if_neg z4, up_k (by omega)]
theorem w_To_add {fu : Nat} {post : Mm → Prop} {p k : Nat} {D : Nat → Nat} {M : Mm} (hf : 1300 ≤ fu) (hD : SitC M 1 D) (hp : p ≤ D 56) (hn : D 56 < 12)
    (h : ∀ M', SitC M' 1 (insD D p k) → (∀ c, c ≠ 10 → c ≠ 9 → M' c = M c) → post M') : f_To_add fu post 9 (nI p) (nI k) M := by
  unfold f_To_add
  have h9 : M 9 1 = nI (D 56) := hD.2.2.2.2.1
  refine pk_lt (D 56) 12 (fun z y ey => ?_) (fun z => by omega) h9
  rw [ey, h9]
  refine c_add_loop fu (D 56) M (by omega) hp hn (fun M' a1 a2 a3 => h M' ?_ a2)
  refine hD.tok (fun c _ _ => a2 c (by omega) (by omega)) (fun i hi => ?_) ?_ (fun i hi => ?_)
  · unfold insD; rw [if_neg (by omega), if_neg (by omega), if_neg (by omega)]
  · show M' 9 1 = _
    rw [a3, h9, nI_1]; unfold insD; rw [if_pos rfl]
  · show M' 10 i = _
    have hi2 : i < D 56 + 1 := by unfold insD at hi; rwa [if_pos rfl] at hi
    rw [a1 i]; unfold insD
    rw [if_neg (show ¬ 57 + i = 56 by omega)]
    by_cases z2 : i = p
    · rw [if_pos z2, if_pos (by omega)]
    · rw [if_neg z2, if_neg (show ¬ 57 + i = 57 + p by omega)]
      by_cases z3 : p < i ∧ i ≤ D 56
      · rw [if_pos z3, if_pos (by omega), hD.2.2.2.2.2 (i - 1) (by omega), show 57 + i - 1 = 57 + (i - 1) by omega]
      · rw [if_neg z3, if_neg (by omega), hD.2.2.2.2.2 i (by omega)]
theorem c_addToken {fu : Nat} {post : Int32 → Mm → Prop} {D : Nat → Nat} {cnt : Nat} {H : Nat → Nat → Nat} {len : Nat} {T : Nat → Nat} {M : Mm} {x1 x2 : Int32} (hf : 1300 ≤ fu) (hW : WF D cnt H len T) (hC : JC M D cnt H len T)
    (h0 : (¬ ∃ p k, p ≤ D 56 ∧ k < 6 ∧ x1 = nI p ∧ x2 = nI k) → post (-1) M) (h1 : ∀ p k, p ≤ D 56 → k < 6 → x1 = nI p → x2 = nI k → D 56 = 12 → post (-3) M)
    (h2 : ∀ p k, p ≤ D 56 → k < 6 → x1 = nI p → x2 = nI k → D 56 < 12 → ∀ M', JC M' (insD D p k) (hisN cnt) (hisP cnt H D) len T → frC M M' → post (nI (D 56 + 1)) M') : f_SR_addToken fu post 0 x1 x2 M := by
  have h12 := hW.1.2.2.2.2.1
  have h9 : M 9 1 = nI (D 56) := hC.1.2.2.2.2.1
  unfold f_SR_addToken
  simp only [Nat.reduceAdd]
  rw [h9]
  refine ⟨fun q => h0 ?_, fun q => ?_⟩
  · rintro ⟨p, k, a1, a2, rfl, a4⟩
    exact nI_pos (by omega) q
  obtain ⟨p, hp, rfl⟩ := nI_of q
  refine pk_lt (D 56) p (fun z => h0 ?_) (fun z => ?_)
  · rintro ⟨p', k, a1, a2, a3, a4⟩
    rw [nI_eq hp (by omega)] at a3; omega
  refine s_isKind (fun k hk e => br_f (by decide) ?_) (fun q2 => br_t rfl (h0 ?_))
  rotate_left
  · rintro ⟨p', k, a1, a2, a3, a4⟩
    exact q2 ⟨k, a2, a4⟩
  refine pk_lt (D 56) 12 (fun z2 => ?_) (fun z2 => h1 p k z hk rfl e (by omega)) h9
  refine c_beginEdit hf hW hC (fun M1 b1 b2 b3 b4 b5 => ?_)
  rw [e]
  refine w_To_add hf b1.1 z z2 (fun M2 g1 g2 => ?_)
  have h92 : M2 9 1 = nI (D 56 + 1) := by rw [g1.2.2.2.2.1]; unfold insD; rw [if_pos rfl]
  rw [h92]
  exact h2 p k z hk rfl e z2 M2 (b1.edit b2 b3 (fun c _ _ => g2 c (by omega) (by omega)) g1) (fun c hc => by rw [g2 c (by omega) (by omega), b5 c (by omega) (by omega) (by omega)])
theorem m_ins_loop {fu : Nat} {post : Int32 → Mm → Prop} {p k : Nat} : ∀ (kf i : Nat) (M : Mm), i + 1 ≤ kf + p → p ≤ i → i < 12 →
    (∀ M', (∀ j, M' 146 j = if j = 56 then M 146 56 + 1 else if j = 57 + p then nI k else if 57 + p < j ∧ j ≤ 57 + i then M 146 (j - 1) else M 146 j) → (∀ c, c ≠ 146 → M' c = M c) → post (M' 146 56) M') → f_Md_insertToken_51 fu post kf 145 (nI p) (nI k) (nI i) M := by
  intro kf
  induction kf with
  | zero => intro i M h1 h2; omega
  | succ kf ih =>
    intro i M h1 h2 h3 h
    rw [f_Md_insertToken_51]
    simp only [Nat.reduceAdd]
    rw [ln_M.1, show (57 : Int32) = nI 57 from rfl, nI_add, nI_add]
    have v56 : vp_in 56 69 := vp_in_nI (n := 56) (by omega) (by omega)
    refine pk_le i p (fun z => ⟨vp_in_nI (by omega) (by omega), fun M2 e => ⟨v56, v56, fun M3 e3 => ⟨v56, ?_⟩⟩⟩) (fun z => ?_)
    · have e' : i = p := by omega
      subst e'
      rw [nI_clamp (by omega)] at e
      refine h M3 (fun j => ?_) (fun c hc => by rw [e3, up_c hc, e, up_c hc])
      rw [e3]
      by_cases z1 : j = 56
      · rw [z1, up_s, if_pos rfl, e, up_k (by omega)]
      · rw [up_k z1, if_neg z1, e]
        by_cases z2 : j = 57 + i
        · rw [z2, up_s, if_pos rfl]
        · rw [up_k z2, if_neg z2, if_neg (by omega)]
    · rw [nI_p1 (by omega)]
      refine ⟨vp_in_nI (by omega) (by omega), vp_in_nI (by omega) (by omega), fun M2 e y ey => ?_⟩
      rw [nI_clamp (by omega), nI_clamp (by omega)] at e
      rw [ey, nI_m1 (by omega)]
      refine ih (i - 1) _ (by omega) (by omega) (by omega) (fun M' a1 a2 => h M' (fun j => ?_) (fun c hc => by rw [a2 c hc, e, up_c hc]))
      rw [a1 j]
      by_cases z1 : j = 56
      · rw [if_pos z1, if_pos z1, e, up_k (by omega)]
      · rw [if_neg z1, if_neg z1]
        by_cases z2 : j = 57 + p
        · rw [if_pos z2, if_pos z2]
        · rw [if_neg z2, if_neg z2]
          by_cases z3 : j = 57 + i
          · rw [if_neg (by omega), if_pos (by omega), z3, e, up_s]
          · by_cases z4 : 57 + p < j ∧ j ≤ 57 + i
            · rw [if_pos (by omega), if_pos z4, e, up_k (by omega)]
            · rw [if_neg (by omega), if_neg z4, e, up_k (by omega)]
theorem m_insertToken {fu : Nat} {post : Int32 → Mm → Prop} {D : Nat → Nat} {cnt : Nat} {H : Nat → Nat → Nat} {len : Nat} {T : Nat → Nat} {M : Mm} {x1 x2 : Int32} (hf : 1300 ≤ fu) (hW : WF D cnt H len T) (hM : JM M D cnt H len T)
    (h0 : (¬ ∃ p k, p ≤ D 56 ∧ k < 6 ∧ x1 = nI p ∧ x2 = nI k) → post (-1) M) (h1 : ∀ p k, p ≤ D 56 → k < 6 → x1 = nI p → x2 = nI k → D 56 = 12 → post (-3) M)
    (h2 : ∀ p k, p ≤ D 56 → k < 6 → x1 = nI p → x2 = nI k → D 56 < 12 → ∀ M', JM M' (insD D p k) (hisN cnt) (hisP cnt H D) len T → frM M M' → post (nI (D 56 + 1)) M') : f_Md_insertToken fu post 145 x1 x2 M := by
  have h12 := hW.1.2.2.2.2.1
  have h56 := hM.1.at (k := 56) (by omega)
  have v56 : vp_in 56 69 := vp_in_nI (n := 56) (by omega) (by omega)
  unfold f_Md_insertToken
  simp only [Nat.reduceAdd]
  rw [ln_M.1, h56]
  refine ⟨v56, s_in (a := 0) (by omega) (by omega) (fun p hp0 hp e1 => br_f (by decide) ?_) (fun q => br_t rfl (h0 (fun ⟨p, k, a1, a2, a3, a4⟩ => q ⟨p, by omega, a1, a3⟩)))⟩
  unfold f_Md_isKind
  refine s_in (a := 0) (b := 5) (by omega) (by omega) (fun k hk0 hk e2 => br_f (by decide) ⟨v56, ?_⟩) (fun q => br_t rfl (h0 (fun ⟨p, k, a1, a2, a3, a4⟩ => q ⟨k, by omega, by omega, a4⟩)))
  refine pk_eq (D 56) 12 (fun z => h1 p k hp (by omega) e1 e2 z) (fun z => ?_) h56
  refine s_save hf hW.2.2.1 hM.1 hM.2.1 (fun M1 b1 b2 b3 => ⟨v56, fun y ey => ?_⟩)
  have hb : SitM M1 146 0 D := hM.1.keep (fun k _ => by rw [b2 146 (by omega) (by omega)])
  rw [ey, hb.at (by omega), e1, e2]
  refine m_ins_loop fu (D 56) M1 (by omega) hp (by omega) (fun M2 g1 g2 => ?_)
  have hs : SitM M2 146 0 (insD D p k) := fun j hj => by
    rw [Nat.zero_add, g1 j]
    unfold insD
    by_cases z1 : j = 56
    · rw [if_pos z1, if_pos z1, hb.at (by omega), nI_1]
    · rw [if_neg z1, if_neg z1]
      by_cases z2 : j = 57 + p
      · rw [if_pos z2, if_pos z2]
      · rw [if_neg z2, if_neg z2]
        by_cases z3 : 57 + p < j ∧ j ≤ 57 + D 56
        · rw [if_pos z3, if_pos z3, hb.at (by omega)]
        · rw [if_neg z3, if_neg z3, hb.at hj]
  have e56 : M2 146 56 = nI (D 56 + 1) := by rw [hs.at (by omega)]; unfold insD; rw [if_pos rfl]
  rw [e56]
  exact h2 p k hp (by omega) e1 e2 (by omega) M2 (hM.edit b2 b3 b1 g2 hs) (fun c hc => by rw [g2 c (by omega), b2 c (by omega) (by omega)])
theorem op_add {fu : Nat} (hf : 1300 ≤ fu) {M : Mm} {D : Nat → Nat} {cnt : Nat} {H : Nat → Nat → Nat} {len : Nat} {T : Nat → Nat} (hW : WF D cnt H len T) (hC : JC M D cnt H len T) (hM : JM M D cnt H len T) (x1 x2 : Int32) {Q : Int32 → Mm → Prop} (hQ : ∀ r M1, frC M M1 → f_Md_insertToken fu (fun r2 M2 => r = r2 ∧ JR M2) 145 x1 x2 M1 → Q r M1) : f_SR_addToken fu Q 0 x1 x2 M := by
  refine c_addToken hf hW hC (fun q => hQ _ _ (fun _ _ => rfl) ?_) (fun p k a1 a2 a3 a4 a5 => hQ _ _ (fun _ _ => rfl) ?_) (fun p k a1 a2 a3 a4 a5 M1 g1 g2 => hQ _ _ g2 ?_)
  · exact m_insertToken hf hW hM (fun _ => ⟨rfl, mkR hW hC hM⟩) (fun p k a1 a2 a3 a4 _ => absurd ⟨p, k, a1, a2, a3, a4⟩ q) (fun p k a1 a2 a3 a4 _ => absurd ⟨p, k, a1, a2, a3, a4⟩ q)
  · exact m_insertToken hf hW hM (fun q => absurd ⟨p, k, a1, a2, a3, a4⟩ q) (fun _ _ _ _ _ _ _ => ⟨rfl, mkR hW hC hM⟩) (fun p k b1 b2 b3 b4 b5 => absurd b5 (by omega))
  · refine m_insertToken hf hW (hM.frC g2) (fun q => absurd ⟨p, k, a1, a2, a3, a4⟩ q) (fun p k b1 b2 b3 b4 b5 => absurd b5 (by omega)) (fun p' k' b1 b2 b3 b4 b5 M2 c1 c2 => ⟨rfl, ?_⟩)
    have e1 : p' = p := by have := hW.1.2.2.2.2.1; rw [b3, nI_eq (by omega) (by omega)] at a3; exact a3
    have e2 : k' = k := by rw [b4, nI_eq (by omega) (by omega)] at a4; exact a4
    rw [e1, e2] at c1
    exact mkR (hW.push (wfD_ins hW.1 a1 a5 a2)) (g1.frM c2) c1
theorem op_k3 {fu : Nat} (hf : 1300 ≤ fu) : op_3 fu JR := by
  rintro M ⟨D, cnt, H, len, T, hW, hC, hM⟩ x
  unfold f_SR_appendToken
  have h9 : M 9 1 = nI (D 56) := hC.1.2.2.2.2.1
  simp only [Nat.reduceAdd]
  rw [h9]
  refine op_add hf hW hC hM _ _ (fun r M1 g1 g2 => ?_)
  unfold f_Md_appendToken
  simp only [Nat.reduceAdd]
  rw [(hM.frC g1).1.at (by omega), ln_M.1]
  exact ⟨vp_in_nI (n := 56) (by omega) (by omega), g2⟩
theorem op_k4 {fu : Nat} (hf : 1300 ≤ fu) : op_4 fu JR := by
  rintro M ⟨D, cnt, H, len, T, hW, hC, hM⟩ x1 x2
  unfold f_SR_insertToken
  exact op_add hf hW hC hM _ _ (fun r M1 g1 g2 => g2)
