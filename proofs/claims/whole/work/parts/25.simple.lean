/-! the operations that look or edit without tables -/
def dput (D : Nat → Nat) (k v : Nat) : Nat → Nat := fun i => if i = k then v else D i
theorem dput_s {D : Nat → Nat} {k v : Nat} : dput D k v k = v := if_pos rfl
theorem dput_k {D : Nat → Nat} {k v i : Nat} (h : i ≠ k) : dput D k v i = D i := if_neg h
theorem JC.text {M M' : Mm} {D : Nat → Nat} {cnt : Nat} {H : Nat → Nat → Nat} {len len' : Nat} {T T' : Nat → Nat} (h : JC M D cnt H len T) (k : ∀ c, c < 145 → c ≠ 93 → c ≠ 94 → M' c = M c) (h1 : M' 93 2 = nI len') (h2 : ∀ i, i < len' → M' 94 i = nI (T' i)) : JC M' D cnt H len' T' := by
  obtain ⟨c1, c2, c3, c4, c5, c6⟩ := h
  refine ⟨c1.keep (fun c _ _ => k c (by omega) (by omega) (by omega)), c2.keep (fun c _ _ => k c (by omega) (by omega) (by omega)), h1, h2, ?_, ?_⟩
  · rw [k 105 (by omega) (by omega) (by omega)]
    exact c5.imp id (fun q => ⟨q.1, q.2.keep (fun c q1 q2 => k c (by omega) (by omega) (by omega))⟩)
  · rw [k 123 (by omega) (by omega) (by omega)]
    exact c6.imp id (fun ⟨la, q1, q2, q3, q4⟩ => ⟨la, q1, q2, q3, q4.keep (fun c q1 q2 => k c (by omega) (by omega) (by omega))⟩)
theorem JC.edit {M M' : Mm} {D D' : Nat → Nat} {cnt : Nat} {H : Nat → Nat → Nat} {len : Nat} {T : Nat → Nat} (h : JC M D cnt H len T) (h5 : M 105 5 = 0) (h6 : M 123 5 = 0) (k : ∀ c, 11 ≤ c → c < 145 → M' c = M c) (h1 : SitC M' 1 D') : JC M' D' cnt H len T := by
  obtain ⟨c1, c2, c3, c4, c5, c6⟩ := h
  refine ⟨h1, c2.keep (fun c _ _ => k c (by omega) (by omega)), by rw [k 93 (by omega) (by omega)]; exact c3, fun i hi => by rw [k 94 (by omega) (by omega)]; exact c4 i hi, Or.inl ?_, Or.inl ?_⟩
  · rw [k 105 (by omega) (by omega)]; exact h5
  · rw [k 123 (by omega) (by omega)]; exact h6
theorem op_k0 {fu : Nat} : op_0 fu JR := by
  rintro M ⟨D, cnt, H, len, T, hW, hC, hM⟩ x
  have hl := hW.2.2.2.1
  have h93 := hC.2.2.1
  have h145 := hM.2.2.1
  have hin : ∀ r, ¬ (∃ k, 0 ≤ k ∧ k ≤ 255 ∧ x = nI k) → r = (-1 : Int32) → f_Md_appendCharacter fu (fun r2 M2 => r = r2 ∧ JR M2) 145 x M := by
    intro r q e
    unfold f_Md_appendCharacter
    rw [show (0 : Int32) = nI 0 from rfl, show (255 : Int32) = nI 255 from rfl]
    refine s_in (by omega) (by omega) (fun k h1 h2 h3 => absurd ⟨k, h1, h2, h3⟩ q) (fun _ => br_t rfl ⟨e, D, cnt, H, len, T, hW, hC, hM⟩)
  unfold f_SR_appendCharacter
  simp only [Nat.reduceAdd]
  refine ⟨fun q => hin _ (fun ⟨k, h1, h2, h3⟩ => ?_) rfl, fun q => ?_⟩
  · rw [h3] at q; exact nI_pos (by omega) q
  obtain ⟨j, hj, rfl⟩ := nI_of q
  refine pk_le j 255 (fun z => ?_) (fun z => hin _ (fun ⟨k, h1, h2, h3⟩ => ?_) rfl)
  rotate_left
  · rw [nI_eq hj (by omega)] at h3; omega
  refine pk_lt len 150 (fun z2 => ?_) (fun z2 => ?_) h93
  · unfold f_Gt_add
    rw [h93]
    refine s_put (by rw [ln_C.1]; exact z2) (fun M2 e => ?_)
    rw [up_c (by decide), h93, nI_1] at e
    rw [e, up_s, ← e]
    have hC2 : JC M2 D cnt H (len + 1) (dput T len j) := hC.text (fun c _ a b => by rw [e, up_c a, up_c b]) (by rw [e, up_s]) (fun i hi => by
      rw [e, up_c (by decide)]
      unfold dput
      by_cases z3 : i = len
      · rw [z3, up_s, if_pos rfl]
      · rw [up_k z3, if_neg z3]; exact hC.2.2.2.1 i (by omega))
    have fr : frC M M2 := fun c hc => by rw [e, up_c (by omega), up_c (by omega)]
    have hM2 := hM.frC fr
    unfold f_Md_appendCharacter
    refine s_inN (a := 0) (b := 255) (by omega) z (by omega) (br_f (by decide) ?_)
    simp only [Nat.reduceAdd]
    refine pk_eq len 150 (fun z4 => absurd z4 (by omega)) (fun z4 => ?_) hM2.2.2.1
    rw [hM2.2.2.1, ln_M.2.2.2.1]
    refine ⟨vp_in_nI z2 (by omega), fun M4 e4 M5 e5 => ?_⟩
    rw [nI_clamp (by omega)] at e4
    rw [e4, up_c (by decide), hM2.2.2.1, nI_1, ← e4] at e5
    have s5 : M5 145 5 = nI (len + 1) := by rw [e5, up_s]
    rw [s5]
    refine ⟨rfl, D, cnt, H, len + 1, dput T len j, ⟨hW.1, hW.2.1, hW.2.2.1, by omega, fun i hi => ?_⟩, hC2.frM (fun c hc => by rw [e5, up_c (by omega), e4, up_c (by omega)]), ?_⟩
    · unfold dput
      split
      · omega
      · exact hW.2.2.2.2 i (by omega)
    · obtain ⟨m1, ⟨m2, m3⟩, m4, m5⟩ := hM2
      refine ⟨m1.keep (fun k _ => by rw [e5, up_c (by decide), e4, up_c (by decide)]), ⟨?_, fun i hi => (m3 i hi).keep (fun k _ => by rw [e5, up_c (by decide), e4, up_c (by decide)])⟩, s5, fun i hi => ?_⟩
      · rw [e5, up_k (by decide), e4, up_c (by decide)]; exact m2
      · rw [e5, up_c (by decide), e4]
        unfold dput
        by_cases z3 : i = len
        · rw [z3, up_s, if_pos rfl]
        · rw [up_k z3, if_neg z3]; exact m5 i (by omega)
  · unfold f_Md_appendCharacter
    refine s_inN (a := 0) (b := 255) (by omega) z (by omega) (br_f (by decide) ?_)
    simp only [Nat.reduceAdd]
    exact pk_eq len 150 (fun z4 => ⟨trivial, D, cnt, H, len, T, hW, hC, hM⟩) (fun z4 => absurd (show len = 150 by omega) z4) h145
theorem op_k1 {fu : Nat} : op_1 fu JR := by
  rintro M ⟨D, cnt, H, len, T, hW, hC, hM⟩ _
  unfold f_SR_clearText f_Md_clearText
  simp only [Nat.reduceAdd]
  intro y1 e1 M2 e2 y2 e3 M3 e4
  refine ⟨?_, D, cnt, H, 0, T, ⟨hW.1, hW.2.1, hW.2.2.1, by omega, fun i hi => absurd hi (by omega)⟩, ?_, ?_⟩
  · rw [e1, e3, e2, up_c (by decide), hC.2.2.1, hM.2.2.1]
  · refine (hC.text (M' := M2) (len' := 0) (T' := T) (fun c _ a b => by rw [e2, up_c a]) (by rw [e2, up_s]; rfl) (fun i hi => absurd hi (by omega))).frM (fun c hc => by rw [e4, up_c (by omega)])
  · have hM2 := hM.frC (M' := M2) (fun c hc => by rw [e2, up_c (by omega)])
    obtain ⟨m1, ⟨m2, m3⟩, m4, m5⟩ := hM2
    refine ⟨m1.keep (fun k _ => by rw [e4, up_c (by decide)]), ⟨?_, fun i hi => (m3 i hi).keep (fun k _ => by rw [e4, up_c (by decide)])⟩, by rw [e4, up_s]; rfl, fun i hi => absurd hi (by omega)⟩
    rw [e4, up_k (by decide)]; exact m2
/-! looking -/
theorem op_k11 {fu : Nat} : op_11 fu JR := by
  rintro M ⟨D, cnt, H, len, T, hW, hC, hM⟩ _
  unfold f_SR_stateCount f_Md_stateCount
  simp only [Nat.reduceAdd]
  refine ⟨by rw [ln_M.1]; exact vp_in_nI (n := 0) (by omega) (by omega), ?_, D, cnt, H, len, T, hW, hC, hM⟩
  rw [hM.1.at (by omega)]; exact hC.1.1
theorem op_k14 {fu : Nat} : op_14 fu JR := by
  rintro M ⟨D, cnt, H, len, T, hW, hC, hM⟩ _
  unfold f_SR_tokenCount f_Md_tokenCount
  simp only [Nat.reduceAdd]
  refine ⟨by rw [ln_M.1]; exact vp_in_nI (n := 56) (by omega) (by omega), ?_, D, cnt, H, len, T, hW, hC, hM⟩
  rw [hM.1.at (by omega)]; exact hC.1.2.2.2.2.1
theorem op_k31 {fu : Nat} : op_31 fu JR := by
  rintro M ⟨D, cnt, H, len, T, hW, hC, hM⟩ _
  unfold f_SR_undoCount f_Md_undoCount
  simp only [Nat.reduceAdd]
  refine ⟨?_, D, cnt, H, len, T, hW, hC, hM⟩
  rw [hM.2.1.1]; exact hC.2.1.2.1
theorem bit_look : ∀ m, m < 64 → ∀ j, j < 6 → (nI m >>> (nI j &&& 31)) &&& 1 = nI (if m.testBit j then 1 else 0) := by decide +kernel
theorem op_k12 {fu : Nat} : op_12 fu JR := by
  rintro M ⟨D, cnt, H, len, T, hW, hC, hM⟩ x
  have hJ : JR M := ⟨D, cnt, H, len, T, hW, hC, hM⟩
  have hin : ∀ r, ¬ (∃ k, 0 ≤ k ∧ k ≤ 5 ∧ x = nI k) → r = (-1 : Int32) → f_Md_isAccepting fu (fun r2 M2 => r = r2 ∧ JR M2) 145 x M := by
    intro r q e
    unfold f_Md_isAccepting
    exact s_in (a := 0) (b := 5) (by omega) (by omega) (fun k h1 h2 h3 => absurd ⟨k, h1, h2, h3⟩ q) (fun _ => br_t rfl ⟨e, hJ⟩)
  unfold f_SR_isAccepting
  refine ⟨fun q => hin _ (fun ⟨k, h1, h2, h3⟩ => ?_) rfl, fun q => ?_⟩
  · rw [h3] at q; exact nI_pos (by omega) q
  obtain ⟨j, hj, rfl⟩ := nI_of q
  refine pk_lt j 6 (fun z => ?_) (fun z => hin _ (fun ⟨k, h1, h2, h3⟩ => ?_) rfl)
  · have hm : f_Md_isAccepting fu (fun r2 M2 => nI (if (D 1).testBit j then 1 else 0) = r2 ∧ JR M2) 145 (nI j) M := by
      unfold f_Md_isAccepting
      simp only [Nat.reduceAdd]
      refine s_inN (a := 0) (b := 5) (by omega) (by omega) (by omega) (br_f (by decide) ⟨by rw [ln_M.1]; exact vp_in_nI (n := 1) (by omega) (by omega), ?_, hJ⟩)
      rw [hM.1.at (by omega), bit_look _ hW.1.2.1 j z]
    unfold f_Au_accepts
    simp only [Nat.reduceAdd]
    refine s_at (by rw [ln_C.2.2.2.2.2.1]; exact z) ?_
    rw [hC.1.2.1 j z]
    cases hb : (D 1).testBit j
    · rw [hb] at hm
      exact br_f (by decide) (br_t (by trivial) hm)
    · rw [hb] at hm
      exact br_t rfl (br_f (by decide) hm)
  · rw [nI_eq hj (by omega)] at h3; omega
/-- isToken, in the class and in the model -/
theorem c_isToken {fu : Nat} {post : Int32 → Mm → Prop} {x : Int32} {n : Nat} {M : Mm} (hn : n ≤ 12) (h9 : M 9 1 = nI n) (h1 : ∀ k, k < n → x = nI k → post 1 M) (h0 : (¬ ∃ k, k < n ∧ x = nI k) → post 0 M) : f_SR_isToken fu post 0 x M := by
  unfold f_SR_isToken
  simp only [Nat.reduceAdd]
  rw [h9]
  refine ⟨fun q => h0 ?_, fun q => ?_⟩
  · rintro ⟨k, hk, rfl⟩
    exact nI_pos (by omega) q
  · obtain ⟨j, hj, rfl⟩ := nI_of q
    refine pk_le n j (fun z => h0 ?_) (fun z => h1 j z rfl)
    rintro ⟨k, hk, e⟩
    rw [nI_eq hj (by omega)] at e
    omega
theorem s_in1 {fu : Nat} {post : Int32 → Mm → Prop} {x : Int32} {n : Nat} {M : Mm} (hn : n < 2 ^ 31) (h1 : ∀ k, k < n → x = nI k → post 1 M) (h0 : (¬ ∃ k, k < n ∧ x = nI k) → post 0 M) : f_Md_in fu post x 0 (nI n - 1) M := by
  cases n with
  | zero =>
    have h0' := h0 (fun ⟨k, hk, _⟩ => absurd hk (by omega))
    unfold f_Md_in
    refine ⟨fun _ => h0', fun q => ⟨fun _ => h0', fun q2 => absurd ?_ q2⟩⟩
    rw [show nI 0 - 1 = (-1 : Int32) from rfl]
    obtain ⟨j, hj, rfl⟩ := nI_of q
    exact Std.lt_of_lt_of_le (show (-1 : Int32) < 0 by decide) (nI_pos' hj)
  | succ n =>
    rw [show nI (n + 1) - 1 = nI n from by rw [show (1 : Int32) = nI 1 from rfl, pk_sub (by omega)]; rfl]
    exact s_in (a := 0) (by omega) (by omega) (fun k _ h e => h1 k (by omega) e) (fun q => h0 (fun ⟨k, h, e⟩ => q ⟨k, by omega, by omega, e⟩))
theorem m_isToken {fu : Nat} {post : Int32 → Mm → Prop} {x : Int32} {n : Nat} {M : Mm} (hn : n ≤ 12) (h9 : M 146 56 = nI n) (h1 : ∀ k, k < n → x = nI k → post 1 M) (h0 : (¬ ∃ k, k < n ∧ x = nI k) → post 0 M) : f_Md_isToken fu post 145 x M := by
  unfold f_Md_isToken
  simp only [Nat.reduceAdd]
  rw [ln_M.1, h9]
  exact ⟨vp_in_nI (n := 56) (by omega) (by omega), s_in1 (by omega) h1 h0⟩
theorem c_kindAt {fu : Nat} {post : Int32 → Mm → Prop} {s k : Nat} {D : Nat → Nat} {M : Mm} (hs : kd s = 8) (hD : SitC M s D) (hw : D 56 ≤ 12) (hk : k < D 56) (h : post (nI (D (57 + k))) M) : f_To_kindAt fu post (s + 8) (nI k) M := by
  unfold f_To_kindAt
  rw [hD.2.2.2.2.1, show s + 8 + 1 = s + 9 from rfl, (lnS' hs).2.2.2.2.2]
  refine br_f (nI_pos (by omega)) (br_f (nI_ge hk (by omega)) (br_f (nI_ge (b := 12) (by omega) (by omega)) ⟨vp_in_nI (by omega) (by omega), ?_⟩))
  rw [nI_clamp (by omega), hD.2.2.2.2.2 k hk]
  exact h
theorem c_kindAt_hi {fu : Nat} {post : Int32 → Mm → Prop} {s k : Nat} {D : Nat → Nat} {M : Mm} (hD : SitC M s D) (hk : D 56 ≤ k) (hb : k < 2 ^ 31) (h : post (-1) M) : f_To_kindAt fu post (s + 8) (nI k) M := by
  unfold f_To_kindAt
  rw [hD.2.2.2.2.1]
  exact br_f (nI_pos hb) (br_t (nI_le hk hb) h)
theorem kd_1 : kd 1 = 8 := by decide +kernel
theorem op_k15 {fu : Nat} : op_15 fu JR := by
  rintro M ⟨D, cnt, H, len, T, hW, hC, hM⟩ x
  have hJ : JR M := ⟨D, cnt, H, len, T, hW, hC, hM⟩
  have h12 := hW.1.2.2.2.2.1
  unfold f_SR_tokenAt
  refine c_isToken h12 hC.1.2.2.2.2.1 (fun k hk e => ?_) (fun q => ?_)
  · refine br_f (by decide) ?_
    rw [e]
    refine c_kindAt kd_1 hC.1 h12 hk ?_
    unfold f_Md_tokenAt
    refine m_isToken h12 (hM.1.at (by omega)) (fun k2 hk2 e2 => br_f (by decide) ?_) (fun q => absurd ⟨k, hk, rfl⟩ q)
    simp only [Nat.reduceAdd]
    rw [ln_M.1, show (57 : Int32) = nI 57 from rfl, nI_add, nI_clamp (by omega)]
    exact ⟨vp_in_nI (by omega) (by omega), (hM.1.at (by omega)).symm, hJ⟩
  · refine br_t rfl ?_
    unfold f_Md_tokenAt
    exact m_isToken h12 (hM.1.at (by omega)) (fun k2 hk2 e2 => absurd ⟨k2, hk2, e2⟩ q) (fun _ => br_t rfl ⟨rfl, hJ⟩)
/-- rules counted -/
def nrul (D : Nat → Nat) : Nat → Nat
  | 0 => 0
  | n + 1 => nrul D n + if D (2 + n) = 0 then 0 else 1
theorem nrul_le (D : Nat → Nat) : ∀ n, nrul D n ≤ n
  | 0 => Nat.le_refl _
  | n + 1 => by have := nrul_le D n; unfold nrul; split <;> omega
theorem op_k13 {fu : Nat} (hf : 1300 ≤ fu) : op_13 fu JR := by
  rintro M ⟨D, cnt, H, len, T, hW, hC, hM⟩ _
  have hJ : JR M := ⟨D, cnt, H, len, T, hW, hC, hM⟩
  have r6 := hW.1.1.2
  have hrul : ∀ n, n < 36 → D (2 + n) < 400 := fun n hn => by
    rcases hW.1.2.2.1 n hn with h | ⟨ty, tg, sy, h1, h2, h3, h4, h5⟩ <;> omega
  have h0 : ∀ n, n < 36 → (D (2 + n) = 0 ↔ D (2 + n) / 100 = 0) := fun n hn => by
    have := rok_un (n := D 0) r6 (hW.1.2.2.1 n hn); omega
  have hc : ∀ (post : Int32 → Mm → Prop), post (nI (nrul D 36)) M → ∀ kf n, 37 ≤ kf + n → n ≤ 36 → f_Au_countRules_4 fu post kf 2 (nI (nrul D n)) (nI n) M := by
    intro post hp kf
    induction kf with
    | zero => intro n h1 h2; omega
    | succ kf ih =>
      intro n h1 h2
      rw [f_Au_countRules_4]
      simp only [Nat.reduceAdd]
      rw [ln_C.2.2.2.2.2.2.1]
      refine pk_le 36 n (fun z => by rw [show n = 36 by omega]; exact hp) (fun z => ⟨vp_in_nI z (by omega), ?_⟩)
      rw [nI_clamp (by omega), (hC.1.2.2.1 n z).1]
      have e := h0 n z
      refine pk_eq (D (2 + n) / 100) 0 (fun z2 y ey => ?_) (fun z2 y ey y3 ey3 => ?_) rfl rfl (by have := hrul n z; omega)
      · rw [ey, nI_1]
        have := ih (n + 1) (by omega) (by omega)
        rwa [show nrul D (n + 1) = nrul D n + 0 from by conv => lhs; unfold nrul; rw [if_pos (e.2 z2)]] at this
      · rw [ey, ey3, nI_1, nI_1]
        have := ih (n + 1) (by omega) (by omega)
        rwa [show nrul D (n + 1) = nrul D n + 1 from by conv => lhs; unfold nrul; rw [if_neg (fun q => z2 (e.1 q))]] at this
  have hm : ∀ (post : Int32 → Mm → Prop), post (nI (nrul D 36)) M → ∀ kf n, 37 ≤ kf + n → n ≤ 36 → f_Md_ruleCount_4 fu post kf 145 (nI (nrul D n)) (nI (2 + n)) M := by
    intro post hp kf
    induction kf with
    | zero => intro n h1 h2; omega
    | succ kf ih =>
      intro n h1 h2
      rw [f_Md_ruleCount_4]
      simp only [Nat.reduceAdd]
      rw [ln_M.1]
      refine pk_le 38 (2 + n) (fun z => by rw [show n = 36 by omega]; exact hp) (fun z => ⟨vp_in_nI (by omega) (by omega), ?_⟩)
      rw [nI_clamp (by omega), hM.1.at (by omega)]
      unfold f_Md_ruleCount_25
      refine pk_eq (D (2 + n)) 0 (fun z2 y ey y3 ey3 => ?_) (fun z2 y ey y3 ey3 => ?_) rfl rfl (by have := hrul n (by omega); omega)
      · rw [ey, ey3, nI_1, show (0 : Int32) = nI 0 from rfl, nI_add]
        have := ih (n + 1) (by omega) (by omega)
        rwa [show nrul D (n + 1) = nrul D n + 0 from by conv => lhs; unfold nrul; rw [if_pos z2]] at this
      · rw [ey, ey3, nI_1, nI_1]
        have := ih (n + 1) (by omega) (by omega)
        rwa [show nrul D (n + 1) = nrul D n + 1 from by conv => lhs; unfold nrul; rw [if_neg z2]] at this
  unfold f_SR_ruleCount f_Au_countRules
  refine hc _ ?_ fu 0 (by omega) (by omega)
  unfold f_Md_ruleCount
  exact hm _ ⟨rfl, hJ⟩ fu 0 (by omega) (by omega)
