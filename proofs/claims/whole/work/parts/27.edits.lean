/-! removing, clearing, costs, undo -/
theorem c_rem_loop {fu : Nat} {post : Int32 → Mm → Prop} {p n : Nat} {x : Int32} (hn : n ≤ 12) (hp : p < n) : ∀ (kf i : Nat) (M : Mm), n + 1 ≤ kf + i → p ≤ i → i < n → M 9 1 = nI n →
    (∀ M', (∀ j, M' 10 j = if i ≤ j ∧ j + 1 < n then M 10 (j + 1) else M 10 j) → (∀ c, c ≠ 10 → c ≠ 9 → M' c = M c) → M' 9 1 = nI (n - 1) → post x M') → f_To_remove_8 fu post kf 9 x (nI i) M := by
  intro kf
  induction kf with
  | zero => intro i M h1 h2; omega
  | succ kf ih =>
    intro i M h1 h2 h3 h9 h
    rw [f_To_remove_8]
    simp only [Nat.reduceAdd]
    rw [h9, nI_p1 (by omega)]
    refine pk_le (n - 1) i (fun z M1 e => h M1 (fun j => ?_) (fun c a b => by rw [e, up_c b]) (by rw [e, up_s])) (fun z => ?_)
    · rw [e, up_c (by omega), if_neg (by omega)]
    · rw [nI_1]
      refine s_at (by rw [ln_C.2.2.2.1]; omega) (s_put (by rw [ln_C.2.2.2.1]; omega) (fun y ey => ?_))
      rw [ey]
      refine ih (i + 1) _ (by omega) (by omega) (by omega) (by rw [up_c (by omega)]; exact h9) (fun M' a1 a2 a3 => h M' (fun j => ?_) (fun c a b => by rw [a2 c a b, up_c a]) a3)
      rw [a1 j]
      by_cases z2 : j = i
      · rw [if_neg (by omega), if_pos (by omega), z2, up_s]
      · by_cases z3 : i ≤ j ∧ j + 1 < n
        · rw [if_pos (by omega), if_pos z3, up_k (by omega)]
        · rw [if_neg (by omega), if_neg z3, up_k (by omega)]
theorem w_removeToken {fu : Nat} {post : Int32 → Mm → Prop} {D : Nat → Nat} {cnt : Nat} {H : Nat → Nat → Nat} {len : Nat} {T : Nat → Nat} {M : Mm} {x1 : Int32} (hf : 1300 ≤ fu) (hW : WF D cnt H len T) (hC : JC M D cnt H len T)
    (h0 : (¬ ∃ p, p < D 56 ∧ x1 = nI p) → post (-1) M)
    (h2 : ∀ p, p < D 56 → x1 = nI p → ∀ M', JC M' (remD D p) (hisN cnt) (hisP cnt H D) len T → frC M M' → post (nI (D (57 + p))) M') : f_SR_removeToken fu post 0 x1 M := by
  have h12 := hW.1.2.2.2.2.1
  have h9 : M 9 1 = nI (D 56) := hC.1.2.2.2.2.1
  unfold f_SR_removeToken
  refine c_isToken h12 h9 (fun p hp e => br_f (by decide) ?_) (fun q => br_t rfl (h0 q))
  refine c_beginEdit hf hW hC (fun M1 b1 b2 b3 b4 b5 => ?_)
  unfold f_To_remove
  rw [e]
  refine c_kindAt kd_1 b1.1 h12 hp ?_
  refine c_rem_loop h12 hp fu p M1 (by omega) (by omega) hp b1.1.2.2.2.2.1 (fun M2 a1 a2 a3 => ?_)
  refine h2 p hp e M2 (b1.edit b2 b3 (fun c _ _ => a2 c (by omega) (by omega)) ?_) (fun c hc => by rw [a2 c (by omega) (by omega), b5 c (by omega) (by omega) (by omega)])
  refine b1.1.tok (fun c _ _ => a2 c (by omega) (by omega)) (fun i hi => ?_) ?_ (fun i hi => ?_)
  · unfold remD; rw [if_neg (by omega), if_neg (by omega)]
  · show M2 9 1 = _
    rw [a3]; unfold remD; rw [if_pos rfl]
  · show M2 10 i = _
    have hi2 : i < D 56 - 1 := by unfold remD at hi; rwa [if_pos rfl] at hi
    rw [a1 i]; unfold remD
    rw [if_neg (show ¬ 57 + i = 56 by omega)]
    by_cases z3 : p ≤ i ∧ i + 1 < D 56
    · rw [if_pos z3, if_pos (by omega), b1.1.2.2.2.2.2 (i + 1) (by omega), show 57 + i + 1 = 57 + (i + 1) by omega]
    · rw [if_neg z3, if_neg (by omega), b1.1.2.2.2.2.2 i (by omega)]
theorem m_rem_loop {fu : Nat} {post : Int32 → Mm → Prop} {p n : Nat} {x : Int32} (hn : n ≤ 12) (hp : p < n) : ∀ (kf i : Nat) (M : Mm), n + 1 ≤ kf + i → p ≤ i → i < n → M 146 56 = nI n →
    (∀ M', (∀ j, M' 146 j = if j = 56 then nI (n - 1) else if 57 + i ≤ j ∧ j + 1 < 57 + n then M 146 (j + 1) else M 146 j) → (∀ c, c ≠ 146 → M' c = M c) → post x M') → f_Md_removeToken_26 fu post kf 145 x (nI i) M := by
  intro kf
  induction kf with
  | zero => intro i M h1 h2; omega
  | succ kf ih =>
    intro i M h1 h2 h3 h9 h
    rw [f_Md_removeToken_26]
    simp only [Nat.reduceAdd]
    rw [ln_M.1, show (57 : Int32) = nI 57 from rfl, nI_add, h9, nI_p1 (by omega), nI_1]
    have v56 : vp_in 56 69 := vp_in_nI (n := 56) (by omega) (by omega)
    refine ⟨v56, pk_le n (i + 1) (fun z => ⟨v56, v56, fun M2 e => h M2 (fun j => ?_) (fun c hc => by rw [e, up_c hc])⟩) (fun z => ?_)⟩
    · rw [e]
      by_cases z1 : j = 56
      · rw [z1, up_s, if_pos rfl]
      · rw [up_k z1, if_neg z1, if_neg (by omega)]
    · rw [nI_1]
      refine ⟨vp_in_nI (by omega) (by omega), vp_in_nI (by omega) (by omega), fun M2 e y ey => ?_⟩
      rw [nI_clamp (by omega), nI_clamp (by omega)] at e
      rw [ey]
      refine ih (i + 1) _ (by omega) (by omega) (by omega) (by rw [e, up_k (by omega)]; exact h9) (fun M' a1 a2 => h M' (fun j => ?_) (fun c a => by rw [a2 c a, e, up_c a]))
      rw [a1 j]
      by_cases z1 : j = 56
      · rw [if_pos z1, if_pos z1]
      · rw [if_neg z1, if_neg z1, e]
        by_cases z2 : j = 57 + i
        · rw [if_neg (by omega), if_pos (by omega), z2, up_s]
        · by_cases z3 : 57 + i ≤ j ∧ j + 1 < 57 + n
          · rw [if_pos (by omega), if_pos z3, up_k (by omega)]
          · rw [if_neg (by omega), if_neg z3, up_k (by omega)]
theorem m_removeToken {fu : Nat} {post : Int32 → Mm → Prop} {D : Nat → Nat} {cnt : Nat} {H : Nat → Nat → Nat} {len : Nat} {T : Nat → Nat} {M : Mm} {x1 : Int32} (hf : 1300 ≤ fu) (hW : WF D cnt H len T) (hM : JM M D cnt H len T)
    (h0 : (¬ ∃ p, p < D 56 ∧ x1 = nI p) → post (-1) M)
    (h2 : ∀ p, p < D 56 → x1 = nI p → ∀ M', JM M' (remD D p) (hisN cnt) (hisP cnt H D) len T → frM M M' → post (nI (D (57 + p))) M') : f_Md_removeToken fu post 145 x1 M := by
  have h12 := hW.1.2.2.2.2.1
  unfold f_Md_removeToken
  refine m_isToken h12 (hM.1.at (by omega)) (fun p hp e => br_f (by decide) ?_) (fun q => br_t rfl (h0 q))
  refine s_save hf hW.2.2.1 hM.1 hM.2.1 (fun M1 b1 b2 b3 => ?_)
  have hb : SitM M1 146 0 D := hM.1.keep (fun k _ => by rw [b2 146 (by omega) (by omega)])
  simp only [Nat.reduceAdd]
  rw [ln_M.1, e, show (57 : Int32) = nI 57 from rfl, nI_add, nI_clamp (by omega), hb.at (by omega)]
  refine ⟨vp_in_nI (by omega) (by omega), fun y ey => ?_⟩
  rw [ey]
  refine m_rem_loop h12 hp fu p M1 (by omega) (by omega) hp (hb.at (by omega)) (fun M2 a1 a2 => ?_)
  refine h2 p hp e M2 (hM.edit b2 b3 b1 a2 (fun j hj => ?_)) (fun c hc => by rw [a2 c (by omega), b2 c (by omega) (by omega)])
  rw [Nat.zero_add, a1 j]
  unfold remD
  by_cases z1 : j = 56
  · rw [if_pos z1, if_pos z1]
  · rw [if_neg z1, if_neg z1]
    by_cases z3 : 57 + p ≤ j ∧ j + 1 < 57 + D 56
    · rw [if_pos z3, if_pos z3, hb.at (by omega)]
    · rw [if_neg z3, if_neg z3, hb.at hj]
theorem op_k5 {fu : Nat} (hf : 1300 ≤ fu) : op_5 fu JR := by
  rintro M ⟨D, cnt, H, len, T, hW, hC, hM⟩ x
  have h12 := hW.1.2.2.2.2.1
  refine w_removeToken hf hW hC (fun q => ?_) (fun p hp e M1 g1 g2 => ?_)
  · exact m_removeToken hf hW hM (fun _ => ⟨rfl, mkR hW hC hM⟩) (fun p hp e => absurd ⟨p, hp, e⟩ q)
  · refine m_removeToken hf hW (hM.frC g2) (fun q => absurd ⟨p, hp, e⟩ q) (fun p' hp' e' M2 c1 c2 => ?_)
    have e1 : p' = p := by rw [e', nI_eq (by omega) (by omega)] at e; exact e
    rw [e1] at c1 ⊢
    exact ⟨rfl, mkR (hW.push (wfD_rem hW.1)) (g1.frM c2) c1⟩
theorem op_k6 {fu : Nat} (hf : 1300 ≤ fu) : op_6 fu JR := by
  rintro M ⟨D, cnt, H, len, T, hW, hC, hM⟩ _
  have h12 := hW.1.2.2.2.2.1
  have v56 : vp_in 56 69 := vp_in_nI (n := 56) (by omega) (by omega)
  have h9 : M 9 1 = nI (D 56) := hC.1.2.2.2.2.1
  unfold f_SR_clearTokens
  simp only [Nat.reduceAdd]
  intro y ey
  rw [ey, h9]
  refine pk_eq (D 56) 0 (fun z => ?_) (fun z => ?_)
  · unfold f_Md_clearTokens
    simp only [Nat.reduceAdd]
    rw [ln_M.1]
    refine ⟨v56, fun y2 ey2 => ?_⟩
    rw [ey2, hM.1.at (by omega)]
    exact pk_eq (D 56) 0 (fun _ => ⟨trivial, mkR hW hC hM⟩) (fun z2 => absurd z z2)
  · refine c_beginEdit hf hW hC (fun M1 b1 b2 b3 b4 b5 M2 e2 => ?_)
    have f12 : frC M M2 := fun c hc => by rw [e2, up_c (by omega), b5 c (by omega) (by omega) (by omega)]
    have hM2 := hM.frC f12
    unfold f_Md_clearTokens
    simp only [Nat.reduceAdd]
    rw [ln_M.1]
    refine ⟨v56, fun y2 ey2 => ?_⟩
    rw [ey2, hM2.1.at (by omega)]
    refine pk_eq (D 56) 0 (fun z2 => absurd z2 z) (fun _ => ?_)
    refine s_save hf hW.2.2.1 hM2.1 hM2.2.1 (fun M3 d1 d2 d3 => ⟨v56, fun M4 e4 => ⟨rfl, ?_⟩⟩)
    have w1 : wfD (dput D 56 0) := wfD_tok hW.1 (fun i hi => if_neg (by omega)) (by unfold dput; rw [if_pos rfl]; omega) (fun i hi => by unfold dput; rw [if_neg (by omega)]; exact hW.1.2.2.2.2.2 i hi)
    have c2 : JC M2 (dput D 56 0) (hisN cnt) (hisP cnt H D) len T := b1.edit b2 b3 (fun c _ _ => by rw [e2, up_c (by omega)]) (b1.1.tok (fun c _ _ => by rw [e2, up_c (by omega)]) (fun i hi => if_neg (by omega)) (by show M2 9 1 = _; rw [e2, up_s]; unfold dput; rw [if_pos rfl]; rfl) (fun i hi => by unfold dput at hi; rw [if_pos rfl] at hi; omega))
    refine mkR (hW.push w1) (c2.frM (fun c hc => by rw [e4, up_c (by omega), d2 c (by omega) (by omega)])) (hM2.edit d2 d3 d1 (fun c hc => by rw [e4, up_c hc]) (fun j hj => ?_))
    rw [Nat.zero_add, e4]
    unfold dput
    by_cases z1 : j = 56
    · rw [z1, up_s, if_pos rfl]; rfl
    · rw [up_k z1, if_neg z1, d2 146 (by omega) (by omega)]; exact hM2.1.at hj
/-! costs -/
theorem wfD_cost {D : Nat → Nat} {f v : Nat} (h : wfD D) (h1 : 38 ≤ f) (h2 : f < 56) (h3 : 1 ≤ v) (h4 : v ≤ 9) : wfD (dput D f v) := by
  obtain ⟨a1, a2, a3, a4, a5, a6⟩ := h
  refine ⟨by rw [dput_k (by omega)]; exact a1, by rw [dput_k (by omega)]; exact a2, fun k hk => ?_, fun k hk => ?_, by rw [dput_k (by omega)]; exact a5, fun i hi => by rw [dput_k (by omega)]; exact a6 i hi⟩
  · rw [dput_k (show 0 ≠ f by omega), dput_k (by omega)]; exact a3 k hk
  · by_cases z : 38 + k = f
    · rw [z, dput_s]
      exact ⟨h3, h4⟩
    · rw [dput_k z]
      exact a4 k hk
/-- the place of a cost in the class's row and in the model's data -/
def cpl (o f : Nat) : Prop := (o = 3 ∧ f = 38) ∨ (o = 2 ∧ f = 44) ∨ (o = 1 ∧ f = 50)
theorem SitC.costAt {M : Mm} {s : Nat} {D : Nat → Nat} (h : SitC M s D) {o f k : Nat} (hp : cpl o f) (hk : k < 6) : M (s + 7) (6 * o + k) = nI (D (f + k)) := by
  obtain ⟨a1, a2, a3, a4⟩ := h.2.2.2.1 k hk
  rcases hp with ⟨rfl, rfl⟩ | ⟨rfl, rfl⟩ | ⟨rfl, rfl⟩
  · exact a4
  · exact a3
  · exact a2
theorem SitC.cost {M : Mm} {s : Nat} {D : Nat → Nat} (h : SitC M s D) {o f k v : Nat} (hp : cpl o f) (hk : k < 6) : SitC (up M (s + 7) (6 * o + k) (nI v)) s (dput D (f + k) v) := by
  have hf : 38 ≤ f + k ∧ f + k < 56 := by rcases hp with ⟨rfl, rfl⟩ | ⟨rfl, rfl⟩ | ⟨rfl, rfl⟩ <;> omega
  obtain ⟨d1, d2, d3, d4, d5, d6⟩ := h
  refine ⟨?_, fun q hq => ?_, fun q hq => ?_, fun q hq => ?_, ?_, ?_⟩
  · rw [up_c (by omega), dput_k (by omega)]; exact d1
  · rw [up_c (by omega), dput_k (by omega)]; exact d2 q hq
  · rw [up_c (by omega), up_c (by omega), up_c (by omega), dput_k (by omega)]; exact d3 q hq
  · obtain ⟨a1, a2, a3, a4⟩ := d4 q hq
    have g : ∀ o' f', cpl o' f' → M (s + 7) (6 * o' + q) = nI (D (f' + q)) → up M (s + 7) (6 * o + k) (nI v) (s + 7) (6 * o' + q) = nI (dput D (f + k) v (f' + q)) := fun o' f' hp' e => by
      have hff : f' + q = f + k ↔ 6 * o' + q = 6 * o + k := by rcases hp with ⟨rfl, rfl⟩ | ⟨rfl, rfl⟩ | ⟨rfl, rfl⟩ <;> rcases hp' with ⟨rfl, rfl⟩ | ⟨rfl, rfl⟩ | ⟨rfl, rfl⟩ <;> omega
      by_cases z : f' + q = f + k
      · rw [z, hff.1 z, up_s, dput_s]
      · rw [dput_k z, up_k (fun y => z (hff.2 y))]; exact e
    have ho : 1 ≤ o := by rcases hp with ⟨rfl, _⟩ | ⟨rfl, _⟩ | ⟨rfl, _⟩ <;> omega
    refine ⟨by rw [up_k (by omega)]; exact a1, g 1 50 (Or.inr (Or.inr ⟨rfl, rfl⟩)) a2, g 2 44 (Or.inr (Or.inl ⟨rfl, rfl⟩)) a3, g 3 38 (Or.inl ⟨rfl, rfl⟩) a4⟩
  · rw [up_c (by omega), dput_k (by omega)]; exact d5
  · rw [dput_k (by omega)]
    intro i hi
    rw [up_c (by omega), dput_k (by omega)]; exact d6 i hi
theorem c_Coof {fu : Nat} {post : Int32 → Mm → Prop} {s o k : Nat} {M : Mm} (hs : kd s = 8) (ho : o < 4) (hk : k < 6) (h : post (M (s + 7) (6 * o + k)) M) : f_Co_of fu post (s + 6) (nI o) (nI k) M := by
  unfold f_Co_of
  rw [show (6 : Int32) = nI 6 from rfl, pk_mul, nI_add, show s + 6 + 1 = s + 7 from rfl, Nat.mul_comm o 6]
  refine s_at (by rw [(lnS' hs).2.2.2.2.1]; omega) h
theorem op_cost {fu : Nat} (hf : 1300 ≤ fu) {M : Mm} {D : Nat → Nat} {cnt : Nat} {H : Nat → Nat → Nat} {len : Nat} {T : Nat → Nat} {o f : Nat} (hp : cpl o f) (hW : WF D cnt H len T) (hC : JC M D cnt H len T) (hM : JM M D cnt H len T) (x1 x2 : Int32) : f_SR_changeCost fu (fun r1 M1 => f_Md_setCost fu (fun r2 M2 => r1 = r2 ∧ JR M2) 145 (nI f) x1 x2 M1) 0 (nI o) x1 x2 M := by
  have ho : o < 4 ∧ f + 6 ≤ 56 ∧ 38 ≤ f := by rcases hp with ⟨rfl, rfl⟩ | ⟨rfl, rfl⟩ | ⟨rfl, rfl⟩ <;> omega
  have hJ := mkR hW hC hM
  have bad : ∀ r, (¬ ∃ k v, k < 6 ∧ 1 ≤ v ∧ v ≤ 9 ∧ x1 = nI k ∧ x2 = nI v) → r = (-1 : Int32) → f_Md_setCost fu (fun r2 M2 => r = r2 ∧ JR M2) 145 (nI f) x1 x2 M := by
    intro r q e
    unfold f_Md_setCost f_Md_isKind
    refine s_in (a := 0) (b := 5) (by omega) (by omega) (fun k _ hk e1 => br_f (by decide) ?_) (fun _ => br_t rfl ⟨e, hJ⟩)
    refine s_in (a := 1) (b := 9) (by omega) (by omega) (fun v v1 v2 e2 => absurd ⟨k, v, by omega, v1, v2, e1, e2⟩ q) (fun _ => br_t rfl ⟨e, hJ⟩)
  unfold f_SR_changeCost
  refine s_isKind (fun k hk e => br_f (by decide) ?_) (fun q2 => br_t rfl (bad _ (fun ⟨k, v, a1, a2, a3, a4, a5⟩ => q2 ⟨k, a1, a4⟩) rfl))
  refine ⟨fun q => bad _ (fun ⟨k, v, a1, a2, a3, a4, a5⟩ => ?_) rfl, fun q => ?_⟩
  · rw [a5, show (1 : Int32) = nI 1 from rfl, nI_ltI (by omega) (by omega)] at q; omega
  have q0 : ¬ x2 < 0 := fun z => q (Std.lt_of_lt_of_le z (by decide))
  obtain ⟨v, hv, ev⟩ := nI_of q0
  rw [ev, show (1 : Int32) = nI 1 from rfl, nI_ltI (by omega) (by omega)] at q
  refine pk_le v 9 (fun z => ?_) (fun z => bad _ (fun ⟨k, v', a1, a2, a3, a4, a5⟩ => ?_) rfl) ev
  rotate_left
  · rw [ev, nI_eq hv (by omega)] at a5; omega
  rw [e]
  refine c_Coof (s := 1) kd_1 ho.1 hk ?_
  rw [hC.1.costAt hp hk]
  refine c_beginEdit hf hW hC (fun M1 b1 b2 b3 b4 b5 => ?_)
  unfold f_Co_change
  rw [show (6 : Int32) = nI 6 from rfl, pk_mul, nI_add, ev, Nat.mul_comm o 6]
  simp only [Nat.reduceAdd]
  refine s_put (by rw [ln_C.2.2.2.2.1]; omega) ?_
  have f12 : frC M (up M1 8 (6 * o + k) (nI v)) := fun c hc => by rw [up_c (by omega), b5 c (by omega) (by omega) (by omega)]
  have hM2 := hM.frC f12
  have c2 : JC (up M1 8 (6 * o + k) (nI v)) (dput D (f + k) v) (hisN cnt) (hisP cnt H D) len T := b1.edit b2 b3 (fun c _ _ => up_c (by omega)) (b1.1.cost hp hk)
  unfold f_Md_setCost f_Md_isKind
  refine s_inN (a := 0) (b := 5) (by omega) (by omega) (by omega) (br_f (by decide) (s_inN (a := 1) (b := 9) (by omega) (by omega) (by omega) (br_f (by decide) ?_)))
  refine s_save hf hW.2.2.1 hM2.1 hM2.2.1 (fun M3 d1 d2 d3 => ?_)
  have hb : SitM M3 146 0 D := hM2.1.keep (fun k _ => by rw [d2 146 (by omega) (by omega)])
  simp only [Nat.reduceAdd]
  rw [ln_M.1, nI_add, nI_clamp (by omega), hb.at (by omega)]
  refine ⟨vp_in_nI (by omega) (by omega), fun y ey => ⟨vp_in_nI (by omega) (by omega), fun M4 e4 => ⟨ey.symm, ?_⟩⟩⟩
  refine mkR (hW.push (wfD_cost hW.1 (by omega) (by omega) (by omega) z)) (c2.frM (fun c hc => by rw [e4, up_c (by omega), d2 c (by omega) (by omega)])) (hM2.edit d2 d3 d1 (fun c hc => by rw [e4, up_c hc]) (fun j hj => ?_))
  rw [Nat.zero_add, e4]
  by_cases z1 : j = f + k
  · rw [z1, up_s, dput_s]
  · rw [up_k z1, dput_k z1, hb.at hj]
theorem op_k7 {fu : Nat} (hf : 1300 ≤ fu) : op_7 fu JR := by
  rintro M ⟨D, cnt, H, len, T, hW, hC, hM⟩ x1 x2
  unfold f_SR_setInsertionCost f_Md_setInsertionCost
  exact op_cost hf (o := 3) (f := 38) (Or.inl ⟨rfl, rfl⟩) hW hC hM x1 x2
theorem op_k8 {fu : Nat} (hf : 1300 ≤ fu) : op_8 fu JR := by
  rintro M ⟨D, cnt, H, len, T, hW, hC, hM⟩ x1 x2
  unfold f_SR_setDeletionCost f_Md_setDeletionCost
  exact op_cost hf (o := 2) (f := 44) (Or.inr (Or.inl ⟨rfl, rfl⟩)) hW hC hM x1 x2
theorem op_k9 {fu : Nat} (hf : 1300 ≤ fu) : op_9 fu JR := by
  rintro M ⟨D, cnt, H, len, T, hW, hC, hM⟩ x1 x2
  unfold f_SR_setReplacementCost f_Md_setReplacementCost
  exact op_cost hf (o := 1) (f := 50) (Or.inr (Or.inr ⟨rfl, rfl⟩)) hW hC hM x1 x2
/-! undo -/
theorem op_k10 {fu : Nat} (hf : 1300 ≤ fu) : op_10 fu JR := by
  rintro M ⟨D, cnt, H, len, T, hW, hC, hM⟩ _
  have h8 := hW.2.2.1
  have hJ := mkR hW hC hM
  obtain ⟨c1, ⟨g1, g2, nx, g3, g4, g5⟩, c3, c4, c5⟩ := hC
  unfold f_SR_undo
  simp only [Nat.reduceAdd]
  refine pk_eq cnt 0 (fun z => ?_) (fun z => ?_) g2
  · unfold f_Md_undo
    simp only [Nat.reduceAdd]
    exact pk_eq cnt 0 (fun _ => ⟨trivial, hJ⟩) (fun z2 => absurd z z2) hM.2.1.1
  · unfold f_Hi_recall
    rw [g4]
    intro M1 e1
    rw [show nI nx + 8 - 1 - (nI nx + 8 - 1) / 8 * 8 = nI ((nx + 7) % 8) from by
      rw [show (8 : Int32) = nI 8 from rfl, nI_add, nI_p1 (by omega), show nx + 8 - 1 = nx + 7 by omega]
      exact pk_rem (by omega) (by omega) (by omega)] at e1
    have k1 : ∀ c, c ≠ 11 → M1 c = M c := fun c hc => by rw [e1, up_c hc]
    rw [show M1 11 1 = nI ((nx + 7) % 8) from by rw [e1, up_s]]
    have hwH := hW.2.1 (cnt - 1) (by omega)
    have hr := g5 (cnt - 1) (by omega)
    rw [show (nx + 8 - cnt + (cnt - 1)) % 8 = (nx + 7) % 8 by omega] at hr
    refine s_slotAt (by omega) ⟨fun q => (by cases q), fun cc q => ?_⟩
    cases q
    refine s_siCopy hf kd_1 (ring_kd _ (by omega)) (by omega) hwH.2.2.2.2.1 (hr.keep (fun c _ _ => k1 c (by omega))) (fun M2 b1 b2 => ?_)
    unfold f_Hi_recall_34 f_SR_forgetTables
    simp only [Nat.reduceAdd]
    intro M3 e3 M4 e4 M5 e5
    rw [b2 11 (by omega)] at e3
    rw [show M1 11 2 = nI cnt from by rw [e1, up_k (by omega)]; exact g2, nI_p1 (by omega)] at e3
    have k5 : ∀ c, 11 < c → c ≠ 105 → c ≠ 123 → M5 c = M c := fun c h1 h2 h3 => by rw [e5, up_c h3, e4, up_c h2, e3, up_c (by omega), b2 c (by omega), k1 c (by omega)]
    have k52 : ∀ c, c < 11 → M5 c = M2 c := fun c h1 => by rw [e5, up_c (by omega), e4, up_c (by omega), e3, up_c (by omega)]
    have s11 : ∀ k, M5 11 k = M3 11 k := fun k => by rw [e5, up_c (by omega), e4, up_c (by omega)]
    rw [show M5 11 2 = nI (cnt - 1) from by rw [s11, e3, up_s]]
    have hC5 : JC M5 (H (cnt - 1)) (cnt - 1) H len T := by
      refine ⟨b1.keep (fun c _ _ => k52 c (by omega)), ⟨by omega, by rw [s11, e3, up_s], (nx + 7) % 8, by omega, ?_, fun i hi => ?_⟩, ?_, fun i hi => ?_, Or.inl ?_, Or.inl ?_⟩
      · rw [s11, e3, up_k (by omega), b2 11 (by omega), e1, up_s]
      · rw [show ((nx + 7) % 8 + 8 - (cnt - 1) + i) % 8 = (nx + 8 - cnt + i) % 8 by omega]
        exact (g5 i (by omega)).keep (fun c _ _ => k5 c (by omega) (by omega) (by omega))
      · rw [k5 93 (by omega) (by omega) (by omega)]; exact c3
      · rw [k5 94 (by omega) (by omega) (by omega)]; exact c4 i hi
      · rw [e5, up_c (by omega), e4, up_s]
      · rw [e5, up_s]
    have hM5 := hM.frC (M' := M5) (fun c hc => k5 c (by omega) (by omega) (by omega))
    unfold f_Md_undo
    simp only [Nat.reduceAdd]
    refine pk_eq cnt 0 (fun z2 => absurd z2 z) (fun _ M6 e6 => ?_) hM5.2.1.1
    rw [hM5.2.1.1, nI_p1 (by omega)] at e6
    rw [show M6 145 3 = nI (cnt - 1) from by rw [e6, up_s], show (69 : Int32) = nI 69 from rfl, pk_mul, show (0 : Int32) = nI 0 from rfl]
    refine s_copyData (by omega) (by rw [ln_M.2.2.1]; omega) (by rw [ln_M.1]; omega) hf (fun M7 d1 d2 d3 => ?_)
    rw [show M7 145 3 = nI (cnt - 1) from by rw [d3 145 (by omega), e6, up_s]]
    refine ⟨rfl, mkR (H := H) ⟨hwH, fun i hi => hW.2.1 i (by omega), by omega, hW.2.2.2⟩ (hC5.frM (fun c hc => by rw [d3 c (by omega), e6, up_c (by omega)])) ?_⟩
    obtain ⟨m1, ⟨m2, m3⟩, m4, m5⟩ := hM5
    refine ⟨fun k hk => ?_, ⟨by rw [d3 145 (by omega), e6, up_s], fun i hi => (m3 i (by omega)).keep (fun k _ => by rw [d3 148 (by omega), e6, up_c (by omega)])⟩, ?_, fun i hi => ?_⟩
    · rw [d1 k hk, e6, up_c (by omega)]
      exact m3 (cnt - 1) (by omega) k hk
    · rw [d3 145 (by omega), e6, up_k (by omega)]; exact m4
    · rw [d3 149 (by omega), e6, up_c (by omega)]; exact m5 i hi
