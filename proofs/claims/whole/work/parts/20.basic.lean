/-! PURE MATHEMATICS FROM HERE: what the f_.. mean. First the small rows -/
theorem ln_le (c : Nat) : ln c ≤ 1248 := by
  rcases Nat.lt_or_ge c 156 with q | q
  · exact (show ∀ c, c < 156 → ln c ≤ 1248 by decide +kernel) c q
  · unfold ln
    rw [List.getD_eq_getElem?_getD, List.getElem?_eq_none (by exact q)]
    exact Nat.zero_le _
theorem s_at {fu : Nat} {post : Int32 → Mm → Prop} {r n : Nat} {M : Mm} (hn : n < ln r) (h : post (M r n) M) : f_SR_at fu post r (nI n) M := by
  have hl := ln_le r
  unfold f_SR_at
  refine br_f (nI_pos (by omega)) (br_f (nI_ge hn (by omega)) ⟨vp_in_nI hn (by omega), ?_⟩)
  rw [nI_clamp (by omega)]
  exact h
theorem s_at_hi {fu : Nat} {post : Int32 → Mm → Prop} {r n : Nat} {M : Mm} (hn : ln r ≤ n) (hb : n < 2 ^ 31) (h : post (-1) M) : f_SR_at fu post r (nI n) M := by
  unfold f_SR_at
  exact br_f (nI_pos hb) (br_t (nI_le hn hb) h)
theorem s_at_neg {fu : Nat} {post : Int32 → Mm → Prop} {r : Nat} {x : Int32} {M : Mm} (hx : x < 0) (h : post (-1) M) : f_SR_at fu post r x M := by
  unfold f_SR_at
  exact br_t hx h
theorem s_put {fu : Nat} {post : Mm → Prop} {r n : Nat} {v : Int32} {M : Mm} (hn : n < ln r) (h : post (up M r n v)) : f_SR_put fu post r (nI n) v M := by
  have hl := ln_le r
  unfold f_SR_put
  refine br_f (nI_pos (by omega)) (br_f (nI_ge hn (by omega)) ⟨vp_in_nI hn (by omega), fun M2 e => ?_⟩)
  rw [e, nI_clamp (by omega)]
  exact h
theorem s_isKind {fu : Nat} {post : Int32 → Mm → Prop} {x : Int32} {M : Mm} (h1 : ∀ k, k < 6 → x = nI k → post 1 M) (h0 : (¬ ∃ k, k < 6 ∧ x = nI k) → post 0 M) : f_SR_isKind fu post x M := by
  unfold f_SR_isKind
  refine ⟨fun q => h0 ?_, fun q => ?_⟩
  · rintro ⟨k, hk, rfl⟩
    exact nI_pos (by omega) q
  · obtain ⟨j, hj, rfl⟩ := nI_of q
    refine pk_le 6 j (fun z => h0 ?_) (fun z => h1 j z rfl)
    rintro ⟨k, hk, e⟩
    rw [nI_eq hj (by omega)] at e
    omega
theorem s_isKindN {fu : Nat} {post : Int32 → Mm → Prop} {k : Nat} {M : Mm} (hk : k < 6) (h : post 1 M) : f_SR_isKind fu post (nI k) M :=
  s_isKind (fun _ _ _ => h) (fun q => absurd ⟨k, hk, rfl⟩ q)
theorem s_in {fu : Nat} {post : Int32 → Mm → Prop} {x : Int32} {a b : Nat} {M : Mm} (ha : a < 2 ^ 31) (hb : b < 2 ^ 31) (h1 : ∀ k, a ≤ k → k ≤ b → x = nI k → post 1 M) (h0 : (¬ ∃ k, a ≤ k ∧ k ≤ b ∧ x = nI k) → post 0 M) : f_Md_in fu post x (nI a) (nI b) M := by
  unfold f_Md_in
  refine ⟨fun q => h0 ?_, fun q => ⟨fun q2 => h0 ?_, fun q2 => ?_⟩⟩
  · rintro ⟨k, h2, h3, rfl⟩
    rw [nI_ltI (by omega) (by omega)] at q
    omega
  · rintro ⟨k, h2, h3, rfl⟩
    rw [nI_ltI (by omega) (by omega)] at q2
    omega
  · have q0 : ¬ x < 0 := fun z => q (Std.lt_of_lt_of_le z (nI_pos' (by omega)))
    obtain ⟨j, hj, rfl⟩ := nI_of q0
    rw [nI_ltI (by omega) (by omega)] at q q2
    exact h1 j (by omega) (by omega) rfl
theorem s_inN {fu : Nat} {post : Int32 → Mm → Prop} {k a b : Nat} {M : Mm} (ha : a ≤ k) (hk : k ≤ b) (hb : b < 2 ^ 31) (h : post 1 M) : f_Md_in fu post (nI k) (nI a) (nI b) M :=
  s_in (by omega) hb (fun _ _ _ _ => h) (fun q => absurd ⟨k, ha, hk, rfl⟩ q)
theorem s_mkind {fu : Nat} {post : Int32 → Mm → Prop} {x : Int32} {M : Mm} (h1 : ∀ k, k < 6 → x = nI k → post 1 M) (h0 : (¬ ∃ k, k < 6 ∧ x = nI k) → post 0 M) : f_Md_isKind fu post x M := by
  unfold f_Md_isKind
  exact s_in (a := 0) (b := 5) (by decide) (by decide) (fun k _ h e => h1 k (by omega) e) (fun q => h0 (fun ⟨k, h, e⟩ => q ⟨k, Nat.zero_le _, by omega, e⟩))
/-! rows filled and copied -/
theorem s_fill_loop {fu : Nat} {post : Mm → Prop} {r : Nat} {v : Int32} : ∀ (kf n : Nat) (M : Mm), ln r + 1 ≤ kf + n → n ≤ ln r →
    (∀ M', (∀ j, n ≤ j → j < ln r → M' r j = v) → (∀ j, (j < n ∨ ln r ≤ j) → M' r j = M r j) → (∀ c, c ≠ r → M' c = M c) → post M') → f_SR_fill_2 fu post kf r v (nI n) M := by
  intro kf
  have hl := ln_le r
  induction kf with
  | zero => intro n M h1 h2 _; omega
  | succ kf ih =>
    intro n M h1 h2 h
    rw [f_SR_fill_2]
    refine pk_le (ln r) n (fun z => h M (fun j a b => by omega) (fun _ _ => rfl) (fun _ _ => rfl)) (fun z => ⟨vp_in_nI z (by omega), fun M2 e y ey => ?_⟩)
    rw [nI_clamp (by omega)] at e
    rw [ey, nI_1]
    refine ih (n + 1) M2 (by omega) (by omega) (fun M' q1 q2 q3 => h M' (fun j a b => ?_) (fun j a => ?_) (fun c hc => ?_))
    · by_cases hj : j = n
      · subst hj
        rw [q2 j (Or.inl (by omega)), e, up_s]
      · exact q1 j (by omega) b
    · rw [q2 j (by omega), e, up_k (by omega)]
    · rw [q3 c hc, e, up_c hc]
theorem s_fill {fu : Nat} {post : Mm → Prop} {r : Nat} {v : Int32} {M : Mm} (hf : 1300 ≤ fu) (h : ∀ M', (∀ j, j < ln r → M' r j = v) → (∀ c, c ≠ r → M' c = M c) → post M') : f_SR_fill fu post r v M := by
  have hl := ln_le r
  unfold f_SR_fill
  exact s_fill_loop fu 0 M (by omega) (by omega) (fun M' q1 q2 q3 => h M' (fun j hj => q1 j (by omega) hj) q3)
theorem s_copy_loop {fu : Nat} {post : Mm → Prop} {a b : Nat} (hab : b ≠ a) (hln : ln a = ln b) : ∀ (kf n : Nat) (M : Mm), ln b + 1 ≤ kf + n → n ≤ ln b →
    (∀ M', (∀ j, n ≤ j → j < ln b → M' b j = M a j) → (∀ j, j < n → M' b j = M b j) → (∀ c, c ≠ b → M' c = M c) → post M') → f_SR_copy_2 fu post kf a b (nI n) M := by
  intro kf
  have hl := ln_le b
  induction kf with
  | zero => intro n M h1 h2 _; omega
  | succ kf ih =>
    intro n M h1 h2 h
    rw [f_SR_copy_2]
    refine pk_le (ln b) n (fun z => h M (fun j a b => by omega) (fun _ _ => rfl) (fun _ _ => rfl)) (fun z => ?_)
    refine pk_le (ln a) n (fun z => by omega) (fun z2 => ⟨vp_in_nI z2 (by omega), vp_in_nI z (by omega), fun M2 e y ey => ?_⟩)
    rw [nI_clamp (by omega)] at e
    rw [ey, nI_1]
    refine ih (n + 1) M2 (by omega) (by omega) (fun M' q1 q2 q3 => h M' (fun j a b => ?_) (fun j a => ?_) (fun c hc => ?_))
    · by_cases hj : j = n
      · subst hj
        rw [q2 j (by omega), e, up_s]
      · rw [q1 j (by omega) b, e, up_c (fun q => hab q.symm)]
    · rw [q2 j (by omega), e, up_k (by omega)]
    · rw [q3 c hc, e, up_c hc]
theorem s_copy {fu : Nat} {post : Mm → Prop} {a b : Nat} {M : Mm} (hab : b ≠ a) (hln : ln a = ln b) (hf : 1300 ≤ fu) (h : ∀ M', (∀ j, j < ln b → M' b j = M a j) → (∀ c, c ≠ b → M' c = M c) → post M') : f_SR_copy fu post a b M := by
  have hl := ln_le b
  unfold f_SR_copy
  exact s_copy_loop hab hln fu 0 M (by omega) (by omega) (fun M' q1 q2 q3 => h M' (fun j hj => q1 j (by omega) hj) q3)
theorem s_copyData_loop {fu : Nat} {post : Mm → Prop} {a b i j : Nat} (hab : b ≠ a ∨ False) (h1 : i + 69 ≤ ln a) (h2 : j + 69 ≤ ln b) : ∀ (kf n : Nat) (M : Mm), 70 ≤ kf + n → n ≤ 69 →
    (∀ M', (∀ k, n ≤ k → k < 69 → M' b (j + k) = M a (i + k)) → (∀ k, (k < j + n ∨ j + 69 ≤ k) → M' b k = M b k) → (∀ c, c ≠ b → M' c = M c) → post M') → f_Md_copyData_3 fu post kf a (nI i) b (nI j) (nI n) M := by
  intro kf
  have hla := ln_le a
  have hlb := ln_le b
  have hab : b ≠ a := hab.elim id False.elim
  induction kf with
  | zero => intro n M h1 h2 _; omega
  | succ kf ih =>
    intro n M h3 h4 h
    rw [f_Md_copyData_3]
    refine pk_le 69 n (fun z => h M (fun k a b => by omega) (fun _ _ => rfl) (fun _ _ => rfl)) (fun z => ?_)
    rw [nI_add, nI_add]
    refine ⟨vp_in_nI (by omega) (by omega), vp_in_nI (by omega) (by omega), fun M2 e y ey => ?_⟩
    rw [nI_clamp (by omega), nI_clamp (by omega)] at e
    rw [ey, nI_1]
    refine ih (n + 1) M2 (by omega) (by omega) (fun M' q1 q2 q3 => h M' (fun k a b => ?_) (fun k a => ?_) (fun c hc => ?_))
    · by_cases hk : k = n
      · subst hk
        rw [q2 _ (by omega), e, up_s]
      · rw [q1 k (by omega) b, e, up_c (fun q => hab q.symm)]
    · rw [q2 k (by omega), e, up_k (by omega)]
    · rw [q3 c hc, e, up_c hc]
theorem s_copyData {fu : Nat} {post : Mm → Prop} {a b i j : Nat} {M : Mm} (hab : b ≠ a) (h1 : i + 69 ≤ ln a) (h2 : j + 69 ≤ ln b) (hf : 1300 ≤ fu) (h : ∀ M', (∀ k, k < 69 → M' b (j + k) = M a (i + k)) → (∀ k, (k < j ∨ j + 69 ≤ k) → M' b k = M b k) → (∀ c, c ≠ b → M' c = M c) → post M') : f_Md_copyData fu post a (nI i) b (nI j) M := by
  unfold f_Md_copyData
  exact s_copyData_loop (Or.inl hab) h1 h2 fu 0 M (by omega) (by omega) (fun M' q1 q2 q3 => h M' (fun k hk => q1 k (by omega) hk) (fun k hk => q2 k (by omega)) q3)
theorem s_clearData_loop {fu : Nat} {post : Mm → Prop} {r : Nat} (hr : ln r = 69) : ∀ (kf n : Nat) (M : Mm), 70 ≤ kf + n → n ≤ 69 →
    (∀ M', (∀ k, n ≤ k → k < 69 → M' r k = nI (if 38 ≤ k ∧ k < 56 then 1 else 0)) → (∀ k, k < n → M' r k = M r k) → (∀ c, c ≠ r → M' c = M c) → post M') → f_Md_clearData_2 fu post kf r (nI n) M := by
  intro kf
  induction kf with
  | zero => intro n M h1 h2 _; omega
  | succ kf ih =>
    intro n M h3 h4 h
    rw [f_Md_clearData_2]
    have step : n < 69 → ∀ v, v = nI (if 38 ≤ n ∧ n < 56 then 1 else 0) → f_Md_clearData_27 fu post (f_Md_clearData_2 fu post kf) r (nI n) r (nI n) v M := fun hn v hv => by
      unfold f_Md_clearData_27
      rw [hr]
      refine ⟨vp_in_nI hn (by decide), fun M2 e y ey => ?_⟩
      rw [nI_clamp (by omega)] at e
      rw [ey, nI_1]
      refine ih (n + 1) M2 (by omega) (by omega) (fun M' q1 q2 q3 => h M' (fun k a b => ?_) (fun k a => ?_) (fun c hc => ?_))
      · by_cases hk : k = n
        · subst hk
          rw [q2 _ (by omega), e, up_s, hv]
        · exact q1 k (by omega) b
      · rw [q2 k (by omega), e, up_k (by omega)]
      · rw [q3 c hc, e, up_c hc]
    refine pk_le 69 n (fun z => h M (fun k a b => by omega) (fun _ _ => rfl) (fun _ _ => rfl)) (fun z => ?_)
    refine pk_lt n 38 (fun z2 => ?_) (fun z2 => pk_le 56 n (fun z3 => ?_) (fun z3 => ?_))
    · unfold f_Md_clearData_26
      exact step z 0 (by rw [if_neg (by omega)]; rfl)
    · unfold f_Md_clearData_26
      exact step z 0 (by rw [if_neg (by omega)]; rfl)
    · exact step z 1 (by rw [if_pos (by omega)]; rfl)
theorem s_clearData {fu : Nat} {post : Mm → Prop} {r : Nat} {M : Mm} (hr : ln r = 69) (hf : 1300 ≤ fu) (h : ∀ M', (∀ k, k < 69 → M' r k = nI (if 38 ≤ k ∧ k < 56 then 1 else 0)) → (∀ c, c ≠ r → M' c = M c) → post M') : f_Md_clearData fu post r M := by
  unfold f_Md_clearData
  exact s_clearData_loop hr fu 0 M (by omega) (by omega) (fun M' q1 q2 q3 => h M' (fun k hk => q1 k (by omega) hk) q3)
