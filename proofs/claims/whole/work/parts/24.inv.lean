/-! the relation between class and model -/
/-- what explore leaves: a closed set of configurations, listed -/
def Rea (M : Mm) (s : Nat) (D : Nat → Nat) (G : Nat → Prop) (n : Nat) (q : Nat → Nat) : Prop := n ≤ 96 ∧ M (s + 10) 3 = nI n ∧ (∀ i, i < n → M (s + 12) i = nI (q i) ∧ G (q i)) ∧ (∀ c, G c → ∃ i, i < n ∧ q i = c) ∧ G 1 ∧
  ∀ c, G c → okc D c ∧ c < 96 ∧ ∀ k, k < 6 → (∀ c', cns D c k = some c' → G c' ∧ M (s + 11) (6 * c + k) = nI c') ∧ (cns D c k = none → M (s + 11) (6 * c + k) = -1)
theorem Rea.keep {M M' : Mm} {s : Nat} {D : Nat → Nat} {G : Nat → Prop} {n : Nat} {q : Nat → Nat} (h : Rea M s D G n q) (k : ∀ a, s + 10 ≤ a → a ≤ s + 12 → M' a = M a) : Rea M' s D G n q := by
  unfold Rea at *
  rw [k (s + 10) (by omega) (by omega), k (s + 11) (by omega) (by omega), k (s + 12) (by omega) (by omega)]
  exact h
def Tab (M : Mm) (t : Nat) (D : Nat → Nat) (la : Nat) : Prop := SitC M (t + 1) D ∧ ∃ G n q, Rea M (t + 1) D G n q ∧
  ∀ p c, p ≤ D 56 → G c → ∃ l s w, Right D la 1000 (96 * p + c) l s w ∧ M (t + 15) (96 * p + c) = nI l ∧ M (t + 16) (96 * p + c) = nI s ∧ M (t + 17) (96 * p + c) = nI w
theorem Tab.keep {M M' : Mm} {t : Nat} {D : Nat → Nat} {la : Nat} (h : Tab M t D la) (k : ∀ c, t < c → c < t + 18 → M' c = M c) : Tab M' t D la := by
  obtain ⟨h1, G, n, q, h2, h3⟩ := h
  refine ⟨h1.keep (fun c a b => k c (by omega) (by omega)), G, n, q, h2.keep (fun a b c => k a (by omega) (by omega)), ?_⟩
  rw [k (t + 15) (by omega) (by omega), k (t + 16) (by omega) (by omega), k (t + 17) (by omega) (by omega)]
  exact h3
def Tabs (M : Mm) (D : Nat → Nat) : Prop := (M 105 5 = 0 ∨ (M 105 6 = nI 0 ∧ Tab M 105 D 0)) ∧ (M 123 5 = 0 ∨ ∃ la, 1 ≤ la ∧ la ≤ 5 ∧ M 123 6 = nI la ∧ Tab M 123 D la)
def JC (M : Mm) (D : Nat → Nat) (cnt : Nat) (H : Nat → Nat → Nat) (len : Nat) (T : Nat → Nat) : Prop :=
  SitC M 1 D ∧ HisC M cnt H ∧ M 93 2 = nI len ∧ (∀ i, i < len → M 94 i = nI (T i)) ∧ Tabs M D
def JM (M : Mm) (D : Nat → Nat) (cnt : Nat) (H : Nat → Nat → Nat) (len : Nat) (T : Nat → Nat) : Prop :=
  SitM M 146 0 D ∧ HisM M cnt H ∧ M 145 5 = nI len ∧ ∀ i, i < len → M 149 i = nI (T i)
def WF (D : Nat → Nat) (cnt : Nat) (H : Nat → Nat → Nat) (len : Nat) (T : Nat → Nat) : Prop :=
  wfD D ∧ (∀ i, i < cnt → wfD (H i)) ∧ cnt ≤ 8 ∧ len ≤ 150 ∧ ∀ i, i < len → T i < 256
def JR (M : Mm) : Prop := ∃ D cnt H len T, WF D cnt H len T ∧ JC M D cnt H len T ∧ JM M D cnt H len T
def frC (M M' : Mm) : Prop := ∀ c, 145 ≤ c → M' c = M c
def frM (M M' : Mm) : Prop := ∀ c, c < 145 → M' c = M c
theorem frC.trans {M M' M2 : Mm} (h : frC M M') (h2 : frC M' M2) : frC M M2 := fun c hc => (h2 c hc).trans (h c hc)
theorem frM.trans {M M' M2 : Mm} (h : frM M M') (h2 : frM M' M2) : frM M M2 := fun c hc => (h2 c hc).trans (h c hc)
theorem HisC.keep {M M' : Mm} {cnt : Nat} {H : Nat → Nat → Nat} (h : HisC M cnt H) (k : ∀ c, 11 ≤ c → c < 93 → M' c = M c) : HisC M' cnt H := by
  obtain ⟨h1, h2, nx, h3, h4, h5⟩ := h
  refine ⟨h1, ?_, nx, h3, ?_, fun i hi => (h5 i hi).keep (fun c q1 q2 => k c (by omega) (by omega))⟩
  · rw [k 11 (by omega) (by omega)]; exact h2
  · rw [k 11 (by omega) (by omega)]; exact h4
theorem JC.keep {M M' : Mm} {D : Nat → Nat} {cnt : Nat} {H : Nat → Nat → Nat} {len : Nat} {T : Nat → Nat} (h : JC M D cnt H len T) (k1 : ∀ c, c < 141 → c ≠ 93 → (c < 95 ∨ 105 < c) → c ≠ 123 → M' c = M c) (k2 : M' 93 2 = M 93 2) (k3 : M' 105 5 = M 105 5 ∧ M' 105 6 = M 105 6) (k4 : M' 123 5 = M 123 5 ∧ M' 123 6 = M 123 6) : JC M' D cnt H len T := by
  obtain ⟨h1, h2, h3, h4, h5, h6⟩ := h
  refine ⟨h1.keep (fun c q1 q2 => k1 c (by omega) (by omega) (by omega) (by omega)), h2.keep (fun c q1 q2 => k1 c (by omega) (by omega) (by omega) (by omega)), by rw [k2]; exact h3, fun i hi => ?_, ?_, ?_⟩
  · rw [k1 94 (by omega) (by omega) (by omega) (by omega)]; exact h4 i hi
  · rw [k3.1, k3.2]
    exact h5.imp id (fun q => ⟨q.1, q.2.keep (fun c q1 q2 => k1 c (by omega) (by omega) (by omega) (by omega))⟩)
  · rw [k4.1, k4.2]
    exact h6.imp id (fun ⟨la, q1, q2, q3, q4⟩ => ⟨la, q1, q2, q3, q4.keep (fun c q1 q2 => k1 c (by omega) (by omega) (by omega) (by omega))⟩)
theorem JC.frM {M M' : Mm} {D : Nat → Nat} {cnt : Nat} {H : Nat → Nat → Nat} {len : Nat} {T : Nat → Nat} (h : JC M D cnt H len T) (k : frM M M') : JC M' D cnt H len T :=
  h.keep (fun c q1 _ _ _ => k c (by omega)) (by rw [k 93 (by omega)]) (by rw [k 105 (by omega)]; exact ⟨rfl, rfl⟩) (by rw [k 123 (by omega)]; exact ⟨rfl, rfl⟩)
theorem JM.keep {M M' : Mm} {D : Nat → Nat} {cnt : Nat} {H : Nat → Nat → Nat} {len : Nat} {T : Nat → Nat} (h : JM M D cnt H len T) (k1 : M' 146 = M 146) (k2 : M' 148 = M 148) (k3 : M' 149 = M 149) (k4 : M' 145 3 = M 145 3 ∧ M' 145 5 = M 145 5) : JM M' D cnt H len T := by
  obtain ⟨h1, ⟨h2, h3⟩, h4, h5⟩ := h
  refine ⟨h1.keep (fun k _ => by rw [k1]), ⟨by rw [k4.1]; exact h2, fun i hi => (h3 i hi).keep (fun k _ => by rw [k2])⟩, by rw [k4.2]; exact h4, fun i hi => ?_⟩
  rw [k3]; exact h5 i hi
theorem JM.frC {M M' : Mm} {D : Nat → Nat} {cnt : Nat} {H : Nat → Nat → Nat} {len : Nat} {T : Nat → Nat} (h : JM M D cnt H len T) (k : frC M M') : JM M' D cnt H len T :=
  h.keep (k 146 (by omega)) (k 148 (by omega)) (k 149 (by omega)) (by rw [k 145 (by omega)]; exact ⟨rfl, rfl⟩)
theorem ln_M : ln 146 = 69 ∧ ln 147 = 69 ∧ ln 148 = 552 ∧ ln 149 = 150 ∧ ln 150 = 1248 ∧ ln 151 = 1248 ∧ ln 152 = 1248 ∧ ln 153 = 1248 ∧ ln 154 = 1248 ∧ ln 155 = 1248 := by decide +kernel
theorem ln_C : ln 94 = 150 ∧ ln 142 = 1248 ∧ ln 143 = 1248 ∧ ln 10 = 12 ∧ ln 8 = 24 ∧ ln 3 = 6 ∧ ln 4 = 36 ∧ ln 5 = 36 ∧ ln 6 = 36 := by decide +kernel
theorem SitM.at {M : Mm} {D : Nat → Nat} (h : SitM M 146 0 D) {k : Nat} (hk : k < 69) : M 146 k = nI (D k) := by
  have := h k hk; rwa [Nat.zero_add] at this
/-- save -/
theorem s_save_shift {fu : Nat} {post : Mm → Prop} : ∀ (kf n : Nat) (M : Mm), 484 ≤ kf + n → n ≤ 483 →
    (∀ M', (∀ k, n ≤ k → k < 483 → M' 148 k = M 148 (k + 69)) → (∀ k, k < n → M' 148 k = M 148 k) → (∀ c, c ≠ 148 → M' c = M c) → f_Md_save_49 fu post 145 (up M' 145 3 (M' 145 3 - 1))) → f_Md_save_11 fu post kf 145 (nI n) M := by
  intro kf
  induction kf with
  | zero => intro n M h1 h2 _; omega
  | succ kf ih =>
    intro n M h1 h2 h
    rw [f_Md_save_11]
    simp only [Nat.reduceAdd]
    rw [ln_M.2.2.1]
    refine pk_le 483 n (fun z M1 e => ?_) (fun z => ?_)
    · rw [e]
      exact h M (fun k a b => by omega) (fun _ _ => rfl) (fun _ _ => rfl)
    · rw [show (69 : Int32) = nI 69 from rfl, nI_add]
      refine ⟨vp_in_nI (by omega) (by omega), vp_in_nI (by omega) (by omega), fun M2 e y ey => ?_⟩
      rw [nI_clamp (by omega), nI_clamp (by omega)] at e
      rw [ey, nI_1]
      refine ih (n + 1) M2 (by omega) (by omega) (fun M' q1 q2 q3 => h M' (fun k a b => ?_) (fun k a => ?_) (fun c hc => ?_))
      · by_cases hk : k = n
        · subst hk
          rw [q2 k (by omega), e, up_s]
        · rw [q1 k (by omega) b, e, up_k (by omega)]
      · rw [q2 k (by omega), e, up_k (by omega)]
      · rw [q3 c hc, e, up_c hc]
theorem s_save_49 {fu : Nat} {post : Mm → Prop} {n : Nat} {D : Nat → Nat} {M : Mm} (hf : 1300 ≤ fu) (hn : n < 8) (h3 : M 145 3 = nI n) (hD : SitM M 146 0 D)
    (h : ∀ M', SitM M' 148 (69 * n) D → (∀ k, k < 69 * n → M' 148 k = M 148 k) → (∀ c, c ≠ 148 → c ≠ 145 → M' c = M c) → M' 145 3 = nI (n + 1) → (∀ k, k ≠ 3 → M' 145 k = M 145 k) → post M') : f_Md_save_49 fu post 145 M := by
  unfold f_Md_save_49
  simp only [Nat.reduceAdd]
  rw [h3, show (69 : Int32) = nI 69 from rfl, pk_mul, show (0 : Int32) = nI 0 from rfl]
  refine s_copyData (by omega) (by rw [ln_M.1]; omega) (by rw [ln_M.2.2.1]; omega) hf (fun M1 q1 q2 q3 M2 e => ?_)
  rw [q3 145 (by omega), h3, nI_1] at e
  refine h M2 (fun k hk => ?_) (fun k hk => ?_) (fun c h1 h2 => ?_) ?_ (fun k hk => ?_)
  · rw [e, up_c (by omega), q1 k hk, hD k hk]
  · rw [e, up_c (by omega), q2 k (by omega)]
  · rw [e, up_c h2, q3 c h1]
  · rw [e, up_s]
  · rw [e, up_k hk, q3 145 (by omega)]
theorem s_save {fu : Nat} {post : Mm → Prop} {cnt : Nat} {H : Nat → Nat → Nat} {D : Nat → Nat} {M : Mm} (hf : 1300 ≤ fu) (hc : cnt ≤ 8) (hD : SitM M 146 0 D) (hH : HisM M cnt H)
    (h : ∀ M', HisM M' (hisN cnt) (hisP cnt H D) → (∀ c, c ≠ 148 → c ≠ 145 → M' c = M c) → (∀ k, k ≠ 3 → M' 145 k = M 145 k) → post M') : f_Md_save fu post 145 M := by
  obtain ⟨h1, h2⟩ := hH
  unfold f_Md_save
  rw [h1]
  refine pk_eq cnt 8 (fun z => ?_) (fun z => ?_)
  · subst z
    refine s_save_shift fu 0 M (by omega) (by omega) (fun M1 q1 q2 q3 => ?_)
    rw [q3 145 (by omega), h1, show (1 : Int32) = nI 1 from rfl, pk_sub (by omega)]
    refine s_save_49 hf (n := 7) (by omega) up_s (D := D) (fun k hk => by rw [up_c (by omega), q3 146 (by omega)]; exact hD k hk) (fun M2 a1 a2 a3 a4 a5 => ?_)
    refine h M2 ⟨by rw [a4]; rfl, fun i hi k hk => ?_⟩ (fun c b1 b2 => by rw [a3 c b1 b2, up_c b2, q3 c b1]) (fun k hk => by rw [a5 k hk, up_k hk, q3 145 (by omega)])
    unfold hisN at hi
    unfold hisP
    rw [if_neg (by omega)]
    rw [if_neg (by omega)] at hi
    by_cases z : i = 7
    · subst z
      rw [if_pos rfl]
      exact a1 k hk
    · rw [if_neg z, a2 _ (by omega), up_c (by omega), q1 _ (by omega) (by omega), show 69 * i + k + 69 = 69 * (i + 1) + k by omega]
      exact h2 (i + 1) (by omega) k hk
  · refine s_save_49 hf (n := cnt) (by omega) h1 hD (fun M2 a1 a2 a3 a4 a5 => ?_)
    have hn : hisN cnt = cnt + 1 := if_pos (by omega)
    refine h M2 ⟨by rw [a4, hn], fun i hi k hk => ?_⟩ a3 a5
    rw [hn] at hi
    unfold hisP
    rw [if_pos (by omega)]
    by_cases z : i = cnt
    · subst z
      rw [if_pos rfl]
      exact a1 k hk
    · rw [if_neg z, a2 _ (by omega)]
      exact h2 i (by omega) k hk
/-- the class before an edit: what beginEdit leaves -/
theorem c_beginEdit {fu : Nat} {post : Mm → Prop} {D : Nat → Nat} {cnt : Nat} {H : Nat → Nat → Nat} {len : Nat} {T : Nat → Nat} {M : Mm} (hf : 1300 ≤ fu) (hW : WF D cnt H len T) (hC : JC M D cnt H len T)
    (h : ∀ M', JC M' D (hisN cnt) (hisP cnt H D) len T → M' 105 5 = 0 → M' 123 5 = 0 → (∀ c, c < 11 → M' c = M c) → (∀ c, 93 ≤ c → c ≠ 105 → c ≠ 123 → M' c = M c) → post M') : f_SR_beginEdit fu post 0 M := by
  obtain ⟨h1, h2, h3, h4, h5⟩ := hC
  refine s_beginEdit hf hW.1.2.2.2.2.1 h1 h2 (fun M' a1 a2 a3 a4 a5 a6 => h M' ⟨a1, a2, ?_, fun i hi => ?_, Or.inl a3, Or.inl a4⟩ a3 a4 a5 a6)
  · rw [a6 93 (by omega) (by omega) (by omega)]; exact h3
  · rw [a6 94 (by omega) (by omega) (by omega)]; exact h4 i hi
theorem WF.push {D : Nat → Nat} {cnt : Nat} {H : Nat → Nat → Nat} {len : Nat} {T : Nat → Nat} (h : WF D cnt H len T) {D' : Nat → Nat} (h' : wfD D') : WF D' (hisN cnt) (hisP cnt H D) len T := by
  obtain ⟨h1, h2, h3, h4, h5⟩ := h
  refine ⟨h', fun i hi => ?_, by unfold hisN; split <;> omega, h4, h5⟩
  unfold hisN at hi
  unfold hisP
  split
  · rename_i q
    rw [if_pos q] at hi
    show wfD (if i = cnt then D else H i)
    split
    · exact h1
    · exact h2 i (by omega)
  · rename_i q
    rw [if_neg q] at hi
    show wfD (if i = 7 then D else H (i + 1))
    split
    · exact h1
    · exact h2 (i + 1) (by omega)
