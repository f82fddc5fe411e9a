/-! running the automaton -/
def oI (e : Int32) (o : Option Nat) : Int32 := match o with
  | none => e
  | some c => nI c
theorem rule_lt {D : Nat → Nat} (hw : wfD D) {i : Nat} (hi : i < 36) : D (2 + i) < 400 := by
  have := hw.1.2
  rcases hw.2.2.1 i hi with h | ⟨ty, tg, sy, h1, h2, h3, h4, h5⟩ <;> omega
theorem cns_lt {D : Nat → Nat} (hw : wfD D) {c k c' : Nat} (hc : c < 96) (hk : k < 6) (h : cns D c k = some c') : c' < 96 := by
  have hr := rok_un hw.1.2 (hw.2.2.1 (6 * (c / 16) + k) (by omega))
  have h6 := hw.1.2
  unfold cns at h
  generalize D (2 + (6 * (c / 16) + k)) = r at *
  split at h
  · cases h; omega
  · split at h
    · split at h
      · cases h
      · cases h; omega
    · split at h
      · split at h
        · cases h; omega
        · cases h
      · cases h
theorem c_after {fu : Nat} {post : Int32 → Mm → Prop} {s c k : Nat} {D : Nat → Nat} {M : Mm} (hs : kd s = 8) (hD : SitC M s D) (hw : wfD D) (hc : c < 96) (hk : k < 6) (h : post (oI (-1) (cns D c k)) M) : f_Au_after fu post (s + 1) (nI c) (nI k) M := by
  obtain ⟨l2, l3, l4, l5, l7, l9⟩ := lnS' hs
  have hi : 6 * (c / 16) + k < 36 := by omega
  have hr := rok_un hw.1.2 (hw.2.2.1 _ hi)
  have h6 := hw.1.2
  obtain ⟨e3, e45⟩ := hD.2.2.1 _ hi
  unfold f_Au_after
  refine br_f (nI_pos (by omega)) (br_f (nI_ge (b := 96) hc (by omega)) (s_isKindN hk (br_f (by decide) ?_)))
  intro y3 ey3 y4 ey4
  rw [show (16 : Int32) = nI 16 from rfl, pk_div (by omega) (by omega) (by omega), show (6 : Int32) = nI 6 from rfl, pk_mul, nI_add, Nat.mul_comm] at ey3
  rw [show (16 : Int32) = nI 16 from rfl, pk_rem (by omega) (by omega) (by omega)] at ey4
  rw [ey3, ey4, show s + 1 + 3 = s + 4 from rfl, show s + 1 + 2 = s + 3 from rfl, show s + 1 + 4 = s + 5 from rfl]
  refine s_at (by rw [l4]; exact hi) ?_
  intro y7 ey7
  refine s_at (by rw [l5]; exact hi) (s_at (by rw [l3]; exact hi) ?_)
  rw [e3]
  unfold cns at h
  generalize D (2 + (6 * (c / 16) + k)) = r at *
  rcases hr with ⟨r0, rt⟩ | ⟨r1, r3, rtg, rs⟩
  · rw [rt] at h ⊢
    rw [if_neg (by omega), if_neg (by omega), if_neg (by omega)] at h
    exact ⟨fun q => absurd q (by decide), fun q => absurd q (by decide), fun q => absurd q (by decide), fun _ _ _ => h⟩
  · obtain ⟨e4, e5⟩ := e45 (by omega)
    rw [e4, show (16 : Int32) = nI 16 from rfl, pk_mul] at ey7
    rw [e5, ey7]
    have hcase : r / 100 = 1 ∨ r / 100 = 2 ∨ r / 100 = 3 := by omega
    rcases hcase with t | t | t
    · rw [t] at h ⊢
      rw [if_pos rfl] at h
      refine ⟨fun _ => ?_, fun q => absurd q (by decide), fun q => absurd q (by decide), fun q => absurd rfl q⟩
      rw [nI_add, Nat.mul_comm]
      exact h
    · rw [t] at h ⊢
      rw [if_neg (by omega), if_pos rfl] at h
      refine ⟨fun q => absurd q (by decide), fun _ => ?_, fun q => absurd q (by decide), fun _ q => absurd rfl q⟩
      refine pk_le 8 (c % 16) (fun z => ?_) (fun z => ?_)
      · rw [if_pos (by omega)] at h; exact h
      · rw [if_neg (by omega)] at h
        rw [show (2 : Int32) = nI 2 from rfl, pk_mul, nI_add, nI_add, show r / 10 % 10 * 16 + c % 16 * 2 + r % 10 = 16 * (r / 10 % 10) + 2 * (c % 16) + r % 10 by omega]
        exact h
    · rw [t] at h ⊢
      rw [if_neg (by omega), if_neg (by omega), if_pos rfl] at h
      refine ⟨fun q => absurd q (by decide), fun q => absurd q (by decide), fun _ => ?_, fun _ _ q => absurd rfl q⟩
      refine pk_le (c % 16) 1 (fun z => ?_) (fun z => ?_)
      · rw [if_neg (by omega)] at h; exact h
      · rw [show (2 : Int32) = nI 2 from rfl, pk_rem (by omega) (by omega) (by omega), pk_div (by omega) (by omega) (by omega), nI_add]
        refine pk_eq (c % 16 % 2) (r % 10) (fun z2 => ?_) (fun z2 => ?_)
        · rw [if_pos ⟨z, z2⟩] at h
          rw [show r / 10 % 10 * 16 + c % 16 / 2 = 16 * (r / 10 % 10) + c % 16 / 2 by omega]
          exact h
        · rw [if_neg (by omega)] at h; exact h
theorem m_consume {fu : Nat} {post : Int32 → Mm → Prop} {c k : Nat} {D : Nat → Nat} {M : Mm} (hD : SitM M 146 0 D) (hw : wfD D) (hc : c < 96) (hk : k < 6) (h : post (oI (-9) (cns D c k)) M) : f_Md_consume fu post 145 (nI c) (nI k) M := by
  have hi : 6 * (c / 16) + k < 36 := by omega
  have hr := rok_un hw.1.2 (hw.2.2.1 _ hi)
  have hr4 := rule_lt hw hi
  have h6 := hw.1.2
  unfold f_Md_consume
  simp only [Nat.reduceAdd]
  rw [ln_M.1, show (16 : Int32) = nI 16 from rfl, pk_rem (by omega) (by omega) (by omega), pk_div (by omega) (by omega) (by omega), show (6 : Int32) = nI 6 from rfl, pk_mul, show (2 : Int32) = nI 2 from rfl, nI_add, nI_add, nI_clamp (by omega), hD.at (by omega), show 2 + 6 * (c / 16) + k = 2 + (6 * (c / 16) + k) by omega]
  refine ⟨vp_in_nI (by omega) (by omega), fun y2 e2 y3 e3 y4 e4 y5 e5 => ?_⟩
  unfold cns at h
  generalize D (2 + (6 * (c / 16) + k)) = r at *
  rw [e2, show (10 : Int32) = nI 10 from rfl, pk_rem (by omega) (by omega) (by omega)] at e4
  rw [e2, show (10 : Int32) = nI 10 from rfl, pk_div (by omega) (by omega) (by omega), pk_rem (by omega) (by omega) (by omega), pk_mul] at e5
  rw [e2, e3, e4, e5, show (100 : Int32) = nI 100 from rfl, pk_div (by omega) (by omega) (by omega)]
  rcases hr with ⟨r0, rt⟩ | ⟨r1, r3, rtg, rs⟩
  · rw [rt] at h ⊢
    rw [if_neg (by omega), if_neg (by omega), if_neg (by omega)] at h
    exact ⟨fun q => absurd q (by decide), fun q => absurd q (by decide), fun q => absurd q (by decide), fun _ _ _ => h⟩
  · have hcase : r / 100 = 1 ∨ r / 100 = 2 ∨ r / 100 = 3 := by omega
    rcases hcase with t | t | t
    · rw [t] at h ⊢
      rw [if_pos rfl] at h
      refine ⟨fun _ => ?_, fun q => absurd q (by decide), fun q => absurd q (by decide), fun q => absurd rfl q⟩
      rw [nI_add]
      exact h
    · rw [t] at h ⊢
      rw [if_neg (by omega), if_pos rfl] at h
      refine ⟨fun q => absurd q (by decide), fun _ => ?_, fun q => absurd q (by decide), fun _ q => absurd rfl q⟩
      refine pk_le (c % 16) 7 (fun z => ?_) (fun z => ?_)
      · rw [if_neg (by omega)] at h
        rw [pk_mul, nI_add, nI_add]
        exact h
      · rw [if_pos (by omega)] at h; exact h
    · rw [t] at h ⊢
      rw [if_neg (by omega), if_neg (by omega), if_pos rfl] at h
      refine ⟨fun q => absurd q (by decide), fun q => absurd q (by decide), fun _ => ?_, fun _ _ q => absurd rfl q⟩
      refine pk_le (c % 16) 1 (fun z => ?_) (fun z => ?_)
      · rw [if_neg (by omega)] at h; exact h
      · rw [pk_rem (by omega) (by omega) (by omega), pk_div (by omega) (by omega) (by omega), nI_add]
        refine pk_eq (c % 16 % 2) (r % 10) (fun z2 => ?_) (fun z2 => ?_)
        · rw [if_pos ⟨z, z2⟩] at h
          exact h
        · rw [if_neg (by omega)] at h; exact h
theorem c_isFinal {fu : Nat} {post : Int32 → Mm → Prop} {s c : Nat} {D : Nat → Nat} {M : Mm} (hs : kd s = 8) (hD : SitC M s D) (hc : c < 96) (h : post (if isF D c = true then 1 else 0) M) : f_Au_isFinal fu post (s + 1) (nI c) M := by
  unfold isF at h
  unfold f_Au_isFinal
  refine br_f (nI_pos (by omega)) (br_t ((nI_ltI (b := 96) (by omega) (by omega)).2 hc) ?_)
  rw [show (16 : Int32) = nI 16 from rfl, pk_rem (by omega) (by omega) (by omega), pk_div (by omega) (by omega) (by omega)]
  refine pk_eq (c % 16) 1 (fun z => ?_) (fun z => ?_)
  · rw [show s + 1 + 1 = s + 2 from rfl]
    refine s_at (by rw [(lnS' hs).1]; omega) ?_
    rw [hD.2.1 _ (by omega)]
    cases hb : (D 1).testBit (c / 16)
    · rw [hb] at h
      refine br_f (by decide) ?_
      simpa using h
    · rw [hb] at h
      refine br_t (by trivial) ?_
      simpa [z] using h
  · simpa [z] using h
theorem m_isFinal {fu : Nat} {post : Int32 → Mm → Prop} {c : Nat} {D : Nat → Nat} {M : Mm} (hD : SitM M 146 0 D) (hw : wfD D) (hc : c < 96) (h : post (if isF D c = true then 1 else 0) M) : f_Md_isFinal fu post 145 (nI c) M := by
  unfold isF at h
  unfold f_Md_isFinal
  simp only [Nat.reduceAdd]
  rw [show (16 : Int32) = nI 16 from rfl, pk_rem (by omega) (by omega) (by omega), pk_div (by omega) (by omega) (by omega), ln_M.1, hD.at (by omega), bit_look _ hw.2.1 _ (by omega)]
  refine pk_eq (c % 16) 1 (fun z => ⟨vp_in_nI (n := 1) (by omega) (by omega), ?_⟩) (fun z => ?_)
  · cases hb : (D 1).testBit (c / 16)
    · rw [hb] at h
      refine br_f (by decide) ?_
      simpa using h
    · rw [hb] at h
      refine br_t (by trivial) ?_
      simpa [z] using h
  · simpa [z] using h
theorem runD_spec {D : Nat → Nat} (hw : wfD D) : ∀ n p c, c < 96 → p + n ≤ 12 → p ≤ (runD D n p c).1 ∧ (runD D n p c).1 ≤ p + n ∧ (runD D n p c).2 < 96
  | 0, p, c, hc, _ => ⟨Nat.le_refl _, Nat.le_refl _, hc⟩
  | n + 1, p, c, hc, hp => by
    unfold runD
    cases h : cns D c (D (57 + p)) with
    | none => exact ⟨Nat.le_refl _, by show p ≤ _; omega, hc⟩
    | some c' =>
      have := runD_spec hw n (p + 1) c' (cns_lt hw hc (hw.2.2.2.2.2 p (by omega)) h) (by omega)
      exact ⟨by show _ ≤ (runD D n (p + 1) c').1; omega, by show (runD D n (p + 1) c').1 ≤ _; omega, this.2.2⟩
theorem runD_ok {D : Nat → Nat} (hw : wfD D) : ∀ n p c, okc D c → p + n ≤ 12 → okc D (runD D n p c).2
  | 0, p, c, hc, _ => hc
  | n + 1, p, c, hc, hp => by
    unfold runD
    cases h : cns D c (D (57 + p)) with
    | none => exact hc
    | some c' => exact runD_ok hw n (p + 1) c' (cns_ok hw hc (hw.2.2.2.2.2 p (by omega)) h).1 (by omega)
theorem m_run_loop {fu : Nat} {post : Int32 → Mm → Prop} {D : Nat → Nat} {e : Nat} (hw : wfD D) (he : e ≤ 12) : ∀ (kf p c : Nat) (M : Mm), e + 1 ≤ kf + p → p ≤ e → c < 96 → M 145 12 = nI c → SitM M 146 0 D →
    (∀ M', M' 145 12 = nI (runD D (e - p) p c).2 → (∀ k, k ≠ 12 → M' 145 k = M 145 k) → (∀ q, q ≠ 145 → M' q = M q) → post (nI (runD D (e - p) p c).1) M') → f_Md_run_8 fu post kf 145 (nI e) (nI p) M := by
  intro kf
  induction kf with
  | zero => intro p c M h1 h2; omega
  | succ kf ih =>
    intro p c M h1 h2 hc h12 hD h
    rw [f_Md_run_8]
    simp only [Nat.reduceAdd]
    refine pk_le e p (fun z => ?_) (fun z => ?_)
    · have e1 : e - p = 0 := by omega
      rw [e1] at h
      exact h M h12 (fun _ _ => rfl) (fun _ _ => rfl)
    · rw [ln_M.1, show (57 : Int32) = nI 57 from rfl, nI_add, nI_clamp (by omega), hD.at (by omega), h12]
      have hk : D (57 + p) < 6 := hw.2.2.2.2.2 p (by omega)
      refine ⟨vp_in_nI (by omega) (by omega), m_consume hD hw hc hk ?_⟩
      obtain ⟨n, hn⟩ : ∃ n, e - p = n + 1 := ⟨e - p - 1, by omega⟩
      rw [hn] at h
      unfold runD at h
      cases hq : cns D c (D (57 + p)) with
      | none =>
        rw [hq] at h
        exact br_t rfl (h M h12 (fun _ _ => rfl) (fun _ _ => rfl))
      | some c' =>
        rw [hq] at h
        have hc' := cns_lt hw hc hk hq
        refine br_f (fun q => ?_) ⟨vp_in_nI (by omega) (by omega), ?_⟩
        · exact nI_pos (n := c') (by omega) (by rw [show nI c' = (-9 : Int32) from q]; decide)
        · rw [hD.at (by omega), h12]
          refine m_consume hD hw hc hk ?_
          rw [hq]
          intro M7 e7 y ey
          rw [ey, nI_1]
          refine ih (p + 1) c' M7 (by omega) (by omega) hc' (by rw [e7, up_s]; rfl) (hD.keep (fun k _ => by rw [e7, up_c (by omega)])) (fun M' g1 g2 g3 => ?_)
          rw [show e - (p + 1) = n by omega] at g1 ⊢
          exact h M' g1 (fun k hk => by rw [g2 k hk, e7, up_k hk]) (fun q hq => by rw [g3 q hq, e7, up_c hq])
theorem m_run {fu : Nat} {post : Int32 → Mm → Prop} {D : Nat → Nat} {e p c : Nat} {M : Mm} (hf : 1300 ≤ fu) (hw : wfD D) (he : e ≤ 12) (hp : p ≤ e) (hc : c < 96) (hD : SitM M 146 0 D)
    (h : ∀ M', M' 145 12 = nI (runD D (e - p) p c).2 → (∀ k, k ≠ 12 → M' 145 k = M 145 k) → (∀ q, q ≠ 145 → M' q = M q) → post (nI (runD D (e - p) p c).1) M') : f_Md_run fu post 145 (nI p) (nI c) (nI e) M := by
  unfold f_Md_run
  intro M1 e1
  exact m_run_loop hw he fu p c M1 (by omega) hp hc (by rw [e1, up_s]) (hD.keep (fun k _ => by rw [e1, up_c (by omega)])) (fun M' g1 g2 g3 => h M' g1 (fun k hk => by rw [g2 k hk, e1, up_k hk]) (fun q hq => by rw [g3 q hq, e1, up_c hq]))
/-- whether the run from here is accepted -/
def acc (D : Nat → Nat) (p c : Nat) : Bool := decide ((runD D (D 56 - p) p c).1 = D 56) && isF D (runD D (D 56 - p) p c).2
theorem m_findError {fu : Nat} {post : Int32 → Mm → Prop} {D : Nat → Nat} {p c : Nat} {M : Mm} (hf : 1300 ≤ fu) (hw : wfD D) (hp : p ≤ D 56) (hc : c < 96) (hD : SitM M 146 0 D)
    (h : ∀ M', M' 145 12 = nI (runD D (D 56 - p) p c).2 → (∀ k, k ≠ 12 → M' 145 k = M 145 k) → (∀ q, q ≠ 145 → M' q = M q) → post (if acc D p c = true then -9 else nI (runD D (D 56 - p) p c).1) M') : f_Md_findError fu post 145 (nI p) (nI c) M := by
  have h12 := hw.2.2.2.2.1
  have v56 : vp_in 56 69 := vp_in_nI (n := 56) (by omega) (by omega)
  unfold f_Md_findError
  simp only [Nat.reduceAdd]
  rw [ln_M.1, hD.at (by omega)]
  refine ⟨v56, m_run hf hw h12 hp hc hD (fun M' g1 g2 g3 => ⟨v56, ?_⟩)⟩
  have sp := runD_spec hw (D 56 - p) p c hc (by omega)
  have hD' : SitM M' 146 0 D := hD.keep (fun k _ => by rw [g3 146 (by omega)])
  have hh := h M' g1 g2 g3
  unfold acc at hh
  rw [hD'.at (by omega), g1]
  refine pk_eq (runD D (D 56 - p) p c).1 (D 56) (fun z => ?_) (fun z => ?_)
  · refine m_isFinal hD' hw sp.2.2 ?_
    cases hb : isF D (runD D (D 56 - p) p c).2
    · rw [hb] at hh
      refine br_t rfl ?_
      simpa using hh
    · rw [hb] at hh
      refine br_f (by decide) ?_
      simpa [z] using hh
  · simpa [z] using hh
theorem c_run_loop {fu : Nat} {post : Mm → Prop} {D : Nat → Nat} {e : Nat} (hw : wfD D) (he : e ≤ D 56) : ∀ (kf p c : Nat) (M : Mm), e + 1 ≤ kf + p → p ≤ e → c < 96 → M 144 0 = nI p → M 144 1 = nI c → SitC M 1 D →
    (∀ M', M' 144 0 = nI (runD D (e - p) p c).1 → M' 144 1 = nI (runD D (e - p) p c).2 → (∀ q, q ≠ 144 → M' q = M q) → post M') → f_Cu_run_18 fu post kf 144 1 (nI e) (nI p) M := by
  have h12 := hw.2.2.2.2.1
  intro kf
  induction kf with
  | zero => intro p c M h1 h2; omega
  | succ kf ih =>
    intro p c M h1 h2 hc k0 k1 hD h
    rw [f_Cu_run_18]
    refine pk_le e p (fun z => ?_) (fun z => ?_)
    · have e1 : e - p = 0 := by omega
      rw [e1] at h
      exact h M k0 k1 (fun _ _ => rfl)
    · refine c_kindAt kd_1 hD h12 (by omega) ?_
      have hk : D (57 + p) < 6 := hw.2.2.2.2.2 p (by omega)
      rw [k1]
      refine c_after kd_1 hD hw hc hk ?_
      obtain ⟨n, hn⟩ : ∃ n, e - p = n + 1 := ⟨e - p - 1, by omega⟩
      rw [hn] at h
      unfold runD at h
      cases hq : cns D c (D (57 + p)) with
      | none =>
        rw [hq] at h
        exact br_f (show ¬ (0 : Int32) ≤ -1 by decide) (h M k0 k1 (fun _ _ => rfl))
      | some c' =>
        rw [hq] at h
        have hc' := cns_lt hw hc hk hq
        refine br_t (nI_pos' (n := c') (by omega)) ?_
        intro M5 e5 M6 e6 y ey
        rw [ey, nI_1]
        rw [nI_1] at e6
        refine ih (p + 1) c' M6 (by omega) (by omega) hc' (by rw [e6, up_s]) (by rw [e6, up_k (by omega), e5, up_s]; rfl) (hD.keep (fun q _ _ => by rw [e6, up_c (by omega), e5, up_c (by omega)])) (fun M' g1 g2 g3 => ?_)
        rw [show e - (p + 1) = n by omega] at g1 g2
        exact h M' g1 g2 (fun q hq => by rw [g3 q hq, e6, up_c hq, e5, up_c hq])
