/-! the operations that run the automaton -/
theorem JC.cur {M M' : Mm} {D : Nat → Nat} {cnt : Nat} {H : Nat → Nat → Nat} {len : Nat} {T : Nat → Nat} (h : JC M D cnt H len T) (k : ∀ c, c < 141 → M' c = M c) : JC M' D cnt H len T :=
  h.keep (fun c h1 _ _ _ => k c (by omega)) (by rw [k 93 (by omega)]) (by rw [k 105 (by omega)]; exact ⟨rfl, rfl⟩) (by rw [k 123 (by omega)]; exact ⟨rfl, rfl⟩)
theorem JM.cur {M M' : Mm} {D : Nat → Nat} {cnt : Nat} {H : Nat → Nat → Nat} {len : Nat} {T : Nat → Nat} (h : JM M D cnt H len T) (k : ∀ c, 145 < c → c < 150 → c ≠ 147 → M' c = M c) (k2 : M' 145 3 = M 145 3 ∧ M' 145 5 = M 145 5) : JM M' D cnt H len T :=
  h.keep (k 146 (by omega) (by omega) (by omega)) (k 148 (by omega) (by omega) (by omega)) (k 149 (by omega) (by omega) (by omega)) k2
theorem c_run {fu : Nat} {post : Mm → Prop} {D : Nat → Nat} {p c lim e : Nat} {M : Mm} (hf : 1300 ≤ fu) (hw : wfD D) (hD : SitC M 1 D) (k0 : M 144 0 = nI p) (k1 : M 144 1 = nI c) (hc : c < 96) (hl : lim ≤ 12) (he : e = min (D 56) lim) (hp : p ≤ e)
    (h : ∀ M', M' 144 0 = nI (runD D (e - p) p c).1 → M' 144 1 = nI (runD D (e - p) p c).2 → (∀ q, q ≠ 144 → M' q = M q) → post M') : f_Cu_run fu post 144 1 (nI lim) M := by
  have h12 := hw.2.2.2.2.1
  unfold f_Cu_run
  simp only [Nat.reduceAdd]
  intro y1 e1 y2 e2
  have h9 : M 9 1 = nI (D 56) := hD.2.2.2.2.1
  have e3 : y1 = nI e := by
    rw [e1, h9, he]
    by_cases q : D 56 < lim
    · rw [if_pos ((nI_ltI (by omega) (by omega)).2 q), Nat.min_eq_left (by omega)]
    · rw [if_neg (fun z => q ((nI_ltI (by omega) (by omega)).1 z)), Nat.min_eq_right (by omega)]
  rw [e3, e2, k0]
  exact c_run_loop hw (by omega) fu p c M (by omega) hp hc k0 k1 hD h
theorem c_isDone {fu : Nat} {post : Int32 → Mm → Prop} {D : Nat → Nat} {p c : Nat} {M : Mm} (hw : wfD D) (hD : SitC M 1 D) (k0 : M 144 0 = nI p) (k1 : M 144 1 = nI c) (hc : c < 96) (hp : p ≤ 12)
    (h : post (if (decide (p = D 56) && isF D c) = true then 1 else 0) M) : f_Cu_isDone fu post 144 1 M := by
  have h12 := hw.2.2.2.2.1
  have h9 : M 9 1 = nI (D 56) := hD.2.2.2.2.1
  unfold f_Cu_isDone
  simp only [Nat.reduceAdd]
  rw [k0, h9, k1]
  refine pk_eq p (D 56) (fun z => ?_) (fun z => ?_)
  · refine c_isFinal kd_1 hD hc ?_
    cases hb : isF D c
    · rw [hb] at h
      refine br_t rfl ?_
      simpa using h
    · rw [hb] at h
      refine br_f (by decide) ?_
      simpa [z] using h
  · simpa [z] using h
theorem c_findError {fu : Nat} {post : Int32 → Mm → Prop} {D : Nat → Nat} {M : Mm} (hf : 1300 ≤ fu) (hw : wfD D) (hD : SitC M 1 D)
    (h : ∀ M', M' 144 0 = nI (runD D (D 56) 0 1).1 → M' 144 1 = nI (runD D (D 56) 0 1).2 → (∀ q, q ≠ 144 → M' q = M q) → post (if acc D 0 1 = true then 0 else 1) M') : f_SR_findError fu post 0 M := by
  have h12 := hw.2.2.2.2.1
  unfold f_SR_findError f_Cu_toStart
  simp only [Nat.reduceAdd]
  intro M1 e1 M2 e2
  have k2 : ∀ q, q ≠ 144 → M2 q = M q := fun q hq => by rw [e2, up_c hq, e1, up_c hq]
  have hD2 : SitC M2 1 D := hD.keep (fun q _ _ => k2 q (by omega))
  refine c_run (e := D 56) (p := 0) (c := 1) (lim := 12) hf hw hD2 (by rw [e2, up_k (by omega), e1, up_s]; rfl) (by rw [e2, up_s]; rfl) (by omega) (by omega) (by omega) (by omega) (fun M3 g1 g2 g3 => ?_)
  have sp := runD_spec hw (D 56) 0 1 (by omega) (by omega)
  rw [show D 56 - 0 = D 56 by omega] at g1 g2
  refine c_isDone hw (hD2.keep (fun q _ _ => g3 q (by omega))) g1 g2 sp.2.2 (by omega) ?_
  have hh := h M3 g1 g2 (fun q hq => by rw [g3 q hq, k2 q hq])
  unfold acc at hh
  rw [show D 56 - 0 = D 56 by omega] at hh
  cases hb : (decide ((runD D (D 56) 0 1).1 = D 56) && isF D (runD D (D 56) 0 1).2)
  · rw [hb] at hh
    exact br_t rfl (by simpa using hh)
  · rw [hb] at hh
    exact br_f (by decide) (by simpa using hh)
theorem op_k16 {fu : Nat} (hf : 1300 ≤ fu) : op_16 fu JR := by
  rintro M ⟨D, cnt, H, len, T, hW, hC, hM⟩ _
  have h12 := hW.1.2.2.2.2.1
  have sp := runD_spec hW.1 (D 56) 0 1 (by omega) (by omega)
  unfold f_SR_errorPosition
  refine c_findError hf hW.1 hC.1 (fun M1 g1 g2 g3 => ?_)
  have hC1 := hC.cur (M' := M1) (fun c hc => g3 c (by omega))
  have hM1 := hM.frC (M' := M1) (fun c hc => g3 c (by omega))
  have hm : ∀ r : Int32, r = (if acc D 0 1 = true then -9 else nI (runD D (D 56) 0 1).1) → f_Md_errorPosition fu (fun r2 M2 => r = r2 ∧ JR M2) 145 M1 := fun r hr => by
    unfold f_Md_errorPosition
    refine m_findError (p := 0) (c := 1) hf hW.1 (by omega) (by omega) hM1.1 (fun M2 a1 a2 a3 => ?_)
    exact ⟨hr, mkR hW (hC1.frM (fun c hc => a3 c (by omega))) (hM1.cur (fun c _ _ _ => a3 c (by omega)) ⟨a2 3 (by omega), a2 5 (by omega)⟩)⟩
  simp only [Nat.reduceAdd]
  cases hb : acc D 0 1
  · exact br_f (show ¬ (1 : Int32) = 0 by decide) (hm _ (by rw [hb, g1]; rfl))
  · exact br_t (by rfl) (hm _ (by rw [hb]; rfl))
theorem c_runFirst {fu : Nat} {post : Int32 → Mm → Prop} {D : Nat → Nat} {x : Int32} {M : Mm} (hf : 1300 ≤ fu) (hw : wfD D) (hD : SitC M 1 D)
    (h0 : (¬ ∃ n, 0 ≤ n ∧ n ≤ D 56 ∧ x = nI n) → post (-1) M)
    (h1 : ∀ n, n ≤ D 56 → x = nI n → ∀ M', M' 144 0 = nI (runD D n 0 1).1 → M' 144 1 = nI (runD D n 0 1).2 → (∀ q, q ≠ 144 → M' q = M q) → post (if n ≤ (runD D n 0 1).1 then 0 else -2) M') : f_SR_runFirst fu post 0 x M := by
  have h12 := hw.2.2.2.2.1
  have h9 : M 9 1 = nI (D 56) := hD.2.2.2.2.1
  unfold f_SR_runFirst
  simp only [Nat.reduceAdd]
  rw [h9]
  refine ⟨fun q => h0 ?_, fun q => ?_⟩
  · rintro ⟨n, _, hn, rfl⟩
    exact nI_pos (by omega) q
  obtain ⟨n, hn, rfl⟩ := nI_of q
  refine pk_le n (D 56) (fun z => ?_) (fun z => h0 ?_)
  rotate_left
  · rintro ⟨n', _, hn', e⟩
    rw [nI_eq hn (by omega)] at e; omega
  unfold f_Cu_toStart
  intro M1 e1 M2 e2
  have k2 : ∀ q, q ≠ 144 → M2 q = M q := fun q hq => by rw [e2, up_c hq, e1, up_c hq]
  have hD2 : SitC M2 1 D := hD.keep (fun q _ _ => k2 q (by omega))
  refine c_run (e := n) (p := 0) (c := 1) (lim := n) hf hw hD2 (by rw [e2, up_k (by omega), e1, up_s]; rfl) (by rw [e2, up_s]; rfl) (by omega) (by omega) (by omega) (by omega) (fun M3 g1 g2 g3 => ?_)
  rw [show n - 0 = n by omega] at g1 g2
  have sp := runD_spec hw n 0 1 (by omega) (by omega)
  have hh := h1 n z rfl M3 g1 g2 (fun q hq => by rw [g3 q hq, k2 q hq])
  rw [g1]
  refine pk_le n (runD D n 0 1).1 (fun z2 => ?_) (fun z2 => ?_)
  · rw [if_pos z2] at hh; exact hh
  · rw [if_neg (by omega)] at hh; exact hh
theorem m_runTokens {fu : Nat} {post : Int32 → Mm → Prop} {D : Nat → Nat} {x : Int32} {M : Mm} (hf : 1300 ≤ fu) (hw : wfD D) (hD : SitM M 146 0 D)
    (h0 : (¬ ∃ n, 0 ≤ n ∧ n ≤ D 56 ∧ x = nI n) → post (-1) M)
    (h1 : ∀ n, n ≤ D 56 → x = nI n → ∀ M', M' 145 12 = nI (runD D n 0 1).2 → (∀ k, k ≠ 12 → M' 145 k = M 145 k) → (∀ q, q ≠ 145 → M' q = M q) → post (if n ≤ (runD D n 0 1).1 then 0 else -2) M') : f_Md_runTokens fu post 145 x M := by
  have h12 := hw.2.2.2.2.1
  unfold f_Md_runTokens
  simp only [Nat.reduceAdd]
  rw [ln_M.1, hD.at (by omega)]
  refine ⟨vp_in_nI (n := 56) (by omega) (by omega), s_in (a := 0) (by omega) (by omega) (fun n _ hn e => br_f (by decide) ?_) (fun q => br_t rfl (h0 q))⟩
  rw [e]
  refine m_run (p := 0) (c := 1) hf hw (by omega) (by omega) (by omega) hD (fun M3 g1 g2 g3 => ?_)
  rw [show n - 0 = n by omega] at g1 ⊢
  have sp := runD_spec hw n 0 1 (by omega) (by omega)
  have hh := h1 n hn e M3 g1 g2 g3
  refine pk_le n (runD D n 0 1).1 (fun z2 => ?_) (fun z2 => ?_)
  · rw [if_pos z2] at hh; exact hh
  · rw [if_neg (by omega)] at hh; exact hh
theorem op_k17 {fu : Nat} (hf : 1300 ≤ fu) : op_17 fu JR := by
  rintro M ⟨D, cnt, H, len, T, hW, hC, hM⟩ x
  have h12 := hW.1.2.2.2.2.1
  unfold f_SR_stateAfter
  refine c_runFirst hf hW.1 hC.1 (fun q => br_f (by decide) ?_) (fun n hn e M1 g1 g2 g3 => ?_)
  · unfold f_Md_stateAfter
    exact m_runTokens hf hW.1 hM.1 (fun _ => br_f (by decide) ⟨rfl, mkR hW hC hM⟩) (fun n hn e => absurd ⟨n, by omega, hn, e⟩ q)
  · have sp := runD_spec hW.1 n 0 1 (by omega) (by omega)
    have hC1 := hC.cur (M' := M1) (fun c hc => g3 c (by omega))
    have hM1 := hM.frC (M' := M1) (fun c hc => g3 c (by omega))
    have hm : ∀ r : Int32, r = (if n ≤ (runD D n 0 1).1 then nI (runD D n 0 1).2 / 16 else -2) → f_Md_stateAfter fu (fun r2 M2 => r = r2 ∧ JR M2) 145 x M1 := fun r hr => by
      unfold f_Md_stateAfter
      refine m_runTokens hf hW.1 hM1.1 (fun q => absurd ⟨n, by omega, hn, e⟩ q) (fun n' hn' e' M2 a1 a2 a3 => ?_)
      have e1 : n' = n := by rw [e', nI_eq (by omega) (by omega)] at e; exact e
      rw [e1] at a1 ⊢
      have hJ : JR M2 := mkR hW (hC1.frM (fun c hc => a3 c (by omega))) (hM1.cur (fun c _ _ _ => a3 c (by omega)) ⟨a2 3 (by omega), a2 5 (by omega)⟩)
      by_cases z : n ≤ (runD D n 0 1).1
      · rw [if_pos z] at hr ⊢
        exact br_t (by decide) ⟨by rw [hr, a1], hJ⟩
      · rw [if_neg z] at hr ⊢
        exact br_f (by decide) ⟨hr, hJ⟩
    by_cases z : n ≤ (runD D n 0 1).1
    · rw [if_pos z]
      refine br_t (by decide) (hm _ ?_)
      rw [if_pos z]
      simp only [Nat.reduceAdd]
      rw [g2]
    · rw [if_neg z]
      exact br_f (by decide) (hm _ (by rw [if_neg z]))
def dep (s : Nat) : Nat := if s ≤ 1 then 0 else if s ≤ 3 then 1 else if s ≤ 7 then 2 else 3
theorem c_depthOf {fu : Nat} {post : Int32 → Mm → Prop} {s : Nat} {M : Mm} (hf : 1300 ≤ fu) (hs : s < 16) (h : post (nI (dep s)) M) : f_SR_depthOf fu post (nI s) M := by
  obtain ⟨n, rfl⟩ : ∃ n, fu = n + 6 := ⟨fu - 6, by omega⟩
  unfold dep at h
  unfold f_SR_depthOf
  rw [f_SR_depthOf_4]
  refine pk_lt s 2 (fun z => ?_) (fun z => pk_le 16 2 (fun z2 => absurd z2 (by omega)) (fun _ y1 e1 y2 e2 => ?_))
  · rw [if_pos (by omega)] at h; exact h
  rw [e1, e2, f_SR_depthOf_4]
  refine pk_lt s 4 (fun z => ?_) (fun z => pk_le 16 4 (fun z2 => absurd z2 (by omega)) (fun _ y1 e1 y2 e2 => ?_))
  · rw [if_neg (by omega), if_pos (by omega)] at h; exact h
  rw [e1, e2, f_SR_depthOf_4]
  refine pk_lt s 8 (fun z => ?_) (fun z => pk_le 16 8 (fun z2 => absurd z2 (by omega)) (fun _ y1 e1 y2 e2 => ?_))
  · rw [if_neg (by omega), if_neg (by omega), if_pos (by omega)] at h; exact h
  rw [e1, e2, f_SR_depthOf_4]
  refine pk_lt s 16 (fun z => ?_) (fun z => absurd z (by omega))
  rw [if_neg (by omega), if_neg (by omega), if_neg (by omega)] at h; exact h
theorem m_depth {fu : Nat} {post : Int32 → Mm → Prop} {c : Nat} {M : Mm} (hc : c < 96) (h : post (nI (dep (c % 16))) M) : f_Md_depth fu post (nI c) M := by
  unfold dep at h
  unfold f_Md_depth
  intro y e
  rw [e, show (16 : Int32) = nI 16 from rfl, pk_rem (by omega) (by omega) (by omega)]
  refine pk_le (c % 16) 7 (fun z1 => pk_le (c % 16) 3 (fun z2 => pk_le (c % 16) 1 (fun z3 => ?_) (fun z3 => ?_)) (fun z2 => ?_)) (fun z1 => ?_)
  · rw [if_pos (by omega)] at h; exact h
  · rw [if_neg (by omega), if_pos (by omega)] at h; exact h
  · rw [if_neg (by omega), if_neg (by omega), if_pos (by omega)] at h; exact h
  · rw [if_neg (by omega), if_neg (by omega), if_neg (by omega)] at h; exact h
theorem op_k18 {fu : Nat} (hf : 1300 ≤ fu) : op_18 fu JR := by
  rintro M ⟨D, cnt, H, len, T, hW, hC, hM⟩ x
  have h12 := hW.1.2.2.2.2.1
  unfold f_SR_depthAfter
  refine c_runFirst hf hW.1 hC.1 (fun q => br_f (by decide) ?_) (fun n hn e M1 g1 g2 g3 => ?_)
  · unfold f_Md_depthAfter
    exact m_runTokens hf hW.1 hM.1 (fun _ => br_f (by decide) ⟨rfl, mkR hW hC hM⟩) (fun n hn e => absurd ⟨n, by omega, hn, e⟩ q)
  · have sp := runD_spec hW.1 n 0 1 (by omega) (by omega)
    have hC1 := hC.cur (M' := M1) (fun c hc => g3 c (by omega))
    have hM1 := hM.frC (M' := M1) (fun c hc => g3 c (by omega))
    have hm : ∀ r : Int32, r = (if n ≤ (runD D n 0 1).1 then nI (dep ((runD D n 0 1).2 % 16)) else -2) → f_Md_depthAfter fu (fun r2 M2 => r = r2 ∧ JR M2) 145 x M1 := fun r hr => by
      unfold f_Md_depthAfter
      refine m_runTokens hf hW.1 hM1.1 (fun q => absurd ⟨n, by omega, hn, e⟩ q) (fun n' hn' e' M2 a1 a2 a3 => ?_)
      have e1 : n' = n := by rw [e', nI_eq (by omega) (by omega)] at e; exact e
      rw [e1] at a1 ⊢
      have hJ : JR M2 := mkR hW (hC1.frM (fun c hc => a3 c (by omega))) (hM1.cur (fun c _ _ _ => a3 c (by omega)) ⟨a2 3 (by omega), a2 5 (by omega)⟩)
      by_cases z : n ≤ (runD D n 0 1).1
      · rw [if_pos z] at hr ⊢
        refine br_t (by decide) ?_
        rw [a1]
        exact m_depth sp.2.2 ⟨hr, hJ⟩
      · rw [if_neg z] at hr ⊢
        exact br_f (by decide) ⟨hr, hJ⟩
    by_cases z : n ≤ (runD D n 0 1).1
    · rw [if_pos z]
      refine br_t (by decide) ?_
      simp only [Nat.reduceAdd]
      rw [g2, show (16 : Int32) = nI 16 from rfl, pk_rem (by omega) (by omega) (by omega)]
      exact c_depthOf hf (by omega) (hm _ (by rw [if_pos z]))
    · rw [if_neg z]
      exact br_f (by decide) (hm _ (by rw [if_neg z]))
/-- the kinds that are legal, as bits -/
def msk (D : Nat → Nat) (c : Nat) : Nat → Int32
  | 0 => 0
  | n + 1 => if cns D c n = none then msk D c n else msk D c n ||| (1 <<< (nI n &&& 31))
theorem op_k19 {fu : Nat} (hf : 1300 ≤ fu) : op_19 fu JR := by
  rintro M ⟨D, cnt, H, len, T, hW, hC, hM⟩ _
  have h12 := hW.1.2.2.2.2.1
  have sp := runD_spec hW.1 (D 56) 0 1 (by omega) (by omega)
  unfold f_SR_expectedKinds
  refine c_findError hf hW.1 hC.1 (fun M1 g1 g2 g3 => ?_)
  have hC1 := hC.cur (M' := M1) (fun c hc => g3 c (by omega))
  have hM1 := hM.frC (M' := M1) (fun c hc => g3 c (by omega))
  have hm : ∀ r : Int32, r = (if acc D 0 1 = true then -2 else msk D (runD D (D 56) 0 1).2 6) → f_Md_expectedKinds fu (fun r2 M2 => r = r2 ∧ JR M2) 145 M1 := fun r hr => by
    unfold f_Md_expectedKinds
    refine m_findError (p := 0) (c := 1) hf hW.1 (by omega) (by omega) hM1.1 (fun M2 a1 a2 a3 => ?_)
    have hJ : JR M2 := mkR hW (hC1.frM (fun c hc => a3 c (by omega))) (hM1.cur (fun c _ _ _ => a3 c (by omega)) ⟨a2 3 (by omega), a2 5 (by omega)⟩)
    have hD2 : SitM M2 146 0 D := hM1.1.keep (fun k _ => by rw [a3 146 (by omega)])
    rw [show D 56 - 0 = D 56 by omega] at a1 ⊢
    cases hb : acc D 0 1
    · rw [hb] at hr
      refine br_f (fun q => ?_) ?_
      · exact nI_pos (n := (runD D (D 56) 0 1).1) (by omega) (by rw [show nI (runD D (D 56) 0 1).1 = (-9 : Int32) from q]; decide)
      · have lp : ∀ kf n, 7 ≤ kf + n → n ≤ 6 → f_Md_expectedKinds_18 fu (fun r2 M2 => r = r2 ∧ JR M2) kf 145 (msk D (runD D (D 56) 0 1).2 n) (nI n) M2 := by
          intro kf
          induction kf with
          | zero => intro n h1 h2; omega
          | succ kf ih =>
            intro n h1 h2
            rw [f_Md_expectedKinds_18]
            refine pk_le 6 n (fun z => ⟨by rw [hr, show n = 6 by omega]; rfl, hJ⟩) (fun z => ?_)
            rw [a1]
            refine m_consume hD2 hW.1 sp.2.2 z ?_
            have hi := ih (n + 1) (by omega) (by omega)
            unfold f_Md_expectedKinds_46
            rw [msk] at hi
            cases hq : cns D (runD D (D 56) 0 1).2 n with
            | none =>
              rw [hq, if_pos rfl] at hi
              refine br_t rfl (fun y1 e1 y2 e2 => ?_)
              rw [e1, e2, nI_1, Int32.or_zero]
              exact hi
            | some c' =>
              rw [hq, if_neg (by intro q; cases q)] at hi
              refine br_f (fun q => ?_) (fun y1 e1 y2 e2 => ?_)
              · exact nI_pos (n := c') (by have := cns_lt hW.1 sp.2.2 z hq; omega) (by rw [show nI c' = (-9 : Int32) from q]; decide)
              · rw [e1, e2, nI_1]
                exact hi
        exact lp fu 0 (by omega) (by omega)
    · rw [hb] at hr
      exact br_t rfl ⟨by rw [hr]; rfl, hJ⟩
  simp only [Nat.reduceAdd]
  cases hb : acc D 0 1
  · rw [hb] at hm
    refine br_f (show ¬ (1 : Int32) = 0 by decide) ?_
    have lp : ∀ kf n, 7 ≤ kf + n → n ≤ 6 → f_SR_expectedKinds_14 fu (fun r1 M1 => f_Md_expectedKinds fu (fun r2 M2 => r1 = r2 ∧ JR M2) 145 M1) kf 0 (msk D (runD D (D 56) 0 1).2 n) (nI n) M1 := by
      intro kf
      induction kf with
      | zero => intro n h1 h2; omega
      | succ kf ih =>
        intro n h1 h2
        rw [f_SR_expectedKinds_14]
        simp only [Nat.reduceAdd]
        refine pk_le 6 n (fun z => hm _ (by rw [show n = 6 by omega]; rfl)) (fun z => ?_)
        rw [g2]
        refine c_after kd_1 hC1.1 hW.1 sp.2.2 z ?_
        have hi := ih (n + 1) (by omega) (by omega)
        rw [msk] at hi
        cases hq : cns D (runD D (D 56) 0 1).2 n with
        | none =>
          rw [hq, if_pos rfl] at hi
          refine br_t (show (-1 : Int32) < 0 by decide) (fun y2 e2 => ?_)
          rw [e2, nI_1]
          exact hi
        | some c' =>
          rw [hq, if_neg (by intro q; cases q)] at hi
          refine br_f (nI_pos (n := c') (by have := cns_lt hW.1 sp.2.2 z hq; omega)) (fun y1 e1 y2 e2 => ?_)
          rw [e1, e2, nI_1]
          exact hi
    exact lp fu 0 (by omega) (by omega)
  · rw [hb] at hm
    exact br_t (by rfl) (hm _ rfl)
