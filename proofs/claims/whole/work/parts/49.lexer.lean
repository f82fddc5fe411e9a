/-! the model's lexer -/
def wcf (T : Nat → Nat) : Nat → Nat → Nat
  | 0, _ => 0
  | n + 1, k => (T k - 96) + 32 * wcf T n (k + 1)
def lxc (T : Nat → Nat) (len s : Nat) : Nat := if s = len then 1000 else if isL (T s) = true then 1001 else T s
def wcd (T : Nat → Nat) (len s : Nat) : Nat := if s < len ∧ isL (T s) = true ∧ lr T len s - s < 8 then wcf T (lr T len s - s) s else 0
def frN (M M' : Mm) : Prop := (∀ c, c ≠ 145 → M' c = M c) ∧ ∀ k, k ≠ 6 → k ≠ 7 → k ≠ 8 → k ≠ 9 → k ≠ 24 → M' 145 k = M 145 k
theorem frN.trans {M M1 M2 : Mm} (h : frN M M1) (h2 : frN M1 M2) : frN M M2 := ⟨fun c a => (h2.1 c a).trans (h.1 c a), fun k a b c d e => (h2.2 k a b c d e).trans (h.2 k a b c d e)⟩
theorem TxM.fr {M M' : Mm} {len : Nat} {T : Nat → Nat} (h : TxM M len T) (k : frN M M') : TxM M' len T := ⟨by rw [k.2 5 (by omega) (by omega) (by omega) (by omega) (by omega)]; exact h.1, fun i hi => by rw [k.1 149 (by omega)]; exact h.2 i hi⟩
theorem isL_iff {c : Nat} : isL c = true ↔ 97 ≤ c ∧ c ≤ 122 := by
  unfold isL
  simp
theorem m_isLetter {fu : Nat} {post : Int32 → Mm → Prop} {len i : Nat} {T : Nat → Nat} {M : Mm} (hl : len ≤ 150) (hT : TxM M len T) (hi : i ≤ len) (h6 : M 145 6 = nI i) (h1 : i < len → isL (T i) = true → post 1 M) (h0 : ¬ (i < len ∧ isL (T i) = true) → post 0 M) (hch : ∀ i, i < len → T i < 256) : f_Md_isLetter fu post 145 M := by
  unfold f_Md_isLetter
  simp only [Nat.reduceAdd]
  rw [h6, hT.1]
  refine pk_le len i (fun z => h0 (fun y => by omega)) (fun z => ?_)
  have ht := hch i z
  rw [ln_M.2.2.2.1, nI_clamp (by omega), hT.2 i z]
  refine ⟨vp_in_nI (by omega) (by omega), s_in (a := 97) (b := 122) (by omega) (by omega) (fun k a b e => br_f (by decide) ?_) (fun q => br_t rfl (h0 ?_))⟩
  · have : T i = k := (nI_eq (by omega) (by omega)).1 e
    exact h1 z (isL_iff.2 (by omega))
  · rintro ⟨_, y⟩
    have := isL_iff.1 y
    exact q ⟨T i, this.1, this.2, rfl⟩
theorem m_word {fu : Nat} {post : Mm → Prop} {len s e : Nat} {T : Nat → Nat} (hl : len ≤ 150) (hse : s ≤ e) (he : e ≤ len) (hL : ∀ j, s ≤ j → j < e → isL (T j) = true) (h8 : e - s < 8) : ∀ (kf j : Nat) (M : Mm), j + 1 ≤ kf → s + j ≤ e → TxM M len T → M 145 6 = nI e → M 145 8 = nI s → mkL (M 145 24) (M 145 9) = lN (wcf T (e - (s + j)) (s + j)) →
    (∀ M', mkL (M' 145 24) (M' 145 9) = lN (wcf T (e - s) s) → (∀ c, c ≠ 145 → M' c = M c) → (∀ k, k ≠ 9 → k ≠ 24 → M' 145 k = M 145 k) → post M') → f_Md_next_135 fu post kf 145 (dI (s + j)) M := by
  intro kf
  induction kf with
  | zero => intro j M h1; omega
  | succ kf ih =>
    intro j M h1 h2 hT h6 h8' hw h
    rw [f_Md_next_135]
    simp only [Nat.reduceAdd]
    rw [h6, h8', pk_sub hse]
    cases j with
    | zero =>
      refine br_t ?_ (h M hw (fun _ _ => rfl) (fun _ _ _ => rfl))
      cases s with
      | zero => rw [show 0 + 0 = 0 from rfl, dI_0]; decide
      | succ s => rw [show s + 1 + 0 = s + 1 from rfl, dI_s]; exact (nI_ltI (by omega) (by omega)).2 (by omega)
    | succ j =>
      rw [show s + (j + 1) = (s + j) + 1 by omega, dI_s]
      have hlt := isL_iff.1 (hL (s + j) (by omega) (by omega))
      refine br_f (fun y => by have := (nI_ltI (by omega) (by omega)).1 y; omega) (br_f (nI_ge (b := 8) h8 (by omega)) ?_)
      rw [ln_M.2.2.2.1, nI_clamp (by omega), hT.2 (s + j) (by omega), hw, nI_l (by omega), show (32 : Int64) = lN 32 from rfl, lN_mul, lN_add, show (97 : Int64) = lN 97 from rfl, lN_sub (by omega), lN_1]
      refine ⟨vp_in_nI (by omega) (by omega), fun M2 e2 y ey => ?_⟩
      rw [ey, dI_m]
      have ew : 32 * wcf T (e - (s + (j + 1))) (s + (j + 1)) + T (s + j) - 97 + 1 = wcf T (e - (s + j)) (s + j) := by
        obtain ⟨n, hn⟩ : ∃ n, e - (s + j) = n + 1 := ⟨e - (s + j) - 1, by omega⟩
        rw [hn, wcf, show e - (s + (j + 1)) = n by omega, show s + (j + 1) = s + j + 1 by omega]
        omega
      rw [ew] at e2
      refine ih j M2 (by omega) (by omega) ⟨by rw [e2, up_k (by omega), up_k (by omega)]; exact hT.1, fun i hi => by rw [e2, up_c (by omega), up_c (by omega)]; exact hT.2 i hi⟩ (by rw [e2, up_k (by omega), up_k (by omega)]; exact h6) (by rw [e2, up_k (by omega), up_k (by omega)]; exact h8') ?_ (fun M' a1 a2 a3 => h M' a1 (fun c hc => by rw [a2 c hc, e2, up_c hc, up_c hc]) (fun k b1 b2 => by rw [a3 k b1 b2, e2, up_k b1, up_k b2]))
      rw [e2, up_k (show (24 : Nat) ≠ 9 by omega), up_s, up_s, mkL_hl]
theorem m_next {fu : Nat} {post : Mm → Prop} {len i : Nat} {T : Nat → Nat} {M : Mm} (hf : 1300 ≤ fu) (hl : len ≤ 150) (hch : ∀ i, i < len → T i < 256) (hT : TxM M len T) (hi : i ≤ len) (h6 : M 145 6 = nI i)
    (h : ∀ M', M' 145 8 = nI (sk T len i) → M' 145 6 = nI (exn T len (sk T len i)) → M' 145 7 = nI (lxc T len (sk T len i)) → mkL (M' 145 24) (M' 145 9) = lN (wcd T len (sk T len i)) → frN M M' → post M') : f_Md_next fu post 145 M := by
  have wrun : ∀ f kf s e (M1 : Mm), len - e ≤ f → f + 1 ≤ kf → s ≤ e → e ≤ len → (∀ j, s ≤ j → j < e → isL (T j) = true) → TxM M1 len T → M1 145 6 = nI e → M1 145 8 = nI s → mkL (M1 145 24) (M1 145 9) = lN 0 → (∀ M', M' 145 6 = nI (lrn T len f e) → mkL (M' 145 24) (M' 145 9) = lN (if lrn T len f e - s < 8 then wcf T (lrn T len f e - s) s else 0) → (∀ c, c ≠ 145 → M' c = M1 c) → (∀ k, k ≠ 6 → k ≠ 9 → k ≠ 24 → M' 145 k = M1 145 k) → post M') → f_Md_next_108 fu post kf 145 M1 := by
    have fin : ∀ s e (M1 : Mm), s ≤ e → e ≤ len → (∀ j, s ≤ j → j < e → isL (T j) = true) → TxM M1 len T → M1 145 6 = nI e → M1 145 8 = nI s → mkL (M1 145 24) (M1 145 9) = lN 0 → (∀ M', M' 145 6 = nI e → mkL (M' 145 24) (M' 145 9) = lN (if e - s < 8 then wcf T (e - s) s else 0) → (∀ c, c ≠ 145 → M' c = M1 c) → (∀ k, k ≠ 6 → k ≠ 9 → k ≠ 24 → M' 145 k = M1 145 k) → post M') → f_Md_next_135 fu post fu 145 (nI e - 1) M1 := by
      intro s e M1 a1 a2 hL hT1 b6 b8 bw hh
      have e1 : nI e - 1 = dI e := by
        cases e with
        | zero => rfl
        | succ e => rw [dI_s]; exact nI_p1 (by omega)
      rw [e1]
      by_cases z : e - s < 8
      · rw [show e = s + (e - s) by omega]
        refine m_word hl a1 a2 hL z fu (e - s) M1 (by omega) (by omega) hT1 b6 b8 (by rw [show e - (s + (e - s)) = 0 by omega]; exact bw) (fun M' c1 c2 c3 => hh M' (by rw [c3 6 (by omega) (by omega)]; exact b6) (by rw [if_pos z]; exact c1) c2 (fun k _ d2 d3 => c3 k d2 d3))
      · obtain ⟨n, rfl⟩ : ∃ n, fu = n + 1 := ⟨fu - 1, by omega⟩
        rw [f_Md_next_135, b6, b8, pk_sub a1]
        have fin2 := hh M1 b6 (by rw [if_neg z]; exact bw) (fun _ _ => rfl) (fun _ _ _ _ => rfl)
        refine ⟨fun _ => fin2, fun _ => pk_le 8 (e - s) (fun _ => fin2) (fun y => by omega)⟩
    intro f
    induction f with
    | zero =>
      intro kf s e M1 a1 a2 a3 a4 hL hT1 b6 b8 bw hh
      obtain ⟨kf, rfl⟩ : ∃ k, kf = k + 1 := ⟨kf - 1, by omega⟩
      rw [f_Md_next_108]
      refine m_isLetter hl hT1 a4 b6 (fun y _ => by omega) (fun _ => br_t rfl (fun y ey => ?_)) hch
      rw [ey, b6]
      exact fin s e M1 a3 a4 hL hT1 b6 b8 bw hh
    | succ f ih =>
      intro kf s e M1 a1 a2 a3 a4 hL hT1 b6 b8 bw hh
      obtain ⟨kf, rfl⟩ : ∃ k, kf = k + 1 := ⟨kf - 1, by omega⟩
      rw [f_Md_next_108]
      rw [lrn] at hh
      refine m_isLetter hl hT1 a4 b6 (fun y1 y2 => ?_) (fun y => br_t rfl (fun y3 ey => ?_)) hch
      · rw [if_pos ⟨y1, y2⟩] at hh
        refine br_f (by decide) (fun M4 e4 => ?_)
        rw [b6, nI_1] at e4
        refine ih kf s (e + 1) M4 (by omega) (by omega) (by omega) (by omega) (fun j c1 c2 => ?_) ⟨by rw [e4, up_k (by omega)]; exact hT1.1, fun i hi => by rw [e4, up_c (by omega)]; exact hT1.2 i hi⟩ (by rw [e4, up_s]) (by rw [e4, up_k (by omega)]; exact b8) (by rw [e4, up_k (by omega), up_k (by omega)]; exact bw) (fun M' c1 c2 c3 c4 => hh M' c1 c2 (fun c hc => by rw [c3 c hc, e4, up_c hc]) (fun k d1 d2 d3 => by rw [c4 k d1 d2 d3, e4, up_k d1]))
        by_cases z : j = e
        · rw [z]; exact y2
        · exact hL j c1 (by omega)
      · rw [if_neg y] at hh
        rw [ey, b6]
        exact fin s e M1 a3 a4 hL hT1 b6 b8 bw hh
  have go : ∀ s (M1 : Mm), s ≤ len → M1 145 6 = nI s → frN M M1 → (∀ M', M' 145 8 = nI s → M' 145 6 = nI (exn T len s) → M' 145 7 = nI (lxc T len s) → mkL (M' 145 24) (M' 145 9) = lN (wcd T len s) → frN M M' → post M') → f_Md_next_38 fu post 145 M1 := by
    intro s M1 a3 b6 fr hh
    have hT1 := hT.fr fr
    unfold f_Md_next_38
    simp only [Nat.reduceAdd]
    intro M2 e2 M3 e3
    rw [b6] at e2
    have k3 : ∀ k, k ≠ 8 → k ≠ 9 → k ≠ 24 → M3 145 k = M1 145 k := fun k x y z => by rw [e3, up_k y, up_k z, e2, up_k x]
    have k3c : ∀ c, c ≠ 145 → M3 c = M1 c := fun c hc => by rw [e3, up_c hc, up_c hc, e2, up_c hc]
    have fr3 : frN M M3 := fr.trans ⟨k3c, fun k _ _ x y z => k3 k x y z⟩
    have hT3 := hT.fr fr3
    have b6' : M3 145 6 = nI s := by rw [k3 6 (by omega) (by omega) (by omega)]; exact b6
    have b8' : M3 145 8 = nI s := by rw [e3, up_k (by omega), up_k (by omega), e2, up_s]
    have bw' : mkL (M3 145 24) (M3 145 9) = lN 0 := by rw [e3, up_k (show (24 : Nat) ≠ 9 by omega), up_s, up_s, mkL_hl]; rfl
    rw [b6', hT3.1]
    refine pk_eq s len (fun z M10 e10 => ?_) (fun z => ?_)
    · refine hh M10 (by rw [e10, up_k (by omega)]; exact b8') ?_ (by rw [e10, up_s]; unfold lxc; rw [if_pos z]; rfl) ?_ (fr3.trans ⟨fun c hc => by rw [e10, up_c hc], fun k _ x _ _ _ => by rw [e10, up_k x]⟩)
      · rw [e10, up_k (by omega), b6', z, en_end]
      · rw [e10, up_k (by omega), up_k (by omega), bw']
        unfold wcd; rw [if_neg (fun y => by omega)]
    · have hs : s < len := by omega
      refine m_isLetter hl hT3 a3 b6' (fun _ y2 => br_f (by decide) (fun M5 e5 => ?_)) (fun y => br_t rfl ?_) hch
      · obtain ⟨x1, x2⟩ := en_let hs y2
        refine wrun (len - s) fu s s M5 (Nat.le_refl _) (by omega) (Nat.le_refl _) a3 (fun j c1 c2 => by omega) ⟨by rw [e5, up_k (by omega)]; exact hT3.1, fun i hi => by rw [e5, up_c (by omega)]; exact hT3.2 i hi⟩ (by rw [e5, up_k (by omega)]; exact b6') (by rw [e5, up_k (by omega)]; exact b8') (by rw [e5, up_k (by omega), up_k (by omega)]; exact bw') (fun M' c1 c2 c3 c4 => ?_)
        refine hh M' ?_ ?_ ?_ ?_ (fr3.trans ⟨fun c hc => by rw [c3 c hc, e5, up_c hc], fun k d1 d2 _ d4 d5 => by rw [c4 k d1 d4 d5, e5, up_k d2]⟩)
        · rw [c4 8 (by omega) (by omega) (by omega), e5, up_k (by omega)]; exact b8'
        · rw [x1]; exact c1
        · rw [c4 7 (by omega) (by omega) (by omega), e5, up_s]; unfold lxc; rw [if_neg z, if_pos y2]; rfl
        · rw [c2]
          unfold wcd
          show lN (if lr T len s - s < 8 then wcf T (lr T len s - s) s else 0) = _
          by_cases z8 : lr T len s - s < 8
          · rw [if_pos z8, if_pos ⟨hs, y2, z8⟩]
          · rw [if_neg z8, if_neg (fun y => z8 y.2.2)]
      · have y2 : isL (T s) = false := by
          cases hb : isL (T s) with
          | false => rfl
          | true => exact absurd ⟨hs, hb⟩ y
        obtain ⟨x1, x2⟩ := en_one hs y2
        rw [ln_M.2.2.2.1, b6', nI_clamp (by omega), hT3.2 s hs]
        refine ⟨vp_in_nI (by omega) (by omega), fun M7 e7 M8 e8 => ?_⟩
        rw [show M7 145 6 = nI s by rw [e7, up_k (by omega)]; exact b6', nI_1] at e8
        refine hh M8 (by rw [e8, up_k (by omega), e7, up_k (by omega)]; exact b8') (by rw [e8, up_s, x2]) ?_ ?_ (fr3.trans ⟨fun c hc => by rw [e8, up_c hc, e7, up_c hc], fun k d1 d2 _ _ _ => by rw [e8, up_k d1, e7, up_k d2]⟩)
        · rw [e8, up_k (by omega), e7, up_s]; unfold lxc; rw [if_neg z, if_neg (by rw [y2]; decide)]
        · rw [e8, up_k (by omega), up_k (by omega), e7, up_k (by omega), up_k (by omega), bw']
          unfold wcd; rw [if_neg (fun q => by rw [y2] at q; cases q.2.1)]
  have sp : ∀ f kf s (M1 : Mm), len - s ≤ f → f + 1 ≤ kf → s ≤ len → M1 145 6 = nI s → frN M M1 → (∀ M', M' 145 8 = nI (skp T len f s) → M' 145 6 = nI (exn T len (skp T len f s)) → M' 145 7 = nI (lxc T len (skp T len f s)) → mkL (M' 145 24) (M' 145 9) = lN (wcd T len (skp T len f s)) → frN M M' → post M') → f_Md_next_0 fu post kf 145 M1 := by
    intro f
    induction f with
    | zero =>
      intro kf s M1 a1 a2 a3 b6 fr hh
      obtain ⟨kf, rfl⟩ : ∃ k, kf = k + 1 := ⟨kf - 1, by omega⟩
      rw [f_Md_next_0]
      have hT1 := hT.fr fr
      rw [hT1.1, b6]
      exact pk_le len s (fun z => go s M1 a3 b6 fr hh) (fun z => by omega)
    | succ f ih =>
      intro kf s M1 a1 a2 a3 b6 fr hh
      obtain ⟨kf, rfl⟩ : ∃ k, kf = k + 1 := ⟨kf - 1, by omega⟩
      rw [f_Md_next_0]
      simp only [Nat.reduceAdd]
      have hT1 := hT.fr fr
      rw [hT1.1, b6]
      rw [skp] at hh
      refine pk_le len s (fun z => ?_) (fun z => ?_)
      · rw [if_neg (show ¬ (s < len ∧ T s = 32) from fun y => by omega)] at hh
        exact go s M1 a3 b6 fr hh
      · rw [ln_M.2.2.2.1, nI_clamp (by omega), hT1.2 s z]
        refine ⟨vp_in_nI (by omega) (by omega), pk_eq (T s) 32 (fun z2 M3 e3 => ?_) (fun z2 => ?_) rfl rfl (by have := hch s z; omega)⟩
        · rw [if_pos (show s < len ∧ T s = 32 from ⟨z, z2⟩)] at hh
          rw [nI_1] at e3
          exact ih kf (s + 1) M3 (by omega) (by omega) (by omega) (by rw [e3, up_s]) (fr.trans ⟨fun c hc => by rw [e3, up_c hc], fun k hk _ _ _ _ => by rw [e3, up_k hk]⟩) hh
        · rw [if_neg (show ¬ (s < len ∧ T s = 32) from fun y => z2 y.2)] at hh
          exact go s M1 a3 b6 fr hh
  unfold f_Md_next
  exact sp (len - i) fu i M (Nat.le_refl _) (by omega) hi h6 ⟨fun _ _ => rfl, fun _ _ _ _ _ _ => rfl⟩ h
