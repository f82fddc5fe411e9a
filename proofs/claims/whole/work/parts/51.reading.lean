/-! the model's reading -/
def LM (M : Mm) (len : Nat) (T : Nat → Nat) (s : Nat) : Prop := TxM M len T ∧ s ≤ len ∧ M 145 8 = nI s ∧ M 145 6 = nI (exn T len s) ∧ M 145 7 = nI (lxc T len s) ∧ mkL (M 145 24) (M 145 9) = lN (wcd T len s)
def frD (M M' : Mm) : Prop := (∀ c, c ≠ 145 → M' c = M c) ∧ ∀ k, k ≠ 6 → k ≠ 7 → k ≠ 8 → k ≠ 9 → k ≠ 10 → k ≠ 24 → M' 145 k = M 145 k
theorem frN.d {M M' : Mm} (h : frN M M') : frD M M' := ⟨h.1, fun k a b c d _ e => h.2 k a b c d e⟩
theorem frN.up10 {M M' M2 : Mm} {v : Int32} (h : frN M M') (e : M2 = up M' 145 10 v) : frD M M2 := ⟨fun c hc => by rw [e, up_c hc]; exact h.1 c hc, fun k b1 b2 b3 b4 b5 b6 => by rw [e, up_k b5]; exact h.2 k b1 b2 b3 b4 b6⟩
theorem LM.keep {M M' : Mm} {len s : Nat} {T : Nat → Nat} (h : LM M len T s) (k1 : M' 149 = M 149) (k2 : ∀ k, k ≠ 10 → k ≠ 11 → M' 145 k = M 145 k) : LM M' len T s := by
  obtain ⟨⟨h1, h2⟩, h3, h4, h5, h6, h7⟩ := h
  refine ⟨⟨?_, fun i hi => ?_⟩, h3, ?_, ?_, ?_, ?_⟩
  · rw [k2 5 (by omega) (by omega)]; exact h1
  · rw [k1]; exact h2 i hi
  · rw [k2 8 (by omega) (by omega)]; exact h4
  · rw [k2 6 (by omega) (by omega)]; exact h5
  · rw [k2 7 (by omega) (by omega)]; exact h6
  · rw [k2 24 (by omega) (by omega), k2 9 (by omega) (by omega)]; exact h7
theorem m_nextLM {fu : Nat} {post : Mm → Prop} {len s : Nat} {T : Nat → Nat} {M : Mm} (hf : 1300 ≤ fu) (hl : len ≤ 150) (hch : ∀ i, i < len → T i < 256) (hX : LM M len T s) (h : ∀ M', LM M' len T (nx T len s) → frN M M' → post M') : f_Md_next fu post 145 M :=
  m_next hf hl hch hX.1 (en_le (T := T) hX.2.1).2.1 hX.2.2.2.1 (fun M' a1 a2 a3 a4 a5 => h M' ⟨hX.1.fr a5, (nx_le (T := T) hX.2.1).1, a1, a2, a3, a4⟩ a5)
theorem lxc_lt {T : Nat → Nat} {len s : Nat} (hch : ∀ i, i < len → T i < 256) (hs : s ≤ len) : lxc T len s < 2000 := by
  rcases lx_cases (T := T) hs with ⟨a1, a2, a3⟩ | ⟨a1, a2, a3, a4, a5⟩ | ⟨a1, a2, a3, a4⟩
  · omega
  · omega
  · have := hch s a1; omega
theorem wcf_lt {T : Nat → Nat} : ∀ n s, (∀ j, j < n → T (s + j) < 128) → wcf T n s < 32 ^ n
  | 0, _, _ => by rw [show wcf T 0 _ = 0 from rfl]; decide
  | n + 1, s, h => by
    have h0 := h 0 (by omega)
    rw [Nat.add_zero] at h0
    have h1 := wcf_lt n (s + 1) (fun j hj => by rw [show s + 1 + j = s + (j + 1) by omega]; exact h _ (by omega))
    rw [wcf, Nat.pow_succ]
    omega
theorem wcd_lt {T : Nat → Nat} {len s : Nat} (hs : s ≤ len) : wcd T len s < 2 ^ 63 := by
  have hl := (lrn_le (T := T) (len := len) (len - s) s hs).2.2
  unfold wcd
  split
  · rename_i q
    have h1 := wcf_lt (T := T) (lr T len s - s) s (fun j hj => by have := isL_iff.1 (hl (s + j) (by omega) (show s + j < lr T len s by omega)); omega)
    have h2 : 32 ^ (lr T len s - s) ≤ 32 ^ 7 := Nat.pow_le_pow_right (by omega) (by omega)
    have h3 : (32 : Nat) ^ 7 < 2 ^ 63 := by decide
    omega
  · decide
def LQ (M : Mm) (len : Nat) (T : Nat → Nat) (s : Nat) : Prop := ∃ s0, LM M len T s0 ∧ nx T len s0 = s
theorem m_readDigit {fu : Nat} {post : Int32 → Mm → Prop} {len s lo hi : Nat} {T : Nat → Nat} {M : Mm} (hf : 1300 ≤ fu) (hl : len ≤ 150) (hch : ∀ i, i < len → T i < 256) (hP : LQ M len T s) (hhi : hi ≤ 9)
    (h1 : isDg T len lo hi s → ∀ M', LM M' len T s → M' 145 10 = nI (T s - 48) → frD M M' → post 1 M')
    (h0 : ¬ isDg T len lo hi s → ∀ M', LM M' len T s → frD M M' → post 0 M') (hlo : lo ≤ 9 := by omega) : f_Md_readDigit fu post 145 (nI lo) (nI hi) M := by
  obtain ⟨s0, hX, rfl⟩ := hP
  have hn := (nx_le (T := T) hX.2.1).1
  obtain ⟨g1, g2⟩ := dg_iff (T := T) (lo := lo) hn hhi
  have hb := lxc_lt hch hn
  unfold f_Md_readDigit
  refine m_nextLM hf hl hch hX (fun M1 a1 a2 M2 e2 => ?_)
  have fr : frD M M2 := a2.up10 e2
  have hL : LM M2 len T (nx T len s0) := a1.keep (by rw [e2, up_c (by omega)]) (fun k b1 _ => by rw [e2, up_k b1])
  have e10 : M2 145 10 = nI (lxc T len (nx T len s0)) - nI 48 := by rw [e2, up_s, a1.2.2.2.2.1]; rfl
  rw [e10]
  refine s_in (by omega) (by omega) (fun k b1 b2 b3 => ?_) (fun q => h0 (fun y => q ?_) M2 hL fr)
  · by_cases z : lxc T len (nx T len s0) < 48
    · exact absurd (nI_neg (by omega) (by omega) z) (by rw [b3]; exact nI_pos (by omega))
    · rw [pk_sub (by omega)] at b3 e10
      have := (nI_eq (by omega) (by omega)).1 b3
      have hd := g1.2 ⟨by omega, by omega⟩
      exact h1 hd M2 hL (by rw [e10, g2 hd]) fr
  · have := g1.1 y
    exact ⟨lxc T len (nx T len s0) - 48, by omega, by omega, pk_sub (by omega)⟩
theorem m_readState {fu : Nat} {post : Int32 → Mm → Prop} {len s n : Nat} {T : Nat → Nat} {M : Mm} (hf : 1300 ≤ fu) (hl : len ≤ 150) (hch : ∀ i, i < len → T i < 256) (hP : LQ M len T s) (h9 : M 147 0 = nI n) (hn : 1 ≤ n ∧ n ≤ 6)
    (h1 : isDg T len 0 (n - 1) s → ∀ M', LM M' len T s → M' 145 10 = nI (T s - 48) → frD M M' → post 1 M')
    (h0 : ¬ isDg T len 0 (n - 1) s → ∀ M', LM M' len T s → frD M M' → post 0 M') : f_Md_readState fu post 145 M := by
  unfold f_Md_readState
  simp only [Nat.reduceAdd]
  rw [ln_M.2.1, h9, nI_p1 hn.1]
  exact ⟨vp_in_nI (n := 0) (by omega) (by omega), m_readDigit (lo := 0) hf hl hch hP (by omega) h1 h0⟩
theorem m_readKind {fu : Nat} {post : Int32 → Mm → Prop} {len s : Nat} {T : Nat → Nat} {M : Mm} (hf : 1300 ≤ fu) (hl : len ≤ 150) (hch : ∀ i, i < len → T i < 256) (hP : LQ M len T s)
    (h1 : isKd T len s → ∀ M', LM M' len T s → M' 145 10 = nI (T s - 97) → frD M M' → post 1 M')
    (h0 : ¬ isKd T len s → ∀ M', LM M' len T s → frD M M' → post 0 M') : f_Md_readKind fu post 145 M := by
  obtain ⟨s0, hX, rfl⟩ := hP
  have hn := (nx_le (T := T) hX.2.1).1
  obtain ⟨g1, g2⟩ := kd_iff (T := T) hn
  have hb := lxc_lt hch hn
  have hw := wcd_lt (T := T) hn
  unfold f_Md_readKind
  refine m_nextLM hf hl hch hX (fun M1 a1 a2 => ?_)
  have hL : ∀ v M2, M2 = up M1 145 10 v → LM M2 len T (nx T len s0) := fun v M2 e2 => a1.keep (by rw [e2, up_c (by omega)]) (fun k b1 _ => by rw [e2, up_k b1])
  have no : ¬ isKd T len (nx T len s0) → f_Md_readKind_38 fu post 145 M1 := fun z => by
    unfold f_Md_readKind_38 f_Md_readKind_39
    exact br_t rfl (fun M2 e2 => ⟨Or.inl rfl, h0 z M2 (hL _ M2 e2) (a2.up10 e2)⟩)
  rw [a1.2.2.2.2.1, a1.2.2.2.2.2]
  refine pk_eq (lxc T len (nx T len s0)) 1001 (fun z => ?_) (fun z => no (fun y => z (g1.1 y).1))
  rw [show (0 : Int64) = lN 0 from rfl, show (6 : Int64) = lN 6 from rfl, lg_cmp_le, lg_cmp_gt, pk_lLE hw (by decide), pk_lLT (by decide) hw]
  refine ⟨fun z2 => no (fun y => by have := (g1.1 y).2.1; omega), fun z2 => ⟨fun z3 => no (fun y => by have := (g1.1 y).2.2; omega), fun z3 => ?_⟩⟩
  have hk := g1.2 ⟨z, by omega, by omega⟩
  unfold f_Md_readKind_39
  refine br_f (by decide) (fun M2 e2 => ⟨Or.inr rfl, h1 hk M2 (hL _ M2 e2) ?_ (a2.up10 e2)⟩)
  rw [e2, up_s, a1.2.2.2.2.2, g2 hk, lN_i]
  exact nI_p1 (by omega)
