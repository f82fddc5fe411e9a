/-! the configurations that can be reached, as the class finds them -/
def ones (f : Nat → Nat) : Nat → Nat
  | 0 => 0
  | n + 1 => ones f n + f n
theorem ones_le {f : Nat → Nat} (h : ∀ c, f c ≤ 1) : ∀ n, ones f n ≤ n
  | 0 => Nat.le_refl _
  | n + 1 => by have := ones_le h n; have := h n; unfold ones; omega
theorem ones_out {f : Nat → Nat} {c : Nat} : ∀ n, n ≤ c → ones (dput f c 1) n = ones f n
  | 0, _ => rfl
  | n + 1, h => by unfold ones; rw [ones_out n (by omega), dput_k (by omega)]
theorem ones_put {f : Nat → Nat} {c : Nat} (h0 : f c = 0) : ∀ n, c < n → ones (dput f c 1) n = ones f n + 1
  | 0, h => absurd h (by omega)
  | n + 1, h => by
    unfold ones
    by_cases z : c = n
    · subst z
      rw [ones_out c (by omega), dput_s, h0]
    · rw [ones_put h0 n (by omega), dput_k (by omega)]; omega
theorem ones_zero : ∀ n, ones (fun _ => 0) n = 0
  | 0 => rfl
  | n + 1 => by unfold ones; rw [ones_zero n]
def EX (M : Mm) (s : Nat) (D : Nat → Nat) (n : Nat) (sn q : Nat → Nat) : Prop := n = ones sn 96 ∧ (∀ c, sn c ≤ 1) ∧ M (s + 10) 3 = nI n ∧ (∀ c, c < 96 → M (s + 13) c = nI (sn c)) ∧
  (∀ i, i < n → q i < 96 ∧ sn (q i) = 1 ∧ okc D (q i) ∧ M (s + 12) i = nI (q i)) ∧ ∀ c, c < 96 → sn c = 1 → ∃ i, i < n ∧ q i = c
def ENT (M : Mm) (s : Nat) (D sn : Nat → Nat) (c k : Nat) : Prop := M (s + 11) (6 * c + k) = oI (-1) (cns D c k) ∧ ∀ c', cns D c k = some c' → sn c' = 1
theorem ln_R : ∀ s, (s = 106 ∨ s = 124) → kd s = 8 ∧ ln (s + 11) = 576 ∧ ln (s + 12) = 96 ∧ ln (s + 13) = 96 ∧ ln (s + 14) = 1248 ∧ ln (s + 15) = 1248 ∧ ln (s + 16) = 1248 := by
  rintro s (rfl | rfl) <;> decide +kernel
theorem c_Readd {fu : Nat} {post : Mm → Prop} {s : Nat} {D : Nat → Nat} {n c : Nat} {sn q : Nat → Nat} {M : Mm} (hs : s = 106 ∨ s = 124) (hE : EX M s D n sn q) (hc : c < 96) (hok : okc D c)
    (h : ∀ M' n' sn' q', EX M' s D n' sn' q' → n ≤ n' → (∀ i, i < n → q' i = q i) → (∀ c, sn c = 1 → sn' c = 1) → sn' c = 1 → (∀ a, (a < s + 10 ∨ s + 13 < a ∨ a = s + 11) → M' a = M a) → post M') : f_Re_add fu post (s + 10) (nI c) M := by
  obtain ⟨_, l1, l2, l3, _⟩ := ln_R s hs
  obtain ⟨e1, e2, e3, e4, e5, e6⟩ := hE
  unfold f_Re_add
  rw [show s + 10 + 3 = s + 13 from rfl, show s + 10 + 2 = s + 12 from rfl]
  refine s_at (by rw [l3]; exact hc) ?_
  rw [e4 c hc]
  refine pk_eq (sn c) 0 (fun z => ?_) (fun z => ?_) rfl rfl (by have := e2 c; omega)
  · have hn : n + 1 ≤ 96 := by
      have a1 := ones_put z 96 hc
      have a2 := ones_le (f := dput sn c 1) (fun x => by by_cases y : x = c; · rw [y, dput_s]; omega
                                                         · rw [dput_k y]; exact e2 x) 96
      omega
    refine s_put (by rw [l3]; exact hc) ?_
    rw [up_c (by omega), e3]
    refine s_put (by rw [l2]; omega) (fun M5 e => ?_)
    rw [up_c (by omega), up_c (by omega), e3, nI_1] at e
    refine h M5 (n + 1) (dput sn c 1) (dput q n c) ⟨by rw [ones_put z 96 hc]; omega, fun x => ?_, by rw [e, up_s], fun x hx => ?_, fun i hi => ?_, fun x hx h1 => ?_⟩ (by omega) (fun i hi => dput_k (by omega)) (fun x hx => ?_) dput_s (fun a ha => ?_)
    · by_cases y : x = c
      · rw [y, dput_s]; omega
      · rw [dput_k y]; exact e2 x
    · rw [e, up_c (by omega), up_c (by omega)]
      by_cases y : x = c
      · rw [y, up_s, dput_s]; rfl
      · rw [up_k y, dput_k y]; exact e4 x hx
    · rw [e, up_c (by omega)]
      by_cases y : i = n
      · rw [y, dput_s, dput_s, up_s]; exact ⟨hc, rfl, hok, rfl⟩
      · obtain ⟨a1, a2, a3, a4⟩ := e5 i (by omega)
        rw [dput_k (k := n) y, up_k y, up_c (by omega)]
        refine ⟨a1, ?_, a3, a4⟩
        by_cases y2 : q i = c
        · rw [y2, dput_s]
        · rw [dput_k y2]; exact a2
    · by_cases y : x = c
      · exact ⟨n, by omega, by rw [dput_s, y]⟩
      · rw [dput_k y] at h1
        obtain ⟨i, hi, hq⟩ := e6 x hx h1
        exact ⟨i, by omega, by rw [dput_k (by omega)]; exact hq⟩
    · by_cases y : x = c
      · rw [y, dput_s]
      · rw [dput_k y]; exact hx
    · rw [e, up_c (by omega), up_c (by omega), up_c (by omega)]
  · exact h M n sn q ⟨e1, e2, e3, e4, e5, e6⟩ (Nat.le_refl _) (fun _ _ => rfl) (fun _ h => h) (by have := e2 c; omega) (fun _ _ => rfl)
theorem c_explore_in {fu : Nat} {post : Mm → Prop} {K : Nat → Nat → Int32 → Mm → Prop} {s : Nat} {D : Nat → Nat} {i : Nat} (hs : s = 106 ∨ s = 124) (hw : wfD D) : ∀ (kf k n : Nat) (sn q : Nat → Nat) (M : Mm), 7 ≤ kf + k → k ≤ 6 → i < n → SitC M s D → EX M s D n sn q →
    (∀ j k', j < i → k' < 6 → ENT M s D sn (q j) k') → (∀ k', k' < k → ENT M s D sn (q i) k') →
    (∀ M' n' sn' q', EX M' s D n' sn' q' → n ≤ n' → (∀ j, j < n → q' j = q j) → (∀ c, sn c = 1 → sn' c = 1) → (∀ j k', j < i + 1 → k' < 6 → ENT M' s D sn' (q' j) k') → (∀ a, (a < s + 10 ∨ s + 13 < a) → M' a = M a) → K (s + 10) (s + 1) (nI (i + 1)) M') →
    f_Re_explore_46 fu post K kf (s + 10) (s + 1) (nI i) (nI (q i)) (nI k) M := by
  intro kf
  obtain ⟨hk, l1, l2, l3, _⟩ := ln_R s hs
  induction kf with
  | zero => intro k n sn q M h1 h2; omega
  | succ kf ih =>
    intro k n sn q M h1 h2 hi hD hE hd1 hd2 h
    rw [f_Re_explore_46]
    obtain ⟨c1, c2, c3, c4⟩ := hE.2.2.2.2.1 i hi
    refine pk_le 6 k (fun z y ey => ?_) (fun z => ?_)
    · rw [ey, nI_1]
      refine h M n sn q hE (Nat.le_refl _) (fun _ _ => rfl) (fun _ h => h) (fun j k' hj hk' => ?_) (fun _ _ => rfl)
      by_cases y : j = i
      · rw [y]; exact hd2 k' (by omega)
      · exact hd1 j k' (by omega) hk'
    · refine c_after hk hD hw c1 z ?_
      rw [show s + 10 + 1 = s + 11 from rfl, show (6 : Int32) = nI 6 from rfl, pk_mul, nI_add, Nat.mul_comm]
      refine s_put (by rw [l1]; omega) ?_
      -- the memory with the entry put
      have fr1 : ∀ a, a ≠ s + 11 → up M (s + 11) (6 * q i + k) (oI (-1) (cns D (q i) k)) a = M a := fun a ha => up_c ha
      have hE1 : EX (up M (s + 11) (6 * q i + k) (oI (-1) (cns D (q i) k))) s D n sn q := by
        obtain ⟨e1, e2, e3, e4, e5, e6⟩ := hE
        exact ⟨e1, e2, by rw [fr1 _ (by omega)]; exact e3, fun c hc => by rw [fr1 _ (by omega)]; exact e4 c hc, fun j hj => by rw [fr1 _ (by omega)]; exact e5 j hj, e6⟩
      have hD1 : SitC (up M (s + 11) (6 * q i + k) (oI (-1) (cns D (q i) k))) s D := hD.keep (fun a _ _ => fr1 a (by omega))
      have ent : ∀ sn' : Nat → Nat, (∀ c, sn c = 1 → sn' c = 1) → ∀ c k', c < 96 → k' < 6 → ENT M s D sn c k' → ENT (up M (s + 11) (6 * q i + k) (oI (-1) (cns D (q i) k))) s D sn' c k' := fun sn' hsn c k' hc hk' he => by
        refine ⟨?_, fun c' hc' => hsn _ (he.2 c' hc')⟩
        by_cases y : 6 * c + k' = 6 * q i + k
        · have y1 : c = q i := by omega
          have y2 : k' = k := by omega
          rw [y1, y2, up_s]
        · rw [up_k y]; exact he.1
      cases hq : cns D (q i) k with
      | none =>
        rw [hq] at hE1 hD1 ent fr1
        refine br_t (show (-1 : Int32) < 0 by decide) (fun y ey => ?_)
        rw [ey, nI_1]
        refine ih (k + 1) n sn q _ (by omega) (by omega) hi hD1 hE1 (fun j k' hj hk' => ent sn (fun _ h => h) _ _ (hE.2.2.2.2.1 j (by omega)).1 hk' (hd1 j k' hj hk')) (fun k' hk' => ?_) (fun M' n' sn' q' g1 g2 g3 g4 g5 g6 => h M' n' sn' q' g1 g2 g3 g4 g5 (fun a ha => by rw [g6 a ha, fr1 a (by omega)]))
        by_cases y : k' = k
        · refine ⟨by rw [y, up_s, hq], fun c' hc' => ?_⟩
          rw [y, hq] at hc'; cases hc'
        · exact ent sn (fun _ h => h) _ _ c1 (by omega) (hd2 k' (by omega))
      | some c' =>
        rw [hq] at hE1 hD1 ent fr1
        obtain ⟨o1, o2⟩ := cns_ok hw c3 z hq
        refine br_f (nI_pos (n := c') (by omega)) ?_
        refine c_Readd hs hE1 o2 o1 (fun M2 n2 sn2 q2 g1 g2 g3 g4 g5 g6 => ?_)
        intro y ey
        rw [ey, nI_1, ← g3 i hi]
        have ent2 : ∀ c k', c < 96 → k' < 6 → ENT M s D sn c k' → ENT M2 s D sn2 c k' := fun c k' hc hk' he => by
          have := ent sn2 g4 c k' hc hk' he
          exact ⟨by rw [g6 (s + 11) (by omega)]; exact this.1, this.2⟩
        refine ih (k + 1) n2 sn2 q2 M2 (by omega) (by omega) (by omega) (hD1.keep (fun a _ _ => g6 a (by omega))) g1 (fun j k' hj hk' => ?_) (fun k' hk' => ?_) (fun M' n' sn' q' a1 a2 a3 a4 a5 a6 => h M' n' sn' q' a1 (by omega) (fun j hj => by rw [a3 j (by omega), g3 j hj]) (fun c hc => a4 c (g4 c hc)) a5 (fun a ha => by rw [a6 a ha, g6 a (by omega), fr1 a (by omega)]))
        · rw [g3 j (by omega)]
          exact ent2 _ _ (hE.2.2.2.2.1 j (by omega)).1 hk' (hd1 j k' hj hk')
        · rw [g3 i hi]
          by_cases y2 : k' = k
          · refine ⟨by rw [y2, g6 (s + 11) (by omega), up_s, hq], fun c2 hc2 => ?_⟩
            rw [y2, hq] at hc2; cases hc2; exact g5
          · exact ent2 _ _ c1 (by omega) (hd2 k' (by omega))
theorem c_explore_out {fu : Nat} {post : Mm → Prop} {s : Nat} {D : Nat → Nat} (hf : 1300 ≤ fu) (hs : s = 106 ∨ s = 124) (hw : wfD D) : ∀ (kf i n : Nat) (sn q : Nat → Nat) (M : Mm), 98 ≤ kf + i → i ≤ n → SitC M s D → EX M s D n sn q → sn 1 = 1 →
    (∀ j k', j < i → k' < 6 → ENT M s D sn (q j) k') →
    (∀ M' n' sn' q', EX M' s D n' sn' q' → sn' 1 = 1 → (∀ j k', j < n' → k' < 6 → ENT M' s D sn' (q' j) k') → (∀ a, (a < s + 10 ∨ s + 13 < a) → M' a = M a) → post M') →
    f_Re_explore_20 fu post kf (s + 10) (s + 1) (nI i) M := by
  intro kf
  obtain ⟨hk, l1, l2, l3, _⟩ := ln_R s hs
  induction kf with
  | zero =>
    intro i n sn q M h1 h2 hD hE
    have := ones_le hE.2.1 96
    have := hE.1
    omega
  | succ kf ih =>
    intro i n sn q M h1 h2 hD hE hsn hd h
    have hn := ones_le hE.2.1 96
    have hn1 := hE.1
    rw [f_Re_explore_20]
    refine pk_le n i (fun z => h M n sn q hE hsn (fun j k' hj hk' => hd j k' (by omega) hk') (fun _ _ => rfl)) (fun z => ?_) hE.2.2.1
    refine pk_le 96 i (fun z2 => by omega) (fun z2 => ?_)
    rw [show s + 10 + 2 = s + 12 from rfl]
    refine s_at (by rw [l2]; exact z2) ?_
    rw [(hE.2.2.2.2.1 i z).2.2.2]
    refine c_explore_in hs hw fu 0 n sn q M (by omega) (by omega) z hD hE hd (fun k' hk' => absurd hk' (by omega)) (fun M' n' sn' q' a1 a2 a3 a4 a5 a6 => ?_)
    exact ih (i + 1) n' sn' q' M' (by omega) (by omega) (hD.keep (fun a _ _ => a6 a (by omega))) a1 (a4 1 hsn) a5 (fun M2 n2 sn2 q2 b1 b2 b3 b4 => h M2 n2 sn2 q2 b1 b2 b3 (fun a ha => by rw [b4 a ha, a6 a ha]))
theorem c_explore {fu : Nat} {post : Mm → Prop} {s : Nat} {D : Nat → Nat} {M : Mm} (hf : 1300 ≤ fu) (hs : s = 106 ∨ s = 124) (hw : wfD D) (hD : SitC M s D)
    (h : ∀ M' G n q, Rea M' s D G n q → (∀ a, (a < s + 10 ∨ s + 13 < a) → M' a = M a) → post M') : f_Re_explore fu post (s + 10) (s + 1) M := by
  obtain ⟨hk, l1, l2, l3, _⟩ := ln_R s hs
  unfold f_Re_explore
  rw [show s + 10 + 3 = s + 13 from rfl]
  refine s_fill hf (fun M1 a1 a2 M2 e2 => ?_)
  rw [l3] at a1
  have hE : EX M2 s D 0 (fun _ => 0) (fun _ => 0) := ⟨(ones_zero 96).symm, fun _ => Nat.zero_le _, by rw [e2, up_s]; rfl, fun c hc => by rw [e2, up_c (by omega)]; exact a1 c hc, fun i hi => absurd hi (by omega), fun c hc h1 => absurd (show (0 : Nat) = 1 from h1) (by decide)⟩
  refine c_Readd (c := 1) hs hE (by omega) ⟨by have := hw.1.1; omega, by omega⟩ (fun M3 n sn q g1 g2 g3 g4 g5 g6 => ?_)
  refine c_explore_out hf hs hw fu 0 n sn q M3 (by omega) (by omega) (hD.keep (fun a _ _ => by rw [g6 a (by omega), e2, up_c (by omega), a2 a (by omega)])) g1 g5 (fun j k' hj => absurd hj (by omega)) (fun M4 n4 sn4 q4 b1 b2 b3 b4 => ?_)
  refine h M4 (fun c => c < 96 ∧ sn4 c = 1) n4 q4 ⟨?_, b1.2.2.1, fun i hi => ?_, fun c hc => b1.2.2.2.2.2 c hc.1 hc.2, ⟨by omega, b2⟩, fun c hc => ?_⟩ (fun a ha => by rw [b4 a ha, g6 a (by omega), e2, up_c (by omega), a2 a (by omega)])
  · have := ones_le b1.2.1 96
    have := b1.1
    omega
  · obtain ⟨d1, d2, d3, d4⟩ := b1.2.2.2.2.1 i hi
    exact ⟨d4, d1, d2⟩
  · obtain ⟨i, hi, hq⟩ := b1.2.2.2.2.2 c hc.1 hc.2
    obtain ⟨d1, d2, d3, d4⟩ := b1.2.2.2.2.1 i hi
    rw [hq] at d1 d2 d3
    refine ⟨d3, d1, fun k hk => ?_⟩
    have := b3 i k hi hk
    rw [hq] at this
    refine ⟨fun c' hc' => ⟨⟨(cns_ok hw d3 hk hc').2, this.2 c' hc'⟩, ?_⟩, fun hn => ?_⟩
    · rw [this.1, hc']; rfl
    · rw [this.1, hn]; rfl
