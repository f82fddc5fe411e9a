/-! the data of a situation (69 numbers), as the class holds it at a Situation s and the model in a row r from j on -/
def rok (n r : Nat) : Prop := r = 0 ∨ ∃ ty tg sy, 1 ≤ ty ∧ ty ≤ 3 ∧ tg < n ∧ sy ≤ 1 ∧ r = 100 * ty + 10 * tg + sy
def wfD (D : Nat → Nat) : Prop := (1 ≤ D 0 ∧ D 0 ≤ 6) ∧ D 1 < 64 ∧ (∀ k, k < 36 → rok (D 0) (D (2 + k))) ∧ (∀ k, k < 18 → 1 ≤ D (38 + k) ∧ D (38 + k) ≤ 9) ∧ D 56 ≤ 12 ∧ ∀ i, i < 12 → D (57 + i) < 6
def SitM (M : Mm) (r j : Nat) (D : Nat → Nat) : Prop := ∀ k, k < 69 → M r (j + k) = nI (D k)
def SitC (M : Mm) (s : Nat) (D : Nat → Nat) : Prop := M (s + 1) 4 = nI (D 0) ∧ (∀ q, q < 6 → M (s + 2) q = nI (if (D 1).testBit q then 1 else 0)) ∧
  (∀ k, k < 36 → M (s + 3) k = nI (D (2 + k) / 100) ∧ (D (2 + k) ≠ 0 → M (s + 4) k = nI (D (2 + k) / 10 % 10) ∧ M (s + 5) k = nI (D (2 + k) % 10))) ∧
  (∀ k, k < 6 → M (s + 7) k = nI 0 ∧ M (s + 7) (6 + k) = nI (D (50 + k)) ∧ M (s + 7) (12 + k) = nI (D (44 + k)) ∧ M (s + 7) (18 + k) = nI (D (38 + k))) ∧
  M (s + 8) 1 = nI (D 56) ∧ ∀ i, i < D 56 → M (s + 9) i = nI (D (57 + i))
theorem SitC.keep {M M' : Mm} {s : Nat} {D : Nat → Nat} (h : SitC M s D) (hq : ∀ c, s < c → c < s + 10 → M' c = M c) : SitC M' s D := by
  unfold SitC at *
  rw [hq (s + 1) (by omega) (by omega), hq (s + 2) (by omega) (by omega), hq (s + 3) (by omega) (by omega), hq (s + 4) (by omega) (by omega), hq (s + 5) (by omega) (by omega), hq (s + 7) (by omega) (by omega), hq (s + 8) (by omega) (by omega), hq (s + 9) (by omega) (by omega)]
  exact h
theorem SitM.keep {M M' : Mm} {r j : Nat} {D : Nat → Nat} (h : SitM M r j D) (hq : ∀ k, k < 69 → M' r (j + k) = M r (j + k)) : SitM M' r j D := fun k hk => (hq k hk).trans (h k hk)
theorem lnS : ∀ s, s < 156 → kd s = 8 → ln (s + 2) = 6 ∧ ln (s + 3) = 36 ∧ ln (s + 4) = 36 ∧ ln (s + 5) = 36 ∧ ln (s + 7) = 24 ∧ ln (s + 9) = 12 := by decide +kernel
theorem lnS' {s : Nat} (h : kd s = 8) : ln (s + 2) = 6 ∧ ln (s + 3) = 36 ∧ ln (s + 4) = 36 ∧ ln (s + 5) = 36 ∧ ln (s + 7) = 24 ∧ ln (s + 9) = 12 := lnS s (kd_lt h (by decide)) h
/-- Situation.copyFrom -/
theorem s_siCopy {fu : Nat} {post : Mm → Prop} {s a : Nat} {D : Nat → Nat} {M : Mm} (hf : 1300 ≤ fu) (hs : kd s = 8) (ha : kd a = 8) (hd : s + 10 ≤ a ∨ a + 10 ≤ s) (hw : D 56 ≤ 12) (hD : SitC M a D)
    (h : ∀ M', SitC M' s D → (∀ c, (c ≤ s ∨ s + 10 ≤ c) → M' c = M c) → post M') : f_Si_copyFrom fu post s a M := by
  obtain ⟨s2, s3, s4, s5, s7, s9⟩ := lnS' hs
  obtain ⟨a2, a3, a4, a5, a7, a9⟩ := lnS' ha
  obtain ⟨d1, d2, d3, d4, d5, d6⟩ := hD
  unfold f_Si_copyFrom f_Au_copyFrom
  intro M1 e1
  refine s_copy (a := a + 1 + 1) (b := s + 1 + 1) (by omega) (by rw [show s + 1 + 1 = s + 2 from rfl, show a + 1 + 1 = a + 2 from rfl, s2, a2]) hf (fun M2 p2 q2 => ?_)
  refine s_copy (a := a + 1 + 2) (b := s + 1 + 2) (by omega) (by rw [show s + 1 + 2 = s + 3 from rfl, show a + 1 + 2 = a + 3 from rfl, s3, a3]) hf (fun M3 p3 q3 => ?_)
  refine s_copy (a := a + 1 + 3) (b := s + 1 + 3) (by omega) (by rw [show s + 1 + 3 = s + 4 from rfl, show a + 1 + 3 = a + 4 from rfl, s4, a4]) hf (fun M4 p4 q4 => ?_)
  refine s_copy (a := a + 1 + 4) (b := s + 1 + 4) (by omega) (by rw [show s + 1 + 4 = s + 5 from rfl, show a + 1 + 4 = a + 5 from rfl, s5, a5]) hf (fun M5 p5 q5 => ?_)
  unfold f_Co_copyFrom
  refine s_copy (a := a + 6 + 1) (b := s + 6 + 1) (by omega) (by rw [show s + 6 + 1 = s + 7 from rfl, show a + 6 + 1 = a + 7 from rfl, s7, a7]) hf (fun M6 p6 q6 => ?_)
  unfold f_To_copyFrom
  intro M7 e7
  refine s_copy (a := a + 8 + 1) (b := s + 8 + 1) (by omega) (by rw [show s + 8 + 1 = s + 9 from rfl, show a + 8 + 1 = a + 9 from rfl, s9, a9]) hf (fun M8 p8 q8 => ?_)
  have n7 : ∀ c, c ≠ s + 8 → M7 c = M6 c := fun c hc => by rw [e7, up_c hc]
  have n1 : ∀ c, c ≠ s + 1 → M1 c = M c := fun c hc => by rw [e1, up_c hc]
  -- the rows of a stay
  have ka : ∀ c, (c ≤ s ∨ s + 10 ≤ c) → M8 c = M c ∧ M7 c = M c ∧ M6 c = M c ∧ M5 c = M c ∧ M4 c = M c ∧ M3 c = M c ∧ M2 c = M c ∧ M1 c = M c := fun c hc => by
    have h1 := n1 c (by omega)
    have h2 := (q2 c (by omega)).trans h1
    have h3 := (q3 c (by omega)).trans h2
    have h4 := (q4 c (by omega)).trans h3
    have h5 := (q5 c (by omega)).trans h4
    have h6 := (q6 c (by omega)).trans h5
    have h7 := (n7 c (by omega)).trans h6
    have h8 := (q8 c (by omega)).trans h7
    exact ⟨h8, h7, h6, h5, h4, h3, h2, h1⟩
  have r1 : M8 (s + 1) = M1 (s + 1) := by rw [q8 _ (by omega), n7 _ (by omega), q6 _ (by omega), q5 _ (by omega), q4 _ (by omega), q3 _ (by omega), q2 _ (by omega)]
  have r2 : M8 (s + 2) = M2 (s + 2) := by rw [q8 _ (by omega), n7 _ (by omega), q6 _ (by omega), q5 _ (by omega), q4 _ (by omega), q3 _ (by omega)]
  have r3 : M8 (s + 3) = M3 (s + 3) := by rw [q8 _ (by omega), n7 _ (by omega), q6 _ (by omega), q5 _ (by omega), q4 _ (by omega)]
  have r4 : M8 (s + 4) = M4 (s + 4) := by rw [q8 _ (by omega), n7 _ (by omega), q6 _ (by omega), q5 _ (by omega)]
  have r5 : M8 (s + 5) = M5 (s + 5) := by rw [q8 _ (by omega), n7 _ (by omega), q6 _ (by omega)]
  have r7 : M8 (s + 7) = M6 (s + 7) := by rw [q8 _ (by omega), n7 _ (by omega)]
  have r8 : M8 (s + 8) = M7 (s + 8) := by rw [q8 _ (by omega)]
  rw [show s + 1 + 1 = s + 2 from rfl, s2] at p2
  rw [show s + 1 + 2 = s + 3 from rfl, s3] at p3
  rw [show s + 1 + 3 = s + 4 from rfl, s4] at p4
  rw [show s + 1 + 4 = s + 5 from rfl, s5] at p5
  rw [show s + 6 + 1 = s + 7 from rfl, s7] at p6
  rw [show s + 8 + 1 = s + 9 from rfl, s9] at p8
  have o : ∀ x, 1 ≤ x → x < 10 → (a + x ≤ s ∨ s + 10 ≤ a + x) := fun x h1 h2 => by omega
  refine h M8 ⟨?_, fun q hq => ?_, fun k hk => ?_, fun k hk => ?_, ?_, fun i hi => ?_⟩ (fun c hc => (ka c hc).1)
  · rw [r1, e1, up_s]; exact d1
  · rw [r2, p2 q hq, show a + 1 + 1 = a + 2 from rfl, (ka _ (o 2 (by decide) (by decide))).2.2.2.2.2.2.2]; exact d2 q hq
  · rw [r3, r4, r5, p3 k hk, p4 k hk, p5 k hk, show a + 1 + 2 = a + 3 from rfl, show a + 1 + 3 = a + 4 from rfl, show a + 1 + 4 = a + 5 from rfl, (ka _ (o 3 (by decide) (by decide))).2.2.2.2.2.2.1, (ka _ (o 4 (by decide) (by decide))).2.2.2.2.2.1, (ka _ (o 5 (by decide) (by decide))).2.2.2.2.1]
    exact d3 k hk
  · rw [r7, p6 k (by omega), p6 (6 + k) (by omega), p6 (12 + k) (by omega), p6 (18 + k) (by omega), show a + 6 + 1 = a + 7 from rfl, (ka _ (o 7 (by decide) (by decide))).2.2.2.1]
    exact d4 k hk
  · rw [r8, e7, up_s, (ka _ (o 8 (by decide) (by decide))).2.2.1]; exact d5
  · rw [p8 i (by omega), show a + 8 + 1 = a + 9 from rfl, (ka _ (o 9 (by decide) (by decide))).2.1]
    exact d6 i hi
/-! the histories -/
def HisC (M : Mm) (cnt : Nat) (H : Nat → Nat → Nat) : Prop := cnt ≤ 8 ∧ M 11 2 = nI cnt ∧ ∃ nx, nx < 8 ∧ M 11 1 = nI nx ∧ ∀ i, i < cnt → SitC M (13 + 10 * ((nx + 8 - cnt + i) % 8)) (H i)
def HisM (M : Mm) (cnt : Nat) (H : Nat → Nat → Nat) : Prop := M 145 3 = nI cnt ∧ ∀ i, i < cnt → SitM M 148 (69 * i) (H i)
def hisP (cnt : Nat) (H : Nat → Nat → Nat) (D : Nat → Nat) : Nat → Nat → Nat := if cnt < 8 then fun i => if i = cnt then D else H i else fun i => if i = 7 then D else H (i + 1)
def hisN (cnt : Nat) : Nat := if cnt < 8 then cnt + 1 else 8
theorem ring_kd : ∀ i, i < 8 → kd (13 + 10 * i) = 8 := by decide +kernel
theorem ln_12 : ln 12 = 8 := by decide +kernel
theorem s_slotAt {fu : Nat} {post : Option Nat → Mm → Prop} {n : Nat} {M : Mm} (hn : n < 8) (h : post (some (13 + 10 * n)) M) : f_Hi_slotAt fu post 11 (nI n) M := by
  unfold f_Hi_slotAt
  rw [show 11 + 1 = 12 from rfl, ln_12]
  refine br_f (nI_pos (by omega)) (br_f (nI_ge hn (by omega)) ⟨vp_in_nI hn (by omega), ?_⟩)
  rw [nI_clamp (by omega)]
  exact h
/-- beginEdit -/
theorem s_beginEdit {fu : Nat} {post : Mm → Prop} {cnt : Nat} {H : Nat → Nat → Nat} {D : Nat → Nat} {M : Mm} (hf : 1300 ≤ fu) (hw : D 56 ≤ 12) (hD : SitC M 1 D) (hH : HisC M cnt H)
    (h : ∀ M', SitC M' 1 D → HisC M' (hisN cnt) (hisP cnt H D) → M' 105 5 = 0 → M' 123 5 = 0 → (∀ c, c < 11 → M' c = M c) → (∀ c, 93 ≤ c → c ≠ 105 → c ≠ 123 → M' c = M c) → post M') : f_SR_beginEdit fu post 0 M := by
  obtain ⟨hc8, hc, nx, hnx, hn, hs⟩ := hH
  unfold f_SR_beginEdit f_Hi_remember
  rw [show 0 + 11 = 11 from rfl, show 0 + 1 = 1 from rfl, hn]
  refine s_slotAt hnx ⟨fun q => (by cases q), fun c3 q => ?_⟩
  cases q
  refine s_siCopy hf (ring_kd nx hnx) (by decide +kernel) (by omega) hw hD (fun M4 hM4 k4 => ?_)
  have hn4 : M4 11 1 = nI nx := by rw [k4 11 (by omega)]; exact hn
  have hc4 : M4 11 2 = nI cnt := by rw [k4 11 (by omega)]; exact hc
  unfold f_Hi_remember_18
  intro M5 e5 M6 e6
  unfold f_SR_forgetTables
  intro M7 e7 M8 e8
  have hmod : (nI nx + 1) - (nI nx + 1) / 8 * 8 = nI ((nx + 1) % 8) := by
    rw [nI_1]; exact pk_rem (d := 8) (by omega) (by decide) (by decide)
  rw [hn4, hmod] at e5
  have hc5 : M5 11 2 = nI cnt := by rw [e5, up_k (by decide)]; exact hc4
  have hmin : (if 8 < (nI cnt + 1) then 8 else (nI cnt + 1)) = nI (hisN cnt) := by
    rw [nI_1, show (8 : Int32) = nI 8 from rfl]
    unfold hisN
    by_cases q : cnt < 8
    · rw [if_pos q, if_neg (by rw [nI_ltI (by omega) (by omega)]; omega)]
    · rw [if_neg q, if_pos (by rw [nI_ltI (by omega) (by omega)]; omega)]
  rw [hc5, hmin] at e6
  have k8 : ∀ c, c ≠ 11 → c ≠ 105 → c ≠ 123 → M8 c = M4 c := fun c h1 h2 h3 => by
    rw [e8, up_c h3, e7, up_c h2, e6, up_c h1, e5, up_c h1]
  have k11 : ∀ k, M8 11 k = M6 11 k := fun k => by rw [e8, up_c (by decide), e7, up_c (by decide)]
  refine h M8 (hD.keep (fun c h1 h2 => by rw [k8 c (by omega) (by omega) (by omega), k4 c (by omega)])) ⟨?_, ?_, (nx + 1) % 8, by omega, ?_, fun i hi => ?_⟩ ?_ ?_ (fun c hc => by rw [k8 c (by omega) (by omega) (by omega), k4 c (by omega)]) (fun c h1 h2 h3 => by rw [k8 c (by omega) h2 h3, k4 c (by omega)])
  · unfold hisN; split <;> omega
  · rw [k11, e6, up_s]
  · rw [k11, e6, up_k (by decide), e5, up_s]
  · have sub : ∀ j, j < 8 → ∀ E : Nat → Nat, SitC M4 (13 + 10 * j) E → SitC M8 (13 + 10 * j) E := fun j hj E hE => hE.keep (fun c h1 h2 => k8 c (by omega) (by omega) (by omega))
    have old : ∀ j, j < 8 → j ≠ nx → ∀ E : Nat → Nat, SitC M (13 + 10 * j) E → SitC M8 (13 + 10 * j) E := fun j hj hne E hE => sub j hj E (hE.keep (fun c h1 h2 => k4 c (by omega)))
    unfold hisN at hi
    unfold hisP hisN
    by_cases q : cnt < 8
    · rw [if_pos q] at hi
      rw [if_pos q, if_pos q]
      have e0 : ((nx + 1) % 8 + 8 - (cnt + 1) + i) % 8 = (nx + 8 - cnt + i) % 8 := by omega
      rw [e0]
      by_cases hi2 : i = cnt
      · subst hi2
        simp only [if_true]
        rw [show (nx + 8 - i + i) % 8 = nx by omega]
        exact sub nx hnx _ hM4
      · simp only [if_neg hi2]
        exact old _ (by omega) (by omega) _ (hs i (by omega))
    · rw [if_neg q] at hi
      rw [if_neg q, if_neg q]
      have hc8' : cnt = 8 := by omega
      subst hc8'
      by_cases hi2 : i = 7
      · subst hi2
        simp only [if_true]
        rw [show ((nx + 1) % 8 + 8 - 8 + 7) % 8 = nx by omega]
        exact sub nx hnx _ hM4
      · simp only [if_neg hi2]
        rw [show ((nx + 1) % 8 + 8 - 8 + i) % 8 = (nx + 8 - 8 + (i + 1)) % 8 by omega]
        exact old _ (by omega) (by omega) _ (hs (i + 1) (by omega))
  · rw [e8, up_c (by decide), e7, up_s]
  · rw [e8, up_s]
