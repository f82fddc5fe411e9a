/-! the two objects as they are made -/
def eD : Nat → Nat := fun k => if k = 0 then 1 else if 38 ≤ k ∧ k < 56 then 1 else 0
def dD : Nat → Nat := fun k => if k < 2 then 1 else if 38 ≤ k ∧ k < 56 then 1 else 0
theorem s_setAll {fu : Nat} {post : Mm → Prop} {s : Nat} {M : Mm} (hf : 1300 ≤ fu) (hs : kd s = 8) (h : ∀ M', (∀ k, k < 6 → M' (s + 7) k = nI 0) → (∀ k, 6 ≤ k → k < 24 → M' (s + 7) k = nI 1) → (∀ c, c ≠ s + 7 → M' c = M c) → post M') : f_Co_setAllToOne fu post (s + 6) M := by
  have l7 := (lnS' hs).2.2.2.2.1
  unfold f_Co_setAllToOne
  rw [show s + 6 + 1 = s + 7 from rfl]
  refine s_fill hf (fun M1 a1 a2 => ?_)
  rw [l7] at a1
  have lp : ∀ kf n (M2 : Mm), 7 ≤ kf + n → n ≤ 6 → (∀ k, k < n → M2 (s + 7) k = nI 0) → (∀ k, n ≤ k → k < 24 → M2 (s + 7) k = nI 1) → (∀ c, c ≠ s + 7 → M2 c = M c) → f_Co_setAllToOne_10 fu post kf (s + 6) (nI n) M2 := by
    intro kf
    induction kf with
    | zero => intro n M2 b1 b2; omega
    | succ kf ih =>
      intro n M2 b1 b2 b3 b4 b5
      rw [f_Co_setAllToOne_10]
      refine pk_le 6 n (fun z => h M2 (fun k hk => b3 k (by omega)) (fun k h1 h2 => b4 k (by omega) h2) b5) (fun z => ?_)
      unfold f_Co_change
      rw [show (6 : Int32) = nI 6 from rfl, show (0 : Int32) = nI 0 from rfl, pk_mul, nI_add, show s + 6 + 1 = s + 7 from rfl, show 0 * 6 + n = n by omega]
      refine s_put (by rw [l7]; omega) (fun y ey => ?_)
      rw [ey, nI_1]
      refine ih (n + 1) _ (by omega) (by omega) (fun k hk => ?_) (fun k h1 h2 => ?_) (fun c hc => by rw [up_c hc, b5 c hc])
      · by_cases z2 : k = n
        · rw [z2, up_s]
        · rw [up_k z2]; exact b3 k (by omega)
      · rw [up_k (by omega)]; exact b4 k (by omega) h2
  exact lp fu 0 M1 (by omega) (by omega) (fun k hk => absurd hk (by omega)) (fun k _ h2 => a1 k h2) a2
theorem s_SiInit {fu : Nat} {post : Mm → Prop} {s : Nat} {M : Mm} (hf : 1300 ≤ fu) (hs : kd s = 8) (hz : ∀ c, s < c → c < s + 10 → ∀ j, M c j = 0) (h : ∀ M', SitC M' s eD → (∀ c, (c ≤ s ∨ s + 10 ≤ c) → M' c = M c) → post M') : f_Si_init fu post s M := by
  unfold f_Si_init f_Au_init
  refine ⟨hz (s + 2) (by omega) (by omega), hz (s + 3) (by omega) (by omega), hz (s + 4) (by omega) (by omega), hz (s + 5) (by omega) (by omega), hz (s + 1) (by omega) (by omega), fun M1 e1 => ?_⟩
  have k1 : ∀ c, c ≠ s + 1 → M1 c = M c := fun c hc => by rw [e1, up_c hc]
  unfold f_Co_init
  refine ⟨fun j => by rw [show s + 6 + 1 = s + 7 from rfl, k1 _ (by omega)]; exact hz (s + 7) (by omega) (by omega) j, ?_⟩
  refine s_setAll hf hs (fun M2 a1 a2 a3 => ?_)
  unfold f_To_init
  refine ⟨fun j => by rw [show s + 8 + 1 = s + 9 from rfl, a3 _ (by omega), k1 _ (by omega)]; exact hz (s + 9) (by omega) (by omega) j, fun j => by rw [a3 _ (by omega), k1 _ (by omega)]; exact hz (s + 8) (by omega) (by omega) j, ?_⟩
  refine h M2 ⟨?_, fun q hq => ?_, fun k hk => ⟨?_, fun y => absurd ?_ y⟩, fun k hk => ⟨a1 k hk, ?_, ?_, ?_⟩, ?_, fun i hi => ?_⟩ (fun c hc => by rw [a3 c (by omega), k1 c (by omega)])
  · rw [a3 _ (by omega), e1, up_s]; rfl
  · rw [a3 _ (by omega), k1 _ (by omega), hz _ (by omega) (by omega)]
    have : eD 1 = 0 := rfl
    rw [this, Nat.zero_testBit]; rfl
  · rw [a3 _ (by omega), k1 _ (by omega), hz _ (by omega) (by omega)]
    have : eD (2 + k) = 0 := by unfold eD; rw [if_neg (by omega), if_neg (by omega)]
    rw [this]; rfl
  · unfold eD; rw [if_neg (by omega), if_neg (by omega)]
  · rw [a2 _ (by omega) (by omega)]; unfold eD; rw [if_neg (by omega), if_pos (by omega)]
  · rw [a2 _ (by omega) (by omega)]; unfold eD; rw [if_neg (by omega), if_pos (by omega)]
  · rw [a2 _ (by omega) (by omega)]; unfold eD; rw [if_neg (by omega), if_pos (by omega)]
  · rw [a3 _ (by omega), k1 _ (by omega), hz _ (by omega) (by omega)]; rfl
  · have : eD 56 = 0 := rfl
    rw [this] at hi; omega
theorem wf_dD : wfD dD := by
  refine ⟨by decide, by decide, fun k hk => Or.inl ?_, fun k hk => ?_, by decide, fun i hi => ?_⟩
  · unfold dD; rw [if_neg (by omega), if_neg (by omega)]
  · unfold dD; rw [if_neg (by omega), if_pos (by omega)]; omega
  · unfold dD; rw [if_neg (by omega), if_neg (by omega)]; omega
theorem init_ok {fu : Nat} (hf : 1300 ≤ fu) : f_SR_init fu (fun M1 => f_Md_init fu JR 145 M1) 0 (fun _ _ => 0) := by
  have kd13 : kd 13 = 8 ∧ kd 23 = 8 ∧ kd 33 = 8 ∧ kd 43 = 8 ∧ kd 53 = 8 ∧ kd 63 = 8 ∧ kd 73 = 8 ∧ kd 83 = 8 ∧ kd 95 = 8 ∧ kd 106 = 8 ∧ kd 124 = 8 := by decide +kernel
  obtain ⟨d1, d2, d3, d4, d5, d6, d7, d8, d9, d10, d11⟩ := kd13
  unfold f_SR_init
  simp only [Nat.reduceAdd]
  refine s_SiInit hf kd_1 (fun _ _ _ _ => rfl) (fun M1 s1 k1 => ?_)
  have z1 : ∀ c, 11 ≤ c → ∀ j, M1 c j = 0 := fun c hc j => by rw [k1 c (by omega)]
  unfold f_Hi_init
  simp only [Nat.reduceAdd]
  refine s_SiInit hf d1 (fun c _ _ j => z1 c (by omega) j) (fun M2 _ k2 => ?_)
  have z2 : ∀ c, 23 ≤ c → ∀ j, M2 c j = 0 := fun c hc j => by rw [k2 c (by omega)]; exact z1 c (by omega) j
  refine s_SiInit hf d2 (fun c _ _ j => z2 c (by omega) j) (fun M3 _ k3 => ?_)
  have z3 : ∀ c, 33 ≤ c → ∀ j, M3 c j = 0 := fun c hc j => by rw [k3 c (by omega)]; exact z2 c (by omega) j
  refine s_SiInit hf d3 (fun c _ _ j => z3 c (by omega) j) (fun M4 _ k4 => ?_)
  have z4 : ∀ c, 43 ≤ c → ∀ j, M4 c j = 0 := fun c hc j => by rw [k4 c (by omega)]; exact z3 c (by omega) j
  refine s_SiInit hf d4 (fun c _ _ j => z4 c (by omega) j) (fun M5 _ k5 => ?_)
  have z5 : ∀ c, 53 ≤ c → ∀ j, M5 c j = 0 := fun c hc j => by rw [k5 c (by omega)]; exact z4 c (by omega) j
  refine s_SiInit hf d5 (fun c _ _ j => z5 c (by omega) j) (fun M6 _ k6 => ?_)
  have z6 : ∀ c, 63 ≤ c → ∀ j, M6 c j = 0 := fun c hc j => by rw [k6 c (by omega)]; exact z5 c (by omega) j
  refine s_SiInit hf d6 (fun c _ _ j => z6 c (by omega) j) (fun M7 _ k7 => ?_)
  have z7 : ∀ c, 73 ≤ c → ∀ j, M7 c j = 0 := fun c hc j => by rw [k7 c (by omega)]; exact z6 c (by omega) j
  refine s_SiInit hf d7 (fun c _ _ j => z7 c (by omega) j) (fun M8 _ k8 => ?_)
  have z8 : ∀ c, 83 ≤ c → ∀ j, M8 c j = 0 := fun c hc j => by rw [k8 c (by omega)]; exact z7 c (by omega) j
  refine s_SiInit hf d8 (fun c _ _ j => z8 c (by omega) j) (fun M9 _ k9 => ?_)
  have z9 : ∀ c, 93 ≤ c → ∀ j, M9 c j = 0 := fun c hc j => by rw [k9 c (by omega)]; exact z8 c (by omega) j
  have low : ∀ c, c < 13 → M9 c = M1 c := fun c hc => by rw [k9 c (by omega), k8 c (by omega), k7 c (by omega), k6 c (by omega), k5 c (by omega), k4 c (by omega), k3 c (by omega), k2 c (by omega)]
  refine ⟨fun j => by rw [low 11 (by omega)]; exact z1 11 (by omega) j, ?_⟩
  unfold f_Gt_init
  simp only [Nat.reduceAdd]
  refine ⟨fun j => z9 94 (by omega) j, ?_⟩
  refine s_SiInit hf d9 (fun c _ _ j => z9 c (by omega) j) (fun M10 _ k10 => ⟨fun j => by rw [k10 93 (by omega)]; exact z9 93 (by omega) j, ?_⟩)
  have z10 : ∀ c, 105 ≤ c → ∀ j, M10 c j = 0 := fun c hc j => by rw [k10 c (by omega)]; exact z9 c (by omega) j
  unfold f_St_init f_Re_init f_Sc_init f_Cu_init
  simp only [Nat.reduceAdd]
  refine s_SiInit hf d10 (fun c _ _ j => z10 c (by omega) j) (fun M11 _ k11 => ?_)
  have z11 : ∀ c, 116 ≤ c → ∀ j, M11 c j = 0 := fun c hc j => by rw [k11 c (by omega)]; exact z10 c (by omega) j
  have t105 : ∀ j, M11 105 j = 0 := fun j => by rw [k11 105 (by omega)]; exact z10 105 (by omega) j
  refine ⟨z11 117 (by omega), z11 118 (by omega), z11 119 (by omega), z11 116 (by omega), z11 120 (by omega), z11 121 (by omega), z11 122 (by omega), t105, ?_⟩
  refine s_SiInit hf d11 (fun c _ _ j => z11 c (by omega) j) (fun M12 _ k12 => ?_)
  have z12 : ∀ c, 134 ≤ c → ∀ j, M12 c j = 0 := fun c hc j => by rw [k12 c (by omega)]; exact z11 c (by omega) j
  have t123 : ∀ j, M12 123 j = 0 := fun j => by rw [k12 123 (by omega)]; exact z11 123 (by omega) j
  refine ⟨z12 135 (by omega), z12 136 (by omega), z12 137 (by omega), z12 134 (by omega), z12 138 (by omega), z12 139 (by omega), z12 140 (by omega), t123, z12 142 (by omega), z12 143 (by omega), z12 141 (by omega), z12 144 (by omega), fun M13 e13 => ?_⟩
  unfold f_Au_setAccepting
  simp only [Nat.reduceAdd]
  refine s_put (n := 0) (by rw [ln_C.2.2.2.2.2.1]; omega) ?_
  have low2 : ∀ c, c < 13 → M12 c = M1 c := fun c hc => by rw [k12 c (by omega), k11 c (by omega), k10 c (by omega), low c hc]
  have low3 : ∀ c, c ≠ 3 → c < 13 → up M13 3 0 1 c = M1 c := fun c h3 hc => by rw [up_c h3, e13, up_c (by omega), low2 c hc]
  have hi3 : ∀ c, 145 ≤ c → ∀ j, up M13 3 0 1 c j = 0 := fun c hc j => by rw [up_c (by omega), e13, up_c (by omega)]; exact z12 c (by omega) j
  have m93 : ∀ j, up M13 3 0 1 93 j = 0 := fun j => by rw [up_c (by omega), e13, up_c (by omega), k12 93 (by omega), k11 93 (by omega), k10 93 (by omega)]; exact z9 93 (by omega) j
  have m105 : ∀ j, up M13 3 0 1 105 j = 0 := fun j => by rw [up_c (by omega), e13, up_c (by omega), k12 105 (by omega)]; exact t105 j
  have m123 : ∀ j, up M13 3 0 1 123 j = 0 := fun j => by rw [up_c (by omega), e13, up_c (by omega)]; exact t123 j
  have m11 : ∀ j, up M13 3 0 1 11 j = 0 := fun j => by rw [low3 11 (by omega) (by omega)]; exact z1 11 (by omega) j
  have m3 : ∀ q, q < 6 → up M13 3 0 1 3 q = nI (if (dD 1).testBit q then 1 else 0) := fun q hq => by
    have hh := s1.2.1 q hq
    have e0 : (eD 1).testBit q = false := by rw [show eD 1 = 0 from rfl, Nat.zero_testBit]
    rw [e0] at hh
    by_cases z : q = 0
    · rw [z, up_s]; rfl
    · rw [up_k z, e13, up_c (by omega), low2 3 (by omega)]
      have e1 : (dD 1).testBit q = false := by
        have : q = 1 ∨ q = 2 ∨ q = 3 ∨ q = 4 ∨ q = 5 := by omega
        rcases this with rfl | rfl | rfl | rfl | rfl <;> decide
      rw [e1]; exact hh
  have ed : ∀ k, 2 ≤ k → dD k = eD k := fun k hk => by unfold dD eD; rw [if_neg (show ¬ k < 2 by omega), if_neg (show ¬ k = 0 by omega)]
  have hS : SitC (up M13 3 0 1) 1 dD := by
    obtain ⟨c1, c2, c3, c4, c5, c6⟩ := s1
    refine ⟨by rw [low3 2 (by omega) (by omega)]; exact c1, m3, fun k hk => ?_, fun k hk => ?_, ?_, fun i hi => ?_⟩
    · rw [show 1 + 3 = 4 from rfl, show 1 + 4 = 5 from rfl, show 1 + 5 = 6 from rfl, low3 4 (by omega) (by omega), low3 5 (by omega) (by omega), low3 6 (by omega) (by omega), ed _ (by omega)]; exact c3 k hk
    · rw [show 1 + 7 = 8 from rfl, low3 8 (by omega) (by omega), ed _ (by omega), ed _ (by omega), ed _ (by omega)]; exact c4 k hk
    · rw [show 1 + 8 = 9 from rfl, low3 9 (by omega) (by omega), ed _ (by omega)]; exact c5
    · rw [show dD 56 = 0 from rfl] at hi; omega
  unfold f_Md_init
  simp only [Nat.reduceAdd]
  refine ⟨hi3 146 (by omega), hi3 147 (by omega), hi3 148 (by omega), hi3 149 (by omega), hi3 150 (by omega), hi3 151 (by omega), hi3 152 (by omega), hi3 153 (by omega), hi3 154 (by omega), hi3 155 (by omega), hi3 145 (by omega), ?_⟩
  refine s_clearData ln_M.1 hf (fun M14 a1 a2 => ?_)
  rw [ln_M.1]
  refine ⟨vp_in_nI (n := 0) (by omega) (by omega), fun M15 e15 => ⟨vp_in_nI (n := 1) (by omega) (by omega), fun M16 e16 => ?_⟩⟩
  have kk : ∀ c, c ≠ 146 → M16 c = up M13 3 0 1 c := fun c hc => by rw [e16, up_c hc, e15, up_c hc, a2 c hc]
  refine ⟨dD, 0, fun _ => dD, 0, fun _ => 0, ⟨wf_dD, fun i hi => absurd hi (by omega), by omega, by omega, fun i hi => absurd hi (by omega)⟩, ⟨hS.keep (fun c _ _ => kk c (by omega)), ⟨by omega, by rw [kk 11 (by omega)]; exact m11 2, 0, by omega, by rw [kk 11 (by omega)]; exact m11 1, fun i hi => absurd hi (by omega)⟩, by rw [kk 93 (by omega)]; exact m93 2, fun i hi => absurd hi (by omega), Or.inl (by rw [kk 105 (by omega)]; exact m105 5), Or.inl (by rw [kk 123 (by omega)]; exact m123 5)⟩, ⟨fun k hk => ?_, ⟨by rw [kk 145 (by omega)]; exact hi3 145 (by omega) 3, fun i hi => absurd hi (by omega)⟩, by rw [kk 145 (by omega)]; exact hi3 145 (by omega) 5, fun i hi => absurd hi (by omega)⟩⟩
  rw [Nat.zero_add, e16]
  by_cases y1 : k = 1
  · rw [y1, up_s]; rfl
  · rw [up_k y1, e15]
    by_cases y0 : k = 0
    · rw [y0, up_s]; rfl
    · rw [up_k y0, a1 k hk]
      unfold dD
      rw [if_neg (show ¬ k < 2 by omega)]
