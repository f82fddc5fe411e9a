/-! the model's table of local costs -/
theorem eg_pos {D : Nat → Nat} (hw : wfD D) {la n op kd n' a : Nat} (hla : la ≠ 0) (hk : kd < 6) (h : eg D la n op kd = some (n', a)) : 1 ≤ a ∧ op ≠ 0 := by
  have hcost := hw.2.2.2.1
  have h4 : op = 0 ∨ op = 1 ∨ op = 2 ∨ 3 ≤ op := by omega
  unfold eg at h
  rcases h4 with rfl | rfl | rfl | h4
  · rw [if_pos rfl, if_neg (fun y => hla y.1)] at h; cases h
  · rw [if_neg (by omega), if_pos rfl] at h
    split at h
    · rw [Option.map_eq_some_iff] at h
      obtain ⟨c, hc, e⟩ := h
      cases e
      have := hcost (12 + kd) (by omega)
      rw [show 38 + (12 + kd) = 50 + kd by omega] at this
      exact ⟨this.1, by omega⟩
    · cases h
  · rw [if_neg (by omega), if_neg (by omega), if_pos rfl] at h
    split at h
    · cases h
      have := hcost (6 + kd) (by omega)
      rw [show 38 + (6 + kd) = 44 + kd by omega] at this
      exact ⟨this.1, by omega⟩
    · cases h
  · rw [if_neg (by omega), if_neg (by omega), if_neg (by omega), Option.map_eq_some_iff] at h
    obtain ⟨c, hc, e⟩ := h
    cases e
    have := hcost kd (by omega)
    exact ⟨this.1, by omega⟩
theorem Ls_endL {D : Nat → Nat} (hw : wfD D) {la n : Nat} (hla : la ≠ 0) (h : Ls D la n = 0) : term D la n = true := by
  rcases PP_cases (Ls_PP (show Ls D la n < 1000000 by omega)) with ⟨k1, _⟩ | ⟨op, kd, n', a, y, k1, k2, k3, k4, k5⟩
  · exact k1
  · have := (eg_pos hw hla k2 k3).1
    omega
def fr12 (M M' : Mm) : Prop := (∀ c, c ≠ 145 → M' c = M c) ∧ ∀ k, k ≠ 12 → M' 145 k = M 145 k
theorem m_passes {fu : Nat} {post : Int32 → Mm → Prop} {D : Nat → Nat} {la p c : Nat} {M : Mm} (hf : 1300 ≤ fu) (hw : wfD D) (hD : SitM M 146 0 D) (hla : la ≠ 0) (hla5 : la ≤ 5) (hp : p ≤ D 56) (hc : c < 96) (h : ∀ M', fr12 M M' → post (if term D la (96 * p + c) = true then 1 else 0) M') : f_Md_passes fu post 145 (nI (96 * p + c)) (nI la) M := by
  have h12 := hw.2.2.2.2.1
  unfold term at h
  rw [if_neg hla, show (96 * p + c) / 96 = p by omega, show (96 * p + c) % 96 = c by omega] at h
  unfold f_Md_passes
  simp only [Nat.reduceAdd]
  rw [show (96 : Int32) = nI 96 from rfl, pk_rem (by omega) (by omega) (by omega), pk_div (by omega) (by omega) (by omega), show (96 * p + c) / 96 = p by omega, show (96 * p + c) % 96 = c by omega, ln_M.1, hD.at (by omega)]
  intro y1 e1 y2 e2
  rw [e1, nI_add] at e2
  rw [e1, e2]
  refine ⟨vp_in_nI (n := 56) (by omega) (by omega), pk_lt (D 56) (p + la) (fun z => ?_) (fun z => ?_)⟩
  · rw [if_neg (show ¬ p + la ≤ D 56 by omega)] at h
    refine m_findError hf hw hp hc hD (fun M' a1 a2 a3 => ?_)
    have sp := runD_spec hw (D 56 - p) p c hc (by omega)
    have hh := h M' ⟨a3, a2⟩
    rw [show (decide ((runD D (D 56 - p) p c).1 = D 56) && isF D (runD D (D 56 - p) p c).2) = acc D p c from rfl] at hh
    cases hb : acc D p c
    · rw [hb, if_neg (by decide)] at hh
      exact br_f (fun q => nI_pos (n := (runD D (D 56 - p) p c).1) (by omega) (by rw [show nI (runD D (D 56 - p) p c).1 = (-9 : Int32) from q]; decide)) hh
    · rw [hb, if_pos rfl] at hh
      exact br_t rfl hh
  · rw [if_pos z] at h
    refine m_run (e := p + la) hf hw (by omega) (by omega) hc hD (fun M' a1 a2 a3 => ?_)
    rw [show p + la - p = la by omega]
    have sp := runD_spec hw la p c hc (by omega)
    have hh := h M' ⟨a3, a2⟩
    refine pk_eq (runD D la p c).1 (p + la) (fun z2 => ?_) (fun z2 => ?_)
    · rw [if_pos (by simp [z2])] at hh; exact hh
    · rw [if_neg (by simp [z2])] at hh; exact hh
def VL (D : Nat → Nat) (M : Mm) (σ : Nat → Nat × Nat) : Prop := SitM M 146 0 D ∧ ∀ n, n < 96 * (D 56 + 1) → M 155 n = nI (σ n).1
def QL (D : Nat → Nat) (la m n : Nat) (v : Nat × Nat) : Prop := v.2 = 0 ∧ v.1 ≤ 1000000 ∧ (v.1 < 1000000 → PP D la n v.1) ∧ (term D la n = true → v.1 = 0) ∧ (r1 D la n < m → v.1 = Ls D la n)
def FL (D : Nat → Nat) (la : Nat) (σ : Nat → Nat × Nat) (n : Nat) (v : Nat × Nat) : Prop := v.2 = 0 ∧ v.1 ≤ (σ n).1 ∧ (v.1 = (σ n).1 ∨ ∃ op kd n' a, op < 4 ∧ kd < 6 ∧ eg D la n op kd = some (n', a) ∧ v.1 = a + (σ n').1) ∧ ∀ op kd n' a, op < 4 → kd < 6 → eg D la n op kd = some (n', a) → v.1 ≤ a + (σ n').1
def frL (M M' : Mm) : Prop := (∀ c, c ≠ 145 → c ≠ 155 → M' c = M c) ∧ ∀ k, k ≠ 12 → k ≠ 18 → M' 145 k = M 145 k
theorem frL.trans {M M1 M2 : Mm} (h : frL M M1) (h2 : frL M1 M2) : frL M M2 := ⟨fun c a b => (h2.1 c a b).trans (h.1 c a b), fun k a b => (h2.2 k a b).trans (h.2 k a b)⟩
theorem m_improveLocal {fu : Nat} {post : Int32 → Mm → Prop} {D : Nat → Nat} {la p c : Nat} {σ : Nat → Nat × Nat} {M : Mm} (hf : 1300 ≤ fu) (hw : wfD D) (hla : la ≠ 0) (hV : VL D M σ) (hp : p ≤ D 56) (hc : okc D c) (hb : ∀ p' c', p ≤ p' → p' ≤ D 56 → okc D c' → (σ (96 * p' + c')).1 ≤ 1000000 ∧ (σ (96 * p' + c')).2 = 0)
    (h : ∀ M' v b, VL D M' (vput σ (96 * p + c) v) → FL D la σ (96 * p + c) v → frL M M' → ((b = 1 ∧ v ≠ σ (96 * p + c)) ∨ (b = 0 ∧ v = σ (96 * p + c))) → post b M') : f_Md_improveLocal fu post 145 (nI (96 * p + c)) M := by
  have h12 := hw.2.2.2.2.1
  have hc96 := (okc_lt hw hc).2
  have L155 : ln 155 = 1248 := ln_M.2.2.2.2.2.2.2.2.2
  obtain ⟨hs1, hs2⟩ := hb p c (Nat.le_refl _) hp hc
  have e155 := hV.2 (96 * p + c) (by omega)
  have ops : ∀ kf op (v : Nat) (M1 : Mm), 5 ≤ kf + op → 1 ≤ op → op ≤ 4 → fr18 M M1 → v ≤ (σ (96 * p + c)).1 → (v = (σ (96 * p + c)).1 ∨ ∃ op kd n' a, op < 4 ∧ kd < 6 ∧ eg D la (96 * p + c) op kd = some (n', a) ∧ v = a + (σ n').1) → (∀ op' kd n' a, op' < op → kd < 6 → eg D la (96 * p + c) op' kd = some (n', a) → v ≤ a + (σ n').1) → f_Md_improveLocal_9 fu post kf 145 (nI (96 * p + c)) (nI v) (nI op) M1 := by
    intro kf
    induction kf with
    | zero => intro op v M1 a1 a2 a3; omega
    | succ kf ih =>
      intro op v M1 a1 a2 a3 hfr b1 b2 b3
      rw [f_Md_improveLocal_9]
      by_cases z4 : op = 4
      · subst z4
        refine br_t (by decide) ?_
        unfold f_Md_improveLocal_74
        simp only [Nat.reduceAdd]
        rw [L155, nI_clamp (by omega), hfr.1 155 (by omega), e155]
        have fin : ∀ kx : Int32, ((kx = 1 ∧ (v, 0) ≠ σ (96 * p + c)) ∨ (kx = 0 ∧ (v, 0) = σ (96 * p + c))) → vp_in (nI (96 * p + c)) 1248 ∧ ∀ M2, M2 = up M1 155 (96 * p + c) (nI v) → zb kx ∧ post kx M2 := fun kx hkx => by
          refine ⟨vp_in_nI (by omega) (by omega), fun M2 e2 => ⟨hkx.elim (fun y => Or.inr y.1) (fun y => Or.inl y.1), h M2 (v, 0) kx ⟨hV.1.keep (fun _ _ => by rw [e2, up_c (by omega), hfr.1 146 (by omega)]), fun n hn => ?_⟩ ⟨rfl, b1, b2, fun op kd n' a k1 k2 k3 => b3 op kd n' a k1 k2 k3⟩ ⟨fun a x y => by rw [e2, up_c y, hfr.1 a x], fun k _ x => by rw [e2, up_c (by omega), hfr.2 k x]⟩ hkx⟩⟩
          by_cases z : n = 96 * p + c
          · rw [z, vput_s, e2, up_s]
          · rw [vput_k z, e2, up_k z, hfr.1 155 (by omega)]; exact hV.2 n hn
        refine ⟨vp_in_nI (by omega) (by omega), pk_le (σ (96 * p + c)).1 v (fun z => fin 0 (Or.inr ⟨rfl, Prod.ext (by show v = _; omega) hs2.symm⟩)) (fun z => fin 1 (Or.inl ⟨rfl, fun y => by rw [← y] at z; exact absurd z (Nat.lt_irrefl _)⟩))⟩
      · refine br_f (by rw [show (3 : Int32) = nI 3 from rfl, nI_ltI (by omega) (by omega)]; omega) ?_
        have hop4 : op < 4 := by clear b2; omega
        have kinds : ∀ kg k (v : Nat) (M2 : Mm), 7 ≤ kg + k → k ≤ 6 → fr18 M M2 → v ≤ (σ (96 * p + c)).1 → (v = (σ (96 * p + c)).1 ∨ ∃ op kd n' a, op < 4 ∧ kd < 6 ∧ eg D la (96 * p + c) op kd = some (n', a) ∧ v = a + (σ n').1) → (∀ op' kd n' a, (op' < op ∨ (op' = op ∧ kd < k)) → kd < 6 → eg D la (96 * p + c) op' kd = some (n', a) → v ≤ a + (σ n').1) → f_Md_improveLocal_17 fu post (f_Md_improveLocal_9 fu post kf) kg 145 (nI (96 * p + c)) (nI v) (nI op) (nI k) M2 := by
          intro kg
          induction kg with
          | zero => intro k v M2 c1 c2; omega
          | succ kg ihk =>
            intro k v M2 c1 c2 hfr2 d1 d2 d3
            rw [f_Md_improveLocal_17]
            refine pk_le 6 k (fun z y ey => ?_) (fun z => ?_)
            · rw [ey, nI_1]
              exact ih (op + 1) v M2 (by omega) (by omega) (by omega) hfr2 d1 d2 (fun op' kd n' a k1 k2 k3 => d3 op' kd n' a (by omega) k2 k3)
            · unfold f_Md_localBy f_Md_improveLocal_46
              refine m_edge (la := la) hw (hV.1.keep (fun _ _ => by rw [hfr2.1 146 (by omega)])) hp hc96 (by omega) z (fun y => by omega) (fun he M3 f3 => ?_) (fun n' a he M3 f3 m18 => ?_)
              · refine br_t rfl (pk_le v 1000000 (fun z2 y ey => ?_) (fun z2 => by omega))
                rw [ey, nI_1]
                refine ihk (k + 1) v M3 (by omega) (by omega) (hfr2.trans f3) d1 d2 (fun op' kd n2 a2 k1 k2 k3 => ?_)
                by_cases y2 : op' = op ∧ kd = k
                · rw [y2.1, y2.2, he] at k3; cases k3
                · exact d3 op' kd n2 a2 (by omega) k2 k3
              · obtain ⟨p', c', e1, g1, g2, g3, g4⟩ := eg_G (okc_clo hw) hc hp z he
                have ha := (eg_ok hw (okn_of (okc_clo hw) hc hp) z he).2.1
                have fM := hfr2.trans f3
                have hv' := (hb p' c' (by omega) g3 g1).1
                have t3 := hV.2 n' (by omega)
                rw [← e1] at hv'
                refine br_f (fun y => nI_pos (n := n') (by omega) (by rw [y]; decide)) ?_
                simp only [Nat.reduceAdd]
                rw [L155, nI_clamp (by omega), fM.1 155 (by omega), t3, m18, nI_add]
                have upd : ∀ v2, v2 ≤ v → v2 ≤ a + (σ n').1 → (v2 = v ∨ v2 = a + (σ n').1) → ∀ y, y = nI k + 1 → f_Md_improveLocal_17 fu post (f_Md_improveLocal_9 fu post kf) kg 145 (nI (96 * p + c)) (nI v2) (nI op) y M3 := fun v2 u1 u2 u3 y ey => by
                  rw [ey, nI_1]
                  refine ihk (k + 1) v2 M3 (by omega) (by omega) fM (by omega) ?_ (fun op' kd n2 a2 k1 k2 k3 => ?_)
                  · rcases u3 with u3 | u3
                    · rw [u3]; exact d2
                    · exact Or.inr ⟨op, k, n', a, hop4, z, he, u3⟩
                  · by_cases y2 : op' = op ∧ kd = k
                    · rw [y2.1, y2.2, he] at k3; cases k3; exact u2
                    · have := d3 op' kd n2 a2 (by omega) k2 k3
                      omega
                refine ⟨vp_in_nI (by omega) (by omega), pk_le v ((σ n').1 + a) (fun z2 => upd v (Nat.le_refl _) (by omega) (Or.inl rfl)) (fun z2 => ?_)⟩
                have := upd ((σ n').1 + a) (by omega) (by omega) (Or.inr (by omega))
                exact this
        exact kinds fu 0 v M1 (by omega) (by omega) hfr b1 b2 (fun op' kd n' a k1 k2 k3 => b3 op' kd n' a (by omega) k2 k3)
  unfold f_Md_improveLocal
  simp only [Nat.reduceAdd]
  rw [L155, nI_clamp (by omega), e155]
  refine ⟨vp_in_nI (by omega) (by omega), fun y ey => ?_⟩
  rw [ey]
  refine ops fu 1 _ M (by omega) (by omega) (by omega) (fr18_refl M) (Nat.le_refl _) (Or.inl rfl) (fun op' kd n' a k1 k2 k3 => ?_)
  exact absurd (show op' = 0 by omega) (eg_pos hw hla k2 k3).2
theorem gen_L {fu : Nat} {D : Nat → Nat} {la : Nat} (hf : 1300 ≤ fu) (hw : wfD D) (hla : la ≠ 0) : GenOK D (fun P => f_Md_improveLocal fu P) (VL D) (QL D la) (FL D la) frL := by
  have rt : ∀ n v, QL D la 192 n v → v.1 = Ls D la n := fun n v q => q.2.2.2.2 (by have := r1_lt96 D la n; omega)
  have hQm : ∀ m n v, QL D la 192 n v → QL D la m n v := fun m n v q => ⟨q.1, q.2.1, q.2.2.1, q.2.2.2.1, fun _ => rt n v q⟩
  refine ⟨fun M => ⟨fun _ _ _ => rfl, fun _ _ _ => rfl⟩, fun M M' M2 a b => a.trans b, fun M σ hV => hV.1.at (by omega), fun m m' n v hm q => ⟨q.1, q.2.1, q.2.2.1, q.2.2.2.1, fun y => q.2.2.2.2 (by omega)⟩, hQm, fun n v v' q q' => Prod.ext (by rw [rt n v q, rt n v' q']) (by rw [q.1, q'.1]), fun σ m p c v hp hc h1 h2 hF => ?_, fun M σ p c post hV hp hc h1 h2 h => m_improveLocal hf hw hla hV hp hc (fun p' c' x y z => ?_) h⟩
  · have hn := okn_of (okc_clo hw) hc hp
    have hme := h1 c hc
    have lev := fun op kd n' a (x2 : kd < 6) (x3 : eg D la (96 * p + c) op kd = some (n', a)) => lev_of hw (m := m) (Q := QL D la) (hQm m) hp hc x2 h1 h2 x3
    have k1 : v.1 ≤ 1000000 := Nat.le_trans hF.2.1 hme.2.1
    have k2 : v.1 < 1000000 → PP D la (96 * p + c) v.1 := fun y => by
      rcases hF.2.2.1 with q | ⟨op, kd, n', a, x1, x2, x3, x4⟩
      · rw [q]; exact hme.2.2.1 (by omega)
      · rw [x4]; exact PP_edge x1 x2 x3 ((lev op kd n' a x2 x3).2.1.2.2.1 (by omega))
    have k3 : term D la (96 * p + c) = true → v.1 = 0 := fun y => by
      have e1 := hme.2.2.2.1 y
      have e2 := hF.2.1
      omega
    refine ⟨hF.1, k1, k2, k3, fun y => step_min hw hn k1 k2 k3 (l := fun k => (σ k).1) (m := m) (fun op kd n' a x1 x2 x3 => ⟨hF.2.2.2 op kd n' a x1 x2 x3, fun q => ?_⟩) y⟩
    obtain ⟨g1, g2, g3⟩ := lev op kd n' a x2 x3
    rcases q with q | q
    · exact rt _ _ (g3 q)
    · exact g2.2.2.2.2 q
  · by_cases z2 : p' = p
    · rw [z2]; exact ⟨(h1 c' z).2.1, (h1 c' z).1⟩
    · exact ⟨(h2 p' c' (by omega) y z).2.1, (h2 p' c' (by omega) y z).1⟩
def linit (D : Nat → Nat) (la n : Nat) : Nat := if 0 < n % 96 % 16 ∧ term D la n = true then 0 else 1000000
theorem m_localInit {fu : Nat} {post : Mm → Prop} {D : Nat → Nat} {la : Nat} (hf : 1300 ≤ fu) (hw : wfD D) (hla : la ≠ 0) (hla5 : la ≤ 5) : ∀ (kf i : Nat) (M : Mm), 96 * (D 56 + 1) + 1 ≤ kf + i → i ≤ 96 * (D 56 + 1) → SitM M 146 0 D → (∀ n, n < i → M 155 n = nI (linit D la n)) →
    (∀ M', (∀ n, n < 96 * (D 56 + 1) → M' 155 n = nI (linit D la n)) → frL M M' → f_Md_findLocalCosts_63 fu post fu 145 (nI (D 56)) M') → f_Md_findLocalCosts_2 fu post kf 145 (nI la) (nI i) M := by
  have h12 := hw.2.2.2.2.1
  have v56 : vp_in 56 69 := vp_in_nI (n := 56) (by omega) (by omega)
  have L155 : ln 155 = 1248 := ln_M.2.2.2.2.2.2.2.2.2
  intro kf
  induction kf with
  | zero => intro i M h1 h2; omega
  | succ kf ih =>
    intro i M h1 h2 hD h0 h
    rw [f_Md_findLocalCosts_2]
    simp only [Nat.reduceAdd]
    rw [ln_M.1, hD.at (by omega), nI_1, show (96 : Int32) = nI 96 from rfl, pk_mul]
    refine ⟨v56, pk_le (96 * (D 56 + 1)) i (fun z => ⟨v56, fun y ey => ?_⟩) (fun z => ?_)⟩
    · rw [ey]
      exact h M (fun n hn => h0 n (by omega)) ⟨fun _ _ _ => rfl, fun _ _ _ => rfl⟩
    · have put : ∀ (M4 : Mm) (v : Nat), v = linit D la i → fr12 M M4 → f_Md_findLocalCosts_48 fu post (f_Md_findLocalCosts_2 fu post kf) 145 (nI la) (nI i) 155 (nI i) (nI v) M4 := fun M4 v hv hfr => by
        unfold f_Md_findLocalCosts_48
        rw [L155, nI_clamp (by omega)]
        refine ⟨vp_in_nI (by omega) (by omega), fun M2 e2 y ey => ?_⟩
        rw [ey, nI_1]
        have fr2 : frL M M2 := ⟨fun a x y => by rw [e2, up_c y, hfr.1 a x], fun k x _ => by rw [e2, up_c (by omega), hfr.2 k x]⟩
        refine ih (i + 1) M2 (by omega) (by omega) (hD.keep (fun _ _ => by rw [fr2.1 146 (by omega) (by omega)])) (fun n hn => ?_) (fun M' a1 a2 => h M' a1 (fr2.trans a2))
        by_cases z2 : n = i
        · rw [z2, e2, up_s, hv]
        · rw [e2, up_k z2, hfr.1 155 (by omega)]; exact h0 n (by omega)
      have rf : fr12 M M := ⟨fun _ _ => rfl, fun _ _ => rfl⟩
      unfold f_Md_isConfig f_Md_findLocalCosts_46
      rw [pk_rem (by omega) (by omega) (by omega), show (16 : Int32) = nI 16 from rfl, pk_rem (by omega) (by omega) (by omega)]
      refine pk_le (i % 96 % 16) 0 (fun z2 => br_t (by rfl) ?_) (fun z2 => br_f (by decide) ?_)
      · exact put M 1000000 (by unfold linit; rw [if_neg (fun y => by omega)]) rf
      · have hi : i = 96 * (i / 96) + i % 96 := by omega
        have e1 : nI i = nI (96 * (i / 96) + i % 96) := by rw [← hi]
        have hps : ∀ (Q : Int32 → Mm → Prop), (∀ M', fr12 M M' → Q (if term D la i = true then 1 else 0) M') → f_Md_passes fu Q 145 (nI i) (nI la) M := fun Q hQ => by
          rw [e1]
          refine m_passes hf hw hD hla hla5 (by omega) (by omega) ?_
          rw [← hi]; exact hQ
        refine hps _ (fun M' f' => ?_)
        cases ht : term D la i with
        | true =>
          rw [if_pos rfl]
          exact br_f (by decide) (put M' 0 (by unfold linit; rw [if_pos ⟨z2, ht⟩]) f')
        | false =>
          rw [if_neg (by decide)]
          exact br_t (by rfl) (put M' 1000000 (by unfold linit; rw [if_neg (fun y => by rw [ht] at y; cases y.2)]) f')
def TL (M : Mm) (D : Nat → Nat) (la : Nat) : Prop := ∀ p c, p ≤ D 56 → okc D c → M 155 (96 * p + c) = nI (Ls D la (96 * p + c))
theorem m_findLocalCosts {fu : Nat} {post : Mm → Prop} {D : Nat → Nat} {la : Nat} {M : Mm} (hf : 1300 ≤ fu) (hw : wfD D) (hla : la ≠ 0) (hla5 : la ≤ 5) (hD : SitM M 146 0 D) (h : ∀ M', TL M' D la → frL M M' → post M') : f_Md_findLocalCosts fu post 145 (nI la) M := by
  have h12 := hw.2.2.2.2.1
  unfold f_Md_findLocalCosts
  refine m_localInit hf hw hla hla5 fu 0 M (by omega) (by omega) hD (fun n hn => absurd hn (by omega)) (fun M1 a1 a2 => ?_)
  rw [eL_63, ← dI_s]
  refine g_levels (gen_L hf hw hla) hw hf fu (D 56 + 1) (fun n => (linit D la n, 0)) M1 (by omega) (Nat.le_refl _) ⟨hD.keep (fun _ _ => by rw [a2.1 146 (by omega) (by omega)]), fun n hn => a1 n hn⟩ (fun p c x y => by omega) (fun p c x y => ?_) (fun M' σ b1 b2 b3 => h M' (fun p c hp hc => ?_) (a2.trans b3))
  · have hc96 := (okc_lt hw y).2
    have h0 : 0 < (96 * p + c) % 96 % 16 := by rw [show (96 * p + c) % 96 = c by omega]; exact y.2
    refine ⟨rfl, ?_, fun q => ?_, fun q => ?_, fun q => absurd q (by omega)⟩
    · show linit D la _ ≤ 1000000; unfold linit; split <;> omega
    · have q' : linit D la (96 * p + c) < 1000000 := q
      show PP D la _ (linit D la _)
      unfold linit at q' ⊢
      by_cases z : 0 < (96 * p + c) % 96 % 16 ∧ term D la (96 * p + c) = true
      · rw [if_pos z]; exact PP_term z.2
      · rw [if_neg z] at q'; omega
    · show linit D la _ = 0
      unfold linit
      rw [if_pos ⟨h0, q⟩]
  · have hc96 := (okc_lt hw hc).2
    have e1 := b1.2 (96 * p + c) (by omega)
    have q1 := (b2 p c hp hc).2.2.2.2 (by have := r1_lt96 D la (96 * p + c); omega)
    rw [e1, q1]
