/-! the model's table of costs, whole, and its table of ways -/
def TC (M : Mm) (D : Nat → Nat) : Prop := ∀ p c, p ≤ D 56 → okc D c → M 150 (96 * p + c) = nI (Ls D 0 (96 * p + c)) ∧ M 151 (96 * p + c) = nI (Ss D 0 (96 * p + c))
theorem m_costInit {fu : Nat} {post : Mm → Prop} {D : Nat → Nat} (hw : wfD D) : ∀ (kf i : Nat) (M : Mm), 96 * (D 56 + 1) + 1 ≤ kf + i → i ≤ 96 * (D 56 + 1) → SitM M 146 0 D → (∀ n, n < i → M 150 n = nI 1000000 ∧ M 151 n = nI 1000000) →
    (∀ M', (∀ n, n < 96 * (D 56 + 1) → M' 150 n = nI 1000000 ∧ M' 151 n = nI 1000000) → (∀ c, c ≠ 150 → c ≠ 151 → M' c = M c) → f_Md_findCosts_48 fu post fu 145 (nI (D 56)) M') → f_Md_findCosts_2 fu post kf 145 (nI i) M := by
  have h12 := hw.2.2.2.2.1
  have v56 : vp_in 56 69 := vp_in_nI (n := 56) (by omega) (by omega)
  obtain ⟨L150, L151⟩ : ln 150 = 1248 ∧ ln 151 = 1248 := ⟨ln_M.2.2.2.2.1, ln_M.2.2.2.2.2.1⟩
  intro kf
  induction kf with
  | zero => intro i M h1 h2; omega
  | succ kf ih =>
    intro i M h1 h2 hD h0 h
    rw [f_Md_findCosts_2]
    simp only [Nat.reduceAdd]
    rw [ln_M.1, L150, L151, hD.at (by omega), nI_1, show (96 : Int32) = nI 96 from rfl, pk_mul]
    refine ⟨v56, pk_le (96 * (D 56 + 1)) i (fun z => ⟨v56, fun y ey => ?_⟩) (fun z => ⟨vp_in_nI (by omega) (by omega), fun M5 e5 => ⟨vp_in_nI (by omega) (by omega), fun M7 e7 y ey => ?_⟩⟩)⟩
    · rw [ey]
      exact h M (fun n hn => h0 n (by omega)) (fun _ _ _ => rfl)
    · rw [nI_clamp (by omega)] at e5 e7
      rw [ey, nI_1]
      refine ih (i + 1) M7 (by omega) (by omega) (hD.keep (fun _ _ => by rw [e7, up_c (by omega), e5, up_c (by omega)])) (fun n hn => ?_) (fun M' a1 a2 => h M' a1 (fun c x y => by rw [a2 c x y, e7, up_c y, e5, up_c x]))
      by_cases z2 : n = i
      · rw [z2, e7, up_c (by omega), up_s, e5, up_s]; exact ⟨rfl, rfl⟩
      · rw [e7, up_c (show (150 : Nat) ≠ 151 by omega), up_k z2, e5, up_k z2, up_c (show (151 : Nat) ≠ 150 by omega)]
        exact h0 n (by omega)
theorem m_findCosts {fu : Nat} {post : Mm → Prop} {D : Nat → Nat} {M : Mm} (hf : 1300 ≤ fu) (hw : wfD D) (hD : SitM M 146 0 D) (h : ∀ M', TC M' D → frK M M' → post M') : f_Md_findCosts fu post 145 M := by
  have h12 := hw.2.2.2.2.1
  unfold f_Md_findCosts
  refine m_costInit hw fu 0 M (by omega) (by omega) hD (fun n hn => absurd hn (by omega)) (fun M1 a1 a2 => ?_)
  rw [eC_48, ← dI_s]
  refine g_levels (gen_C hf hw) hw hf fu (D 56 + 1) (fun _ => (1000000, 1000000)) M1 (by omega) (Nat.le_refl _) ⟨hD.keep (fun _ _ => by rw [a2 146 (by omega) (by omega)]), fun n hn => a1 n hn⟩ (fun p c x y => by omega) (fun p c x y => ⟨SndV_far _ _ _, fun q => absurd q (by omega), fun q => absurd q (by omega)⟩) (fun M' σ b1 b2 b3 => h M' (fun p c hp hc => ?_) ⟨fun c x y z => by rw [b3.1 c x y z, a2 c y z], fun k x y z => by rw [b3.2 k x y z, a2 145 (by omega) (by omega)]⟩)
  have hc96 := (okc_lt hw hc).2
  obtain ⟨e1, e2⟩ := b1.2 (96 * p + c) (by omega)
  obtain ⟨q1, q2⟩ := QC_right (b2 p c hp hc)
  rw [e1, e2, q1, q2]
  exact ⟨rfl, rfl⟩
/-! ways -/
theorem Ls_end {D : Nat → Nat} (hw : wfD D) {c : Nat} (hc : okc D c) (h : Ls D 0 (96 * D 56 + c) = 0) : term D 0 (96 * D 56 + c) = true := by
  rcases PP_cases (Ls_PP (show Ls D 0 (96 * D 56 + c) < 1000000 by omega)) with ⟨k1, _⟩ | ⟨op, kd, n', a, y, k1, k2, k3, k4, k5⟩
  · exact k1
  · have hc96 := (okc_lt hw hc).2
    obtain ⟨e1, e2, e3⟩ := eg_ok hw (okn_of (okc_clo hw) hc (Nat.le_refl _)) k2 k3
    have := e1.1
    omega
theorem eterm_no {D : Nat → Nat} {la : Nat} {l w : Nat → Nat} {n x op kd : Nat} (h : eg D la n op kd = none) : eterm D la l w n x op kd = 0 := by unfold eterm; rw [h]
theorem eterm_yes {D : Nat → Nat} {la : Nat} {l w : Nat → Nat} {n x op kd n' a : Nat} (h : eg D la n op kd = some (n', a)) : eterm D la l w n x op kd = if a + l n' = x ∧ x < 1000000 then w n' else 0 := by unfold eterm; rw [h]
def TCw (M : Mm) (D w : Nat → Nat) : Prop := ∀ p c, p ≤ D 56 → okc D c → M 152 (96 * p + c) = nI (w (96 * p + c)) ∧ w (96 * p + c) ≤ 1001
theorem m_pathsBy {fu : Nat} {post : Int32 → Mm → Prop} {D w : Nat → Nat} {p c op k : Nat} {M : Mm} (hw : wfD D) (hD : SitM M 146 0 D) (hT : TC M D) (hW : TCw M D w) (hp : p ≤ D 56) (hc : okc D c) (ho : op < 4) (hk : k < 6)
    (h : ∀ M', fr18 M M' → post (nI (eterm D 0 (Ls D 0) w (96 * p + c) (Ls D 0 (96 * p + c)) op k)) M') : f_Md_pathsBy fu post 145 (nI (96 * p + c)) (nI op) (nI k) M := by
  have h12 := hw.2.2.2.2.1
  have hc96 := (okc_lt hw hc).2
  obtain ⟨L150, L152⟩ : ln 150 = 1248 ∧ ln 152 = 1248 := ⟨ln_M.2.2.2.2.1, ln_M.2.2.2.2.2.2.1⟩
  unfold f_Md_pathsBy
  refine m_edge (la := 0) hw hD hp hc96 ho hk (fun _ => rfl) (fun he M1 f1 => ?_) (fun n' a he M1 f1 m18 => ?_)
  · rw [eterm_no he] at h
    exact br_t rfl (h M1 f1)
  · rw [eterm_yes he] at h
    obtain ⟨p', c', e1, g1, g2, g3, g4⟩ := eg_G (okc_clo hw) hc hp hk he
    have ha := (eg_ok hw (okn_of (okc_clo hw) hc hp) hk he).2.1
    have l1 := Ls_le1 D 0 (96 * p + c)
    have l2 := Ls_le1 D 0 n'
    have t1 := (hT p c hp hc).1
    have t2 := (hT p' c' g3 g1).1
    obtain ⟨t3, t4⟩ := hW p' c' g3 g1
    rw [← e1] at t2 t3 t4
    have hh := h M1 f1
    refine br_f (fun y => nI_pos (n := n') (by omega) (by rw [y]; decide)) ?_
    simp only [Nat.reduceAdd]
    rw [L150, L152, nI_clamp (by omega), nI_clamp (by omega), f1.1 150 (by omega), f1.1 152 (by omega), t1, t2, t3, m18, nI_add]
    refine ⟨vp_in_nI (by omega) (by omega), pk_le 1000000 (Ls D 0 (96 * p + c)) (fun z => ?_) (fun z => ⟨vp_in_nI (by omega) (by omega), vp_in_nI (by omega) (by omega), pk_eq (Ls D 0 n' + a) (Ls D 0 (96 * p + c)) (fun z2 => ⟨vp_in_nI (by omega) (by omega), ?_⟩) (fun z2 => ?_)⟩)⟩
    · rw [if_neg (by omega)] at hh; exact hh
    · rw [if_pos ⟨by omega, z⟩] at hh; exact hh
    · rw [if_neg (by omega)] at hh; exact hh
theorem eterm_le {D : Nat → Nat} (hw : wfD D) {w : Nat → Nat} {p c op k x : Nat} (hp : p ≤ D 56) (hc : okc D c) (hk : k < 6) (hW : ∀ p c, p ≤ D 56 → okc D c → w (96 * p + c) ≤ 1001) : eterm D 0 (Ls D 0) w (96 * p + c) x op k ≤ 1001 := by
  unfold eterm
  cases he : eg D 0 (96 * p + c) op k with
  | none => exact Nat.zero_le _
  | some y =>
    obtain ⟨n', a⟩ := y
    obtain ⟨p', c', e1, g1, g2, g3, g4⟩ := eg_G (okc_clo hw) hc hp hk he
    show (if a + Ls D 0 n' = x ∧ x < 1000000 then w n' else 0) ≤ 1001
    split
    · rw [e1]; exact hW p' c' g3 g1
    · omega
theorem wL_all {D : Nat → Nat} {la : Nat} {l w : Nat → Nat} {n x : Nat} : wL D la l w n (mO 4) x = wsum D la l w n x := by
  unfold wsum sum6
  simp only [mO, mK, wL]
  omega
def VP (D : Nat → Nat) (M : Mm) (σ : Nat → Nat × Nat) : Prop := SitM M 146 0 D ∧ TC M D ∧ ∀ n, n < 96 * (D 56 + 1) → M 152 n = nI (σ n).1
def QP (D : Nat → Nat) (m n : Nat) (v : Nat × Nat) : Prop := v.2 = 0 ∧ v.1 ≤ 1001 ∧ (r1 D 0 n < m → v.1 = min (Ws D 0 n) 1001)
def FP (D : Nat → Nat) (σ : Nat → Nat × Nat) (n : Nat) (v : Nat × Nat) : Prop := v.2 = 0 ∧ v.1 = min (wsum D 0 (Ls D 0) (fun k => (σ k).1) n (Ls D 0 n)) 1001
def frP (M M' : Mm) : Prop := (∀ c, c ≠ 145 → c ≠ 152 → M' c = M c) ∧ ∀ k, k ≠ 18 → M' 145 k = M 145 k
theorem fr18.trans {M M1 M2 : Mm} (h : fr18 M M1) (h2 : fr18 M1 M2) : fr18 M M2 := ⟨fun c a => (h2.1 c a).trans (h.1 c a), fun k a => (h2.2 k a).trans (h.2 k a)⟩
theorem TC.fr {M M' : Mm} {D : Nat → Nat} (h : TC M D) (k1 : M' 150 = M 150) (k2 : M' 151 = M 151) : TC M' D := fun p c hp hc => by rw [k1, k2]; exact h p c hp hc
theorem m_countPaths {fu : Nat} {post : Int32 → Mm → Prop} {D : Nat → Nat} {p c : Nat} {σ : Nat → Nat × Nat} {M : Mm} (hf : 1300 ≤ fu) (hw : wfD D) (hV : VP D M σ) (hp : p ≤ D 56) (hc : okc D c) (hb : ∀ p' c', p ≤ p' → p' ≤ D 56 → okc D c' → (σ (96 * p' + c')).1 ≤ 1001 ∧ (σ (96 * p' + c')).2 = 0)
    (h : ∀ M' v b, VP D M' (vput σ (96 * p + c) v) → FP D σ (96 * p + c) v → frP M M' → ((b = 1 ∧ v ≠ σ (96 * p + c)) ∨ (b = 0 ∧ v = σ (96 * p + c))) → post b M') : f_Md_countPaths fu post 145 (nI (96 * p + c)) M := by
  have h12 := hw.2.2.2.2.1
  have hc96 := (okc_lt hw hc).2
  have v56 : vp_in 56 69 := vp_in_nI (n := 56) (by omega) (by omega)
  obtain ⟨L150, L152⟩ : ln 150 = 1248 ∧ ln 152 = 1248 := ⟨ln_M.2.2.2.2.1, ln_M.2.2.2.2.2.2.1⟩
  -- the ways as far as they count here: levels from p on
  have hwb : ∀ (xs : List (Nat × Nat)) x, (∀ e, e ∈ xs → e.2 < 6) → wL D 0 (Ls D 0) (fun k => (σ k).1) (96 * p + c) xs x ≤ 1 + 1001 * xs.length := by
    intro xs x
    induction xs with
    | nil => intro _; show wbase D 0 (96 * p + c) x ≤ _; unfold wbase; split <;> simp
    | cons e xs ih =>
      intro he
      have i1 := ih (fun e' h' => he e' (List.mem_cons_of_mem _ h'))
      have i2 : eterm D 0 (Ls D 0) (fun k => (σ k).1) (96 * p + c) x e.1 e.2 ≤ 1001 := by
        unfold eterm
        cases hq : eg D 0 (96 * p + c) e.1 e.2 with
        | none => exact Nat.zero_le _
        | some y =>
          obtain ⟨n', a⟩ := y
          obtain ⟨p', c', e1, g1, g2, g3, g4⟩ := eg_G (okc_clo hw) hc hp (he e List.mem_cons_self) hq
          show (if a + Ls D 0 n' = x ∧ x < 1000000 then (σ n').1 else 0) ≤ 1001
          split
          · rw [e1]; exact (hb p' c' (by omega) g3 g1).1
          · omega
      show wL D 0 (Ls D 0) (fun k => (σ k).1) (96 * p + c) xs x + eterm D 0 (Ls D 0) (fun k => (σ k).1) (96 * p + c) x e.1 e.2 ≤ _
      rw [List.length_cons]
      omega
  have store : ∀ (M1 : Mm) (W : Nat), W = min (wsum D 0 (Ls D 0) (fun k => (σ k).1) (96 * p + c) (Ls D 0 (96 * p + c))) 1001 → fr18 M M1 → f_Md_countPaths_83 fu post 145 (nI (96 * p + c)) (nI W) M1 := fun M1 W hW hfr => by
    have hb1 := hb p c (Nat.le_refl _) hp hc
    have e152 := hV.2.2 (96 * p + c) (by omega)
    unfold f_Md_countPaths_83 f_Md_countPaths_99
    simp only [Nat.reduceAdd]
    rw [L152, nI_clamp (by omega), hfr.1 152 (by omega), e152]
    have fin : ∀ kx : Int32, ((kx = 1 ∧ (W, 0) ≠ σ (96 * p + c)) ∨ (kx = 0 ∧ (W, 0) = σ (96 * p + c))) → vp_in (nI (96 * p + c)) 1248 ∧ ∀ M2, M2 = up M1 152 (96 * p + c) (nI W) → zb kx ∧ post kx M2 := fun kx hkx => by
      refine ⟨vp_in_nI (by omega) (by omega), fun M2 e2 => ⟨hkx.elim (fun y => Or.inr y.1) (fun y => Or.inl y.1), h M2 (W, 0) kx ⟨hV.1.keep (fun _ _ => by rw [e2, up_c (by omega), hfr.1 146 (by omega)]), hV.2.1.fr (by rw [e2, up_c (by omega), hfr.1 150 (by omega)]) (by rw [e2, up_c (by omega), hfr.1 151 (by omega)]), fun n hn => ?_⟩ ⟨rfl, hW⟩ ⟨fun a x y => by rw [e2, up_c y, hfr.1 a x], fun k x => by rw [e2, up_c (by omega), hfr.2 k x]⟩ hkx⟩⟩
      by_cases z : n = 96 * p + c
      · rw [z, vput_s, e2, up_s]
      · rw [vput_k z, e2, up_k z, hfr.1 152 (by omega)]; exact hV.2.2 n hn
    refine ⟨vp_in_nI (by omega) (by omega), pk_eq W (σ (96 * p + c)).1 (fun z => fin 0 (Or.inr ⟨rfl, Prod.ext z hb1.2.symm⟩)) (fun z => fin 1 (Or.inl ⟨rfl, fun y => z (by rw [← y])⟩))⟩
  have hwp : ∀ p' c', p ≤ p' → p' ≤ D 56 → okc D c' → M 152 (96 * p' + c') = nI (σ (96 * p' + c')).1 := fun p' c' _ g2 g3 => hV.2.2 _ (by have := (okc_lt hw g3).2; omega)
  have ops : ∀ kf op (M1 : Mm), 5 ≤ kf + op → op ≤ 4 → fr18 M M1 → f_Md_countPaths_31 fu post kf 145 (nI (96 * p + c)) (nI (wL D 0 (Ls D 0) (fun k => (σ k).1) (96 * p + c) (mO op) (Ls D 0 (96 * p + c)))) (nI op) M1 := by
    intro kf
    induction kf with
    | zero => intro op M1 a1 a2; omega
    | succ kf ih =>
      intro op M1 a1 a2 hfr
      rw [f_Md_countPaths_31]
      by_cases z4 : op = 4
      · subst z4
        have hbd := hwb (mO 4) (Ls D 0 (96 * p + c)) (fun e he => (mO_lt 4 he).2)
        have hlen : (mO 4).length = 24 := rfl
        rw [wL_all] at hbd ⊢
        refine br_t (by decide) (pk_le 1001 _ (fun z => ?_) (fun z => ?_) rfl rfl (by omega) (by omega))
        · exact store M1 1001 (by omega) hfr
        · exact store M1 _ (by omega) hfr
      · refine br_f (by rw [show (3 : Int32) = nI 3 from rfl, nI_ltI (by omega) (by omega)]; omega) ?_
        have kinds : ∀ kg k (M2 : Mm), 7 ≤ kg + k → k ≤ 6 → fr18 M M2 → f_Md_countPaths_39 fu post (f_Md_countPaths_31 fu post kf) kg 145 (nI (96 * p + c)) (nI (wL D 0 (Ls D 0) (fun k => (σ k).1) (96 * p + c) (mK op (mO op) k) (Ls D 0 (96 * p + c)))) (nI op) (nI k) M2 := by
          intro kg
          induction kg with
          | zero => intro k M2 b1 b2; omega
          | succ kg ihk =>
            intro k M2 b1 b2 hfr2
            rw [f_Md_countPaths_39]
            refine pk_le 6 k (fun z y ey => ?_) (fun z => ?_)
            · rw [ey, nI_1]
              have : k = 6 := by omega
              subst this
              exact ih (op + 1) M2 (by omega) (by omega) hfr2
            · -- pathsBy with the ways of the levels from p on
              unfold f_Md_pathsBy
              have nxt : ∀ M3, fr18 M M3 → ∀ v, v = eterm D 0 (Ls D 0) (fun k => (σ k).1) (96 * p + c) (Ls D 0 (96 * p + c)) op k → ∀ y4, y4 = nI (wL D 0 (Ls D 0) (fun k => (σ k).1) (96 * p + c) (mK op (mO op) k) (Ls D 0 (96 * p + c))) + nI v → ∀ y5, y5 = nI k + 1 → f_Md_countPaths_39 fu post (f_Md_countPaths_31 fu post kf) kg 145 (nI (96 * p + c)) y4 (nI op) y5 M3 := fun M3 f3 v hv y4 e4 y5 e5 => by
                rw [e4, e5, nI_add, nI_1, hv]
                exact ihk (k + 1) M3 (by omega) (by omega) f3
              refine m_edge (la := 0) hw (hV.1.keep (fun _ _ => by rw [hfr2.1 146 (by omega)])) hp hc96 (by omega) z (fun _ => rfl) (fun he M3 f3 => ?_) (fun n' a he M3 f3 m18 => ?_)
              · exact br_t rfl (nxt M3 (hfr2.trans f3) 0 (by unfold eterm; rw [he]))
              · obtain ⟨p', c', e1, g1, g2, g3, g4⟩ := eg_G (okc_clo hw) hc hp z he
                have ha := (eg_ok hw (okn_of (okc_clo hw) hc hp) z he).2.1
                have l1 := Ls_le1 D 0 (96 * p + c)
                have l2 := Ls_le1 D 0 n'
                have t1 := (hV.2.1 p c hp hc).1
                have t2 := (hV.2.1 p' c' g3 g1).1
                have t3 := hwp p' c' (by omega) g3 g1
                rw [← e1] at t2 t3
                have fM := hfr2.trans f3
                refine br_f (fun y => nI_pos (n := n') (by omega) (by rw [y]; decide)) ?_
                simp only [Nat.reduceAdd]
                rw [L150, L152, nI_clamp (by omega), nI_clamp (by omega), fM.1 150 (by omega), fM.1 152 (by omega), t1, t2, t3, m18, nI_add]
                refine ⟨vp_in_nI (by omega) (by omega), pk_le 1000000 (Ls D 0 (96 * p + c)) (fun z3 => ?_) (fun z3 => ⟨vp_in_nI (by omega) (by omega), vp_in_nI (by omega) (by omega), pk_eq (Ls D 0 n' + a) (Ls D 0 (96 * p + c)) (fun z2 => ⟨vp_in_nI (by omega) (by omega), ?_⟩) (fun z2 => ?_)⟩)⟩
                · exact nxt M3 fM 0 (by unfold eterm; rw [he]; exact (if_neg (by omega)).symm)
                · exact nxt M3 fM _ (by unfold eterm; rw [he]; exact (if_pos ⟨by omega, z3⟩).symm)
                · exact nxt M3 fM 0 (by unfold eterm; rw [he]; exact (if_neg (by omega)).symm)
        exact kinds fu 0 M1 (by omega) (by omega) hfr
  have st := ops fu 0 M (by omega) (by omega) (fr18_refl M)
  have l1 := Ls_le1 D 0 (96 * p + c)
  have t1 := (hV.2.1 p c hp hc).1
  have tm : term D 0 (96 * p + c) = (decide (p = D 56) && isF D c) := by
    unfold term
    rw [if_pos rfl, show (96 * p + c) / 96 = p by omega, show (96 * p + c) % 96 = c by omega]
  have hst : wL D 0 (Ls D 0) (fun k => (σ k).1) (96 * p + c) (mO 0) (Ls D 0 (96 * p + c)) = if term D 0 (96 * p + c) = true ∧ Ls D 0 (96 * p + c) = 0 then 1 else 0 := rfl
  rw [hst] at st
  unfold f_Md_countPaths f_Md_countPaths_27 f_Md_countPaths_28
  simp only [Nat.reduceAdd]
  rw [ln_M.1, L150, nI_clamp (by omega), hV.1.at (by omega), t1, show (96 : Int32) = nI 96 from rfl, pk_div (by omega) (by omega) (by omega), show (96 * p + c) / 96 = p by omega]
  refine ⟨v56, pk_eq p (D 56) (fun z => ⟨vp_in_nI (by omega) (by omega), pk_eq (Ls D 0 (96 * p + c)) 0 (fun z2 => ?_) (fun z2 => ?_)⟩) (fun z => ?_)⟩
  · rw [if_pos ⟨by subst z; exact Ls_end hw hc z2, z2⟩] at st
    exact st
  · rw [if_neg (fun y => z2 y.2)] at st
    exact st
  · rw [if_neg (fun y => by rw [tm] at y; simp [z] at y)] at st
    exact st
theorem gen_P {fu : Nat} {D : Nat → Nat} (hf : 1300 ≤ fu) (hw : wfD D) : GenOK D (fun P => f_Md_countPaths fu P) (VP D) (QP D) (FP D) frP := by
  have rt : ∀ n v, QP D 192 n v → v.1 = min (Ws D 0 n) 1001 := fun n v q => q.2.2 (by have := r1_lt96 D 0 n; omega)
  refine ⟨fun M => ⟨fun _ _ _ => rfl, fun _ _ => rfl⟩, fun M M' M2 a b => ⟨fun c x y => (b.1 c x y).trans (a.1 c x y), fun k x => (b.2 k x).trans (a.2 k x)⟩, fun M σ hV => hV.1.at (by omega), fun m m' n v hm q => ⟨q.1, q.2.1, fun y => q.2.2 (by omega)⟩, fun m n v q => ⟨q.1, q.2.1, fun _ => rt n v q⟩, fun n v v' q q' => Prod.ext (by rw [rt n v q, rt n v' q']) (by rw [q.1, q'.1]), fun σ m p c v hp hc h1 h2 hF => ?_, fun M σ p c post hV hp hc h1 h2 h => m_countPaths hf hw hV hp hc (fun p' c' x y z => ?_) h⟩
  · have hn := okn_of (okc_clo hw) hc hp
    refine ⟨hF.1, by rw [hF.2]; omega, fun y => ?_⟩
    rw [hF.2]
    refine step_W hw hn (m := m) (l := Ls D 0) (fun op kd n' a x1 x2 x3 => ⟨rfl, fun q => ?_⟩) y
    obtain ⟨g1, g2, g3⟩ := lev_of hw (m := m) (Q := QP D) (fun n v q => ⟨q.1, q.2.1, fun _ => rt n v q⟩) hp hc x2 h1 h2 x3
    rcases q with q | q
    · exact rt _ _ (g3 q)
    · exact g2.2.2 q
  · by_cases z2 : p' = p
    · rw [z2]; exact ⟨(h1 c' z).2.1, (h1 c' z).1⟩
    · exact ⟨(h2 p' c' (by omega) y z).2.1, (h2 p' c' (by omega) y z).1⟩
theorem m_pathInit {fu : Nat} {post : Mm → Prop} {D : Nat → Nat} (hw : wfD D) : ∀ (kf i : Nat) (M : Mm), 96 * (D 56 + 1) + 1 ≤ kf + i → i ≤ 96 * (D 56 + 1) → SitM M 146 0 D → (∀ n, n < i → M 152 n = nI 0) →
    (∀ M', (∀ n, n < 96 * (D 56 + 1) → M' 152 n = nI 0) → (∀ c, c ≠ 152 → M' c = M c) → f_Md_findPaths_43 fu post fu 145 (nI (D 56)) M') → f_Md_findPaths_6 fu post kf 145 (nI i) M := by
  have h12 := hw.2.2.2.2.1
  have v56 : vp_in 56 69 := vp_in_nI (n := 56) (by omega) (by omega)
  have L152 : ln 152 = 1248 := ln_M.2.2.2.2.2.2.1
  intro kf
  induction kf with
  | zero => intro i M h1 h2; omega
  | succ kf ih =>
    intro i M h1 h2 hD h0 h
    rw [f_Md_findPaths_6]
    simp only [Nat.reduceAdd]
    rw [ln_M.1, L152, hD.at (by omega), nI_1, show (96 : Int32) = nI 96 from rfl, pk_mul]
    refine ⟨v56, pk_le (96 * (D 56 + 1)) i (fun z => ⟨v56, fun y ey => ?_⟩) (fun z => ⟨vp_in_nI (by omega) (by omega), fun M5 e5 y ey => ?_⟩)⟩
    · rw [ey]
      exact h M (fun n hn => h0 n (by omega)) (fun _ _ => rfl)
    · rw [nI_clamp (by omega)] at e5
      rw [ey, nI_1]
      refine ih (i + 1) M5 (by omega) (by omega) (hD.keep (fun _ _ => by rw [e5, up_c (by omega)])) (fun n hn => ?_) (fun M' a1 a2 => h M' a1 (fun c x => by rw [a2 c x, e5, up_c x]))
      by_cases z2 : n = i
      · rw [z2, e5, up_s]; rfl
      · rw [e5, up_k z2]
        exact h0 n (by omega)
def frKP (M M' : Mm) : Prop := (∀ c, c ≠ 145 → c ≠ 150 → c ≠ 151 → c ≠ 152 → M' c = M c) ∧ ∀ k, k ≠ 16 → k ≠ 17 → k ≠ 18 → M' 145 k = M 145 k
noncomputable def wM (D : Nat → Nat) (n : Nat) : Nat := min (Ws D 0 n) 1001
theorem m_findPaths {fu : Nat} {post : Mm → Prop} {D : Nat → Nat} {M : Mm} (hf : 1300 ≤ fu) (hw : wfD D) (hD : SitM M 146 0 D) (h : ∀ M', TC M' D → TCw M' D (wM D) → frKP M M' → post M') : f_Md_findPaths fu post 145 M := by
  have h12 := hw.2.2.2.2.1
  unfold f_Md_findPaths
  refine m_findCosts hf hw hD (fun M1 t1 f1 => ?_)
  have hD1 : SitM M1 146 0 D := hD.keep (fun _ _ => by rw [f1.1 146 (by omega) (by omega) (by omega)])
  refine m_pathInit hw fu 0 M1 (by omega) (by omega) hD1 (fun n hn => absurd hn (by omega)) (fun M2 a1 a2 => ?_)
  rw [eP_43, ← dI_s]
  refine g_levels (gen_P hf hw) hw hf fu (D 56 + 1) (fun _ => (0, 0)) M2 (by omega) (Nat.le_refl _) ⟨hD1.keep (fun _ _ => by rw [a2 146 (by omega)]), t1.fr (a2 150 (by omega)) (a2 151 (by omega)), fun n hn => a1 n hn⟩ (fun p c x y => by omega) (fun p c x y => ⟨rfl, by show 0 ≤ 1001; omega, fun q => absurd q (by omega)⟩) (fun M' σ b1 b2 b3 => h M' b1.2.1 (fun p c hp hc => ?_) ⟨fun c x y z u => by rw [b3.1 c x u, a2 c u, f1.1 c x y z], fun k x y z => by rw [b3.2 k z, a2 145 (by omega), f1.2 k x y z]⟩)
  have hc96 := (okc_lt hw hc).2
  have e1 := b1.2.2 (96 * p + c) (by omega)
  have q1 := (b2 p c hp hc).2.2 (by have := r1_lt96 D 0 (96 * p + c); omega)
  unfold wM
  rw [e1, q1]
  exact ⟨rfl, by omega⟩
/-! the three answers from the tables -/
theorem JC.tab {M M' : Mm} {D : Nat → Nat} {cnt : Nat} {H : Nat → Nat → Nat} {len : Nat} {T : Nat → Nat} (h : JC M D cnt H len T) (k : ∀ c, (c < 105 ∨ 105 + 18 ≤ c) → M' c = M c) (h6 : M' 105 6 = nI 0) (hT : Tab M' 105 D 0) : JC M' D cnt H len T := by
  obtain ⟨c1, c2, c3, c4, c5, c6⟩ := h
  refine ⟨c1.keep (fun c _ _ => k c (by omega)), c2.keep (fun c _ _ => k c (by omega)), by rw [k 93 (by omega)]; exact c3, fun i hi => by rw [k 94 (by omega)]; exact c4 i hi, Or.inr ⟨h6, hT⟩, ?_⟩
  rw [k 123 (by omega)]
  exact c6.imp id (fun ⟨la, q1, q2, q3, q4⟩ => ⟨la, q1, q2, q3, q4.keep (fun c _ _ => k c (by omega))⟩)
theorem JM.tab {M M' : Mm} {D : Nat → Nat} {cnt : Nat} {H : Nat → Nat → Nat} {len : Nat} {T : Nat → Nat} (h : JM M D cnt H len T) (k : frKP M M') : JM M' D cnt H len T :=
  h.keep (k.1 146 (by omega) (by omega) (by omega) (by omega)) (k.1 148 (by omega) (by omega) (by omega) (by omega)) (k.1 149 (by omega) (by omega) (by omega) (by omega)) ⟨k.2 3 (by omega) (by omega) (by omega), k.2 5 (by omega) (by omega) (by omega)⟩
theorem frK.KP {M M' : Mm} (k : frK M M') : frKP M M' := ⟨fun c x y z _ => k.1 c x y z, k.2⟩
theorem c_best {fu : Nat} {post : Mm → Prop} {D : Nat → Nat} {cnt : Nat} {H : Nat → Nat → Nat} {len : Nat} {T : Nat → Nat} {M : Mm} (hf : 1300 ≤ fu) (hW : WF D cnt H len T) (hC : JC M D cnt H len T)
    (h : ∀ M', JC M' D cnt H len T → M' 105 6 = nI 0 → Tab M' 105 D 0 → frC M M' → (∀ c, c < 105 → M' c = M c) → post M') : f_St_solve fu post 105 1 (nI 0) M := by
  refine c_solve hf (Or.inl rfl) hW.1 (by omega) hC.1 ?_ (fun M' a1 a2 a3 => h M' (hC.tab a3 a2 a1) a2 a1 (fun c hc => a3 c (by omega)) (fun c hc => a3 c (by omega)))
  exact hC.2.2.2.2.1.imp id (fun q => ⟨0, by omega, q.1, q.2⟩)
theorem ok1 {D : Nat → Nat} (hw : wfD D) : okc D 1 := ⟨by have := hw.1.1; omega, by omega⟩
theorem op_k20 {fu : Nat} (hf : 1300 ≤ fu) : op_20 fu JR := by
  rintro M ⟨D, cnt, H, len, T, hW, hC, hM⟩ _
  have l1 := Ls_le1 D 0 1
  unfold f_SR_repairCost
  refine c_best hf hW hC (fun M1 c1 c2 c3 c4 c5 => ?_)
  obtain ⟨s1, G, gn, gq, g1, g3⟩ := c3
  obtain ⟨l, s, w, r1', v1, v2, v3⟩ := g3 0 1 (Nat.zero_le _) g1.2.2.2.2.1
  have hM1 := hM.frC c4
  have hm : ∀ r : Int32, r = (if Ls D 0 1 < 1000000 then nI (Ls D 0 1) else -9) → f_Md_repairCost fu (fun r2 M2 => r = r2 ∧ JR M2) 145 M1 := fun r hr => by
    unfold f_Md_repairCost
    refine m_findCosts hf hW.1 hM1.1 (fun M2 t2 f2 => ?_)
    have hJ := mkR hW (c1.frM (fun c hc => f2.1 c (by omega) (by omega) (by omega))) (hM1.tab f2.KP)
    have e1 := (t2 0 1 (Nat.zero_le _) (ok1 hW.1)).1
    simp only [Nat.reduceAdd, Nat.reduceMul] at e1 ⊢
    rw [e1, ln_M.2.2.2.2.1]
    refine ⟨vp_in_nI (n := 1) (by omega) (by omega), pk_le 1000000 (Ls D 0 1) (fun z => ⟨by rw [hr, if_neg (by omega)], hJ⟩) (fun z => ⟨vp_in_nI (n := 1) (by omega) (by omega), by rw [hr, if_pos z], hJ⟩)⟩
  unfold f_St_leastFrom
  simp only [Nat.reduceAdd]
  refine s_at (n := 1) (by rw [(ln_T 105 (Or.inl rfl)).2.2.2.2.1]; omega) ?_
  simp only [Nat.reduceAdd, Nat.reduceMul] at v1
  rw [v1, r1'.1]
  unfold f_SR_costOrNone
  exact pk_lt (Ls D 0 1) 1000000 (fun z => hm _ (by rw [if_pos z])) (fun z => hm _ (by rw [if_neg (by omega)]))
theorem op_k22 {fu : Nat} (hf : 1300 ≤ fu) : op_22 fu JR := by
  rintro M ⟨D, cnt, H, len, T, hW, hC, hM⟩ _
  have l1 := Ss_le1 D 0 1
  unfold f_SR_secondCost
  refine c_best hf hW hC (fun M1 c1 c2 c3 c4 c5 => ?_)
  obtain ⟨s1, G, gn, gq, g1, g3⟩ := c3
  obtain ⟨l, s, w, r1', v1, v2, v3⟩ := g3 0 1 (Nat.zero_le _) g1.2.2.2.2.1
  have hM1 := hM.frC c4
  have hm : ∀ r : Int32, r = (if Ss D 0 1 < 1000000 then nI (Ss D 0 1) else -9) → f_Md_secondCost fu (fun r2 M2 => r = r2 ∧ JR M2) 145 M1 := fun r hr => by
    unfold f_Md_secondCost
    refine m_findCosts hf hW.1 hM1.1 (fun M2 t2 f2 => ?_)
    have hJ := mkR hW (c1.frM (fun c hc => f2.1 c (by omega) (by omega) (by omega))) (hM1.tab f2.KP)
    have e1 := (t2 0 1 (Nat.zero_le _) (ok1 hW.1)).2
    simp only [Nat.reduceAdd, Nat.reduceMul] at e1 ⊢
    rw [e1, ln_M.2.2.2.2.2.1]
    refine ⟨vp_in_nI (n := 1) (by omega) (by omega), pk_le 1000000 (Ss D 0 1) (fun z => ⟨by rw [hr, if_neg (by omega)], hJ⟩) (fun z => ⟨vp_in_nI (n := 1) (by omega) (by omega), by rw [hr, if_pos z], hJ⟩)⟩
  unfold f_St_secondFrom
  simp only [Nat.reduceAdd]
  refine s_at (n := 1) (by rw [(ln_T 105 (Or.inl rfl)).2.2.2.2.2.1]; omega) ?_
  simp only [Nat.reduceAdd, Nat.reduceMul] at v2
  rw [v2, r1'.2.1]
  unfold f_SR_costOrNone
  exact pk_lt (Ss D 0 1) 1000000 (fun z => hm _ (by rw [if_pos z])) (fun z => hm _ (by rw [if_neg (by omega)]))
theorem op_k21 {fu : Nat} (hf : 1300 ≤ fu) : op_21 fu JR := by
  rintro M ⟨D, cnt, H, len, T, hW, hC, hM⟩ _
  unfold f_SR_repairCount
  refine c_best hf hW hC (fun M1 c1 c2 c3 c4 c5 => ?_)
  obtain ⟨s1, G, gn, gq, g1, g3⟩ := c3
  obtain ⟨l, s, w, r1', v1, v2, v3⟩ := g3 0 1 (Nat.zero_le _) g1.2.2.2.2.1
  have hM1 := hM.frC c4
  unfold f_St_waysFrom
  simp only [Nat.reduceAdd]
  refine s_at (n := 1) (by rw [(ln_T 105 (Or.inl rfl)).2.2.2.2.2.2]; omega) ?_
  simp only [Nat.reduceAdd, Nat.reduceMul] at v3
  rw [v3, r1'.2.2]
  unfold f_Md_repairCount
  refine m_findPaths hf hW.1 hM1.1 (fun M2 t2 t3 f2 => ?_)
  have hJ := mkR hW (c1.frM (fun c hc => f2.1 c (by omega) (by omega) (by omega) (by omega))) (hM1.tab f2)
  obtain ⟨e1, e2⟩ := t3 0 1 (Nat.zero_le _) (ok1 hW.1)
  unfold wM at e1 e2
  simp only [Nat.reduceAdd, Nat.reduceMul] at e1 e2 ⊢
  rw [e1, ln_M.2.2.2.2.2.2.1]
  refine ⟨vp_in_nI (n := 1) (by omega) (by omega), pk_le 1001 (min (Ws D 0 1) 1001) (fun z => ⟨?_, hJ⟩) (fun z => ⟨vp_in_nI (n := 1) (by omega) (by omega), ?_, hJ⟩)⟩
  · rw [Nat.min_eq_right (by omega)]; rfl
  · rw [Nat.min_eq_left (by omega), Nat.min_eq_left (by omega)]
