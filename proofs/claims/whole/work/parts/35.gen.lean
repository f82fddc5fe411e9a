/-! the model's loops over levels, rounds and configurations, once for all three tables -/
def gSw (imp : (Int32 → Mm → Prop) → Nat → Int32 → Mm → Prop) (fu : Nat) (K : Nat → Int32 → Int32 → Mm → Prop) : Nat → Nat → Int32 → Int32 → Int32 → Mm → Prop
  | 0, _, _, _, _, _ => False
  | kf + 1, t, x1, x2, x3, M =>
    vp_in 0 (ln (t + 1)) ∧ (((16 * (M (t + 1) 0)) ≤ x3) → K t x1 x2 M) ∧ (¬ ((16 * (M (t + 1) 0)) ≤ x3) → f_Md_isConfig fu (fun r3 M2 => ((r3 = 0) → ((x2 = 0) → ∀ y1, y1 = x3 + 1 → gSw imp fu K kf t x1 0 y1 M2) ∧ (¬ (x2 = 0) → ∀ y1, y1 = x3 + 1 → gSw imp fu K kf t x1 1 y1 M2)) ∧ (¬ (r3 = 0) → imp (fun r5 M4 => ((r5 = 0) → ((x2 = 0) → ∀ y1, y1 = x3 + 1 → gSw imp fu K kf t x1 0 y1 M4) ∧ (¬ (x2 = 0) → ∀ y1, y1 = x3 + 1 → gSw imp fu K kf t x1 1 y1 M4)) ∧ (¬ (r5 = 0) → ∀ y1, y1 = x3 + 1 → gSw imp fu K kf t x1 1 y1 M4)) t ((96 * x1) + x3) M2)) x3 M)
def gRd (imp : (Int32 → Mm → Prop) → Nat → Int32 → Mm → Prop) (fu : Nat) (K : Nat → Int32 → Mm → Prop) : Nat → Nat → Int32 → Int32 → Mm → Prop
  | 0, _, _, _, _ => False
  | kf + 1, t, x1, x2, M =>
    ((x2 = 0) → ∀ y1, y1 = x1 + (-1) → K t y1 M) ∧ (¬ (x2 = 0) → gSw imp fu (gRd imp fu K kf) fu t x1 0 0 M)
def gLv (imp : (Int32 → Mm → Prop) → Nat → Int32 → Mm → Prop) (fu : Nat) (post : Mm → Prop) : Nat → Nat → Int32 → Mm → Prop
  | 0, _, _, _ => False
  | kf + 1, t, x1, M =>
    ((x1 < 0) → post M) ∧ (¬ (x1 < 0) → gRd imp fu (gLv imp fu post kf) fu t x1 1 M)
theorem eC_62 {fu : Nat} {post : Mm → Prop} {K : Nat → Int32 → Int32 → Mm → Prop} : ∀ kf, f_Md_findCosts_62 fu post K kf = gSw (fun P => f_Md_improve fu P) fu K kf
  | 0 => by funext t x1 x2 x3 M; rfl
  | kf + 1 => by
    funext t x1 x2 x3 M
    rw [f_Md_findCosts_62, gSw, eC_62 kf]
    rfl
theorem eC_54 {fu : Nat} {post : Mm → Prop} {K : Nat → Int32 → Mm → Prop} : ∀ kf, f_Md_findCosts_54 fu post K kf = gRd (fun P => f_Md_improve fu P) fu K kf
  | 0 => by funext t x1 x2 M; rfl
  | kf + 1 => by
    funext t x1 x2 M
    rw [f_Md_findCosts_54, gRd, eC_62, eC_54 kf]
theorem eC_48 {fu : Nat} {post : Mm → Prop} : ∀ kf, f_Md_findCosts_48 fu post kf = gLv (fun P => f_Md_improve fu P) fu post kf
  | 0 => by funext t x1 M; rfl
  | kf + 1 => by
    funext t x1 M
    rw [f_Md_findCosts_48, gLv, eC_54, eC_48 kf]
theorem eP_57 {fu : Nat} {post : Mm → Prop} {K : Nat → Int32 → Int32 → Mm → Prop} : ∀ kf, f_Md_findPaths_57 fu post K kf = gSw (fun P => f_Md_countPaths fu P) fu K kf
  | 0 => by funext t x1 x2 x3 M; rfl
  | kf + 1 => by
    funext t x1 x2 x3 M
    rw [f_Md_findPaths_57, gSw, eP_57 kf]
    rfl
theorem eP_49 {fu : Nat} {post : Mm → Prop} {K : Nat → Int32 → Mm → Prop} : ∀ kf, f_Md_findPaths_49 fu post K kf = gRd (fun P => f_Md_countPaths fu P) fu K kf
  | 0 => by funext t x1 x2 M; rfl
  | kf + 1 => by
    funext t x1 x2 M
    rw [f_Md_findPaths_49, gRd, eP_57, eP_49 kf]
theorem eP_43 {fu : Nat} {post : Mm → Prop} : ∀ kf, f_Md_findPaths_43 fu post kf = gLv (fun P => f_Md_countPaths fu P) fu post kf
  | 0 => by funext t x1 M; rfl
  | kf + 1 => by
    funext t x1 M
    rw [f_Md_findPaths_43, gLv, eP_49, eP_43 kf]
theorem eL_78 {fu : Nat} {post : Mm → Prop} {K : Nat → Int32 → Int32 → Mm → Prop} : ∀ kf, f_Md_findLocalCosts_78 fu post K kf = gSw (fun P => f_Md_improveLocal fu P) fu K kf
  | 0 => by funext t x1 x2 x3 M; rfl
  | kf + 1 => by
    funext t x1 x2 x3 M
    rw [f_Md_findLocalCosts_78, gSw, eL_78 kf]
    rfl
theorem eL_69 {fu : Nat} {post : Mm → Prop} {K : Nat → Int32 → Mm → Prop} : ∀ kf, f_Md_findLocalCosts_69 fu post K kf = gRd (fun P => f_Md_improveLocal fu P) fu K kf
  | 0 => by funext t x1 x2 M; rfl
  | kf + 1 => by
    funext t x1 x2 M
    rw [f_Md_findLocalCosts_69, gRd, eL_78, eL_69 kf]
theorem eL_63 {fu : Nat} {post : Mm → Prop} : ∀ kf, f_Md_findLocalCosts_63 fu post kf = gLv (fun P => f_Md_improveLocal fu P) fu post kf
  | 0 => by funext t x1 M; rfl
  | kf + 1 => by
    funext t x1 M
    rw [f_Md_findLocalCosts_63, gLv, eL_69, eL_63 kf]
theorem okc_lt {D : Nat → Nat} (hw : wfD D) {c : Nat} (h : okc D c) : c < 16 * D 0 ∧ c < 96 := by
  have := hw.1.2
  have := h.1
  omega
theorem okc_clo {D : Nat → Nat} (hw : wfD D) : clo D (okc D) := fun c hc => ⟨hc, (okc_lt hw hc).2, fun k c' hk e => (cns_ok hw hc hk e).1⟩
def vput (f : Nat → Nat × Nat) (k : Nat) (v : Nat × Nat) : Nat → Nat × Nat := fun i => if i = k then v else f i
theorem vput_s {f : Nat → Nat × Nat} {k : Nat} {v : Nat × Nat} : vput f k v k = v := if_pos rfl
theorem vput_k {f : Nat → Nat × Nat} {k i : Nat} {v : Nat × Nat} (h : i ≠ k) : vput f k v i = f i := if_neg h
theorem vput_same {f : Nat → Nat × Nat} {k : Nat} {v : Nat × Nat} (h : v = f k) : vput f k v = f := by
  funext i
  unfold vput
  split
  · rename_i q; rw [q, h]
  · rfl
/-- what the three tables have in common: values, when they are right, how a node is worked out -/
def GenOK (D : Nat → Nat) (imp : (Int32 → Mm → Prop) → Nat → Int32 → Mm → Prop) (Val : Mm → (Nat → Nat × Nat) → Prop) (Q : Nat → Nat → Nat × Nat → Prop) (Fx : (Nat → Nat × Nat) → Nat → Nat × Nat → Prop) (Fr : Mm → Mm → Prop) : Prop :=
  (∀ M, Fr M M) ∧ (∀ M M' M2, Fr M M' → Fr M' M2 → Fr M M2) ∧ (∀ M σ, Val M σ → M 146 0 = nI (D 0)) ∧
  (∀ m m' n v, m ≤ m' → Q m' n v → Q m n v) ∧ (∀ m n v, Q 192 n v → Q m n v) ∧ (∀ n v v', Q 192 n v → Q 192 n v' → v = v') ∧
  (∀ σ m p c v, p ≤ D 56 → okc D c → (∀ c', okc D c' → Q m (96 * p + c') (σ (96 * p + c'))) → (∀ p' c', p < p' → p' ≤ D 56 → okc D c' → Q 192 (96 * p' + c') (σ (96 * p' + c'))) → Fx σ (96 * p + c) v → Q (m + 1) (96 * p + c) v) ∧
  ∀ M σ p c (post : Int32 → Mm → Prop), Val M σ → p ≤ D 56 → okc D c → (∀ c', okc D c' → Q 0 (96 * p + c') (σ (96 * p + c'))) → (∀ p' c', p < p' → p' ≤ D 56 → okc D c' → Q 192 (96 * p' + c') (σ (96 * p' + c'))) →
    (∀ M' v b, Val M' (vput σ (96 * p + c) v) → Fx σ (96 * p + c) v → Fr M M' → ((b = 1 ∧ v ≠ σ (96 * p + c)) ∨ (b = 0 ∧ v = σ (96 * p + c))) → post b M') → imp post 145 (nI (96 * p + c)) M
def LvQ (D : Nat → Nat) (Q : Nat → Nat → Nat × Nat → Prop) (m p : Nat) (σ : Nat → Nat × Nat) : Prop := (∀ c', okc D c' → Q m (96 * p + c') (σ (96 * p + c'))) ∧ (∀ p' c', p < p' → p' ≤ D 56 → okc D c' → Q 192 (96 * p' + c') (σ (96 * p' + c'))) ∧ ∀ p' c', p' < p → okc D c' → Q 0 (96 * p' + c') (σ (96 * p' + c'))
theorem g_fix {D : Nat → Nat} {imp : (Int32 → Mm → Prop) → Nat → Int32 → Mm → Prop} {Val : Mm → (Nat → Nat × Nat) → Prop} {Q : Nat → Nat → Nat × Nat → Prop} {Fx : (Nat → Nat × Nat) → Nat → Nat × Nat → Prop} {Fr : Mm → Mm → Prop} (hG : GenOK D imp Val Q Fx Fr) {p m : Nat} {σ : Nat → Nat × Nat} (hp : p ≤ D 56) (h : LvQ D Q m p σ) (hF : ∀ c, okc D c → Fx σ (96 * p + c) (σ (96 * p + c))) : ∀ k, LvQ D Q (m + k) p σ
  | 0 => h
  | k + 1 => by
    obtain ⟨h1, h2, h3⟩ := g_fix hG hp h hF k
    exact ⟨fun c hc => hG.2.2.2.2.2.2.1 σ (m + k) p c _ hp hc h1 h2 (hF c hc), h2, h3⟩
theorem g_sweep {D : Nat → Nat} {imp : (Int32 → Mm → Prop) → Nat → Int32 → Mm → Prop} {Val : Mm → (Nat → Nat × Nat) → Prop} {Q : Nat → Nat → Nat × Nat → Prop} {Fx : (Nat → Nat × Nat) → Nat → Nat × Nat → Prop} {Fr : Mm → Mm → Prop} (hG : GenOK D imp Val Q Fx Fr) (hw : wfD D) {fu p m : Nat} {K : Nat → Int32 → Int32 → Mm → Prop} {σ0 : Nat → Nat × Nat} (hp : p ≤ D 56) : ∀ (kf i : Nat) (σ : Nat → Nat × Nat) (b : Int32) (M : Mm), 16 * D 0 + 1 ≤ kf + i → i ≤ 16 * D 0 → Val M σ → LvQ D Q m p σ → (∀ c, c < i → okc D c → Q (m + 1) (96 * p + c) (σ (96 * p + c))) →
    ((b = 0 ∧ σ = σ0 ∧ ∀ c, c < i → okc D c → Fx σ0 (96 * p + c) (σ0 (96 * p + c))) ∨ (b = 1 ∧ m < 192)) →
    (∀ M' σ' b', Val M' σ' → LvQ D Q (m + 1) p σ' → Fr M M' → ((b' = 0 ∧ ∀ c, okc D c → Fx σ' (96 * p + c) (σ' (96 * p + c))) ∨ (b' = 1 ∧ m < 192)) → K 145 (nI p) b' M') →
    gSw imp fu K kf 145 (nI p) b (nI i) M := by
  obtain ⟨f1, f2, f3, q1, q2, q3, st, im⟩ := hG
  have h12 := hw.2.2.2.2.1
  have h6 := hw.1.2
  intro kf
  induction kf with
  | zero => intro i σ b M h1 h2; omega
  | succ kf ih =>
    intro i σ b M h1 h2 hV hL hd hb h
    rw [gSw]
    simp only [Nat.reduceAdd]
    rw [ln_M.1, f3 M σ hV, show (16 : Int32) = nI 16 from rfl, pk_mul]
    refine ⟨vp_in_nI (n := 0) (by omega) (by omega), ?_⟩
    have skip : ∀ (σ' : Nat → Nat × Nat) (b2 : Int32) (M2 : Mm), Val M2 σ' → LvQ D Q m p σ' → (∀ c, c < i + 1 → okc D c → Q (m + 1) (96 * p + c) (σ' (96 * p + c))) → ((b2 = 0 ∧ σ' = σ0 ∧ ∀ c, c < i + 1 → okc D c → Fx σ0 (96 * p + c) (σ0 (96 * p + c))) ∨ (b2 = 1 ∧ m < 192)) → Fr M M2 → i < 16 * D 0 → ∀ y, y = nI i + 1 → gSw imp fu K kf 145 (nI p) b2 y M2 := fun σ' b2 M2 g1 g2 g3 g4 g5 g6 y ey => by
      rw [ey, nI_1]
      exact ih (i + 1) σ' b2 M2 (by omega) (by omega) g1 g2 g3 g4 (fun M' σ2 b' c1 c2 c3 c4 => h M' σ2 b' c1 c2 (f2 _ _ _ g5 c3) c4)
    refine pk_le (16 * D 0) i (fun z => ?_) (fun z => ?_)
    · refine h M σ b hV ⟨fun c hc => hd c (by have := okc_lt hw hc; omega) hc, hL.2⟩ (f1 M) ?_
      rcases hb with ⟨b1, b2, b3⟩ | hb
      · exact Or.inl ⟨b1, fun c hc => by rw [b2]; exact b3 c (by have := okc_lt hw hc; omega) hc⟩
      · exact Or.inr hb
    · unfold f_Md_isConfig
      rw [show (16 : Int32) = nI 16 from rfl, pk_rem (by omega) (by omega) (by omega)]
      refine pk_le (i % 16) 0 (fun z2 => br_t (by rfl) ?_) (fun z2 => br_f (by decide) ?_)
      · have nok : ∀ c, c < i + 1 → okc D c → c < i := fun c hc ho => by
          have := ho.2
          have : c ≠ i := fun y => by rw [y] at this; omega
          omega
        rcases hb with ⟨b1, b2, b3⟩ | ⟨b1, b2⟩
        · rw [b1]
          exact br_t (by rfl) (skip σ 0 M hV hL (fun c hc ho => hd c (nok c hc ho) ho) (Or.inl ⟨rfl, b2, fun c hc ho => b3 c (nok c hc ho) ho⟩) (f1 M) z)
        · rw [b1]
          exact br_f (by decide) (skip σ 1 M hV hL (fun c hc ho => hd c (nok c hc ho) ho) (Or.inr ⟨rfl, b2⟩) (f1 M) z)
      · have hi : okc D i := ⟨by omega, by omega⟩
        rw [show (96 : Int32) = nI 96 from rfl, pk_mul, nI_add]
        refine im M σ p i _ hV hp hi (fun c' hc' => q1 0 m _ _ (by omega) (hL.1 c' hc')) hL.2.1 (fun M' v r5 a1 a2 a3 a4 => ?_)
        have sv := st σ m p i v hp hi hL.1 hL.2.1 a2
        have hL' : LvQ D Q m p (vput σ (96 * p + i) v) := by
          refine ⟨fun c hc => ?_, fun p' c g1 g2 g3 => ?_, fun p' c g1 g3 => ?_⟩
          · by_cases y : c = i
            · rw [y, vput_s]; exact q1 m (m + 1) _ _ (by omega) sv
            · rw [vput_k (by omega)]; exact hL.1 c hc
          · have := (okc_lt hw g3).2
            rw [vput_k (by omega)]; exact hL.2.1 p' c g1 g2 g3
          · have := (okc_lt hw g3).2
            rw [vput_k (by omega)]; exact hL.2.2 p' c g1 g3
        have hd' : ∀ c, c < i + 1 → okc D c → Q (m + 1) (96 * p + c) (vput σ (96 * p + i) v (96 * p + c)) := fun c hc ho => by
          by_cases y : c = i
          · rw [y, vput_s]; exact sv
          · rw [vput_k (by omega)]; exact hd c (by omega) ho
        rcases a4 with ⟨a4, a5⟩ | ⟨a4, a5⟩
        · rw [a4]
          refine br_f (by decide) (skip _ 1 M' a1 hL' hd' (Or.inr ⟨rfl, ?_⟩) a3 z)
          refine Classical.byContradiction fun y => a5 ?_
          exact q3 _ _ _ (q1 192 (m + 1) _ _ (by omega) sv) (q1 192 m _ _ (by omega) (hL.1 i hi))
        · rw [a4]
          refine br_t (by rfl) ?_
          rcases hb with ⟨b1, b2, b3⟩ | ⟨b1, b2⟩
          · rw [b1]
            refine br_t (by rfl) (skip _ 0 M' a1 hL' hd' (Or.inl ⟨rfl, by rw [vput_same a5]; exact b2, fun c hc ho => ?_⟩) a3 z)
            by_cases y : c = i
            · rw [y, ← b2]
              rw [a5] at a2
              exact a2
            · exact b3 c (by omega) ho
          · rw [b1]
            exact br_f (by decide) (skip _ 1 M' a1 hL' hd' (Or.inr ⟨rfl, b2⟩) a3 z)
theorem g_rounds {D : Nat → Nat} {imp : (Int32 → Mm → Prop) → Nat → Int32 → Mm → Prop} {Val : Mm → (Nat → Nat × Nat) → Prop} {Q : Nat → Nat → Nat × Nat → Prop} {Fx : (Nat → Nat × Nat) → Nat → Nat × Nat → Prop} {Fr : Mm → Mm → Prop} (hG : GenOK D imp Val Q Fx Fr) (hw : wfD D) {fu p : Nat} {K : Nat → Int32 → Mm → Prop} (hf : 1300 ≤ fu) (hp : p ≤ D 56) : ∀ (kf m : Nat) (σ : Nat → Nat × Nat) (b : Int32) (M : Mm), 195 ≤ kf + m → m ≤ 193 → Val M σ → LvQ D Q m p σ →
    ((b = 0 ∧ ∀ c, okc D c → Fx σ (96 * p + c) (σ (96 * p + c))) ∨ (b = 1 ∧ m ≤ 192)) →
    (∀ M' σ', Val M' σ' → LvQ D Q 192 p σ' → Fr M M' → K 145 (dI p) M') → gRd imp fu K kf 145 (nI p) b M := by
  have h6 := hw.1.2
  intro kf
  induction kf with
  | zero => intro m σ b M h1 h2; omega
  | succ kf ih =>
    intro m σ b M h1 h2 hV hL hb h
    rw [gRd]
    rcases hb with ⟨b1, b2⟩ | ⟨b1, b2⟩
    · rw [b1]
      refine br_t (by rfl) (fun y ey => ?_)
      rw [ey, dI_m]
      have hL2 := g_fix hG hp hL b2 192
      exact h M σ hV ⟨fun c hc => hG.2.2.2.1 192 (m + 192) _ _ (by omega) (hL2.1 c hc), hL2.2⟩ (hG.1 M)
    · rw [b1]
      refine br_f (by decide) ?_
      refine g_sweep hG hw (σ0 := σ) (m := m) hp fu 0 σ 0 M (by omega) (by omega) hV hL (fun c hc => absurd hc (by omega)) (Or.inl ⟨rfl, rfl, fun c hc => absurd hc (by omega)⟩) (fun M' σ' b' c1 c2 c3 c4 => ?_)
      refine ih (m + 1) σ' b' M' (by omega) (by omega) c1 c2 ?_ (fun M2 σ2 d1 d2 d3 => h M2 σ2 d1 d2 (hG.2.1 _ _ _ c3 d3))
      rcases c4 with c4 | ⟨c4, c5⟩
      · exact Or.inl c4
      · exact Or.inr ⟨c4, by omega⟩
theorem g_levels {D : Nat → Nat} {imp : (Int32 → Mm → Prop) → Nat → Int32 → Mm → Prop} {Val : Mm → (Nat → Nat × Nat) → Prop} {Q : Nat → Nat → Nat × Nat → Prop} {Fx : (Nat → Nat × Nat) → Nat → Nat × Nat → Prop} {Fr : Mm → Mm → Prop} (hG : GenOK D imp Val Q Fx Fr) (hw : wfD D) {fu : Nat} {post : Mm → Prop} (hf : 1300 ≤ fu) : ∀ (kf j : Nat) (σ : Nat → Nat × Nat) (M : Mm), j + 1 ≤ kf → j ≤ D 56 + 1 → Val M σ → (∀ p c, j ≤ p → p ≤ D 56 → okc D c → Q 192 (96 * p + c) (σ (96 * p + c))) → (∀ p c, p < j → okc D c → Q 0 (96 * p + c) (σ (96 * p + c))) →
    (∀ M' σ', Val M' σ' → (∀ p c, p ≤ D 56 → okc D c → Q 192 (96 * p + c) (σ' (96 * p + c))) → Fr M M' → post M') → gLv imp fu post kf 145 (dI j) M := by
  have h12 := hw.2.2.2.2.1
  intro kf
  induction kf with
  | zero => intro j σ M h1; omega
  | succ kf ih =>
    intro j σ M h1 h2 hV hr h0 h
    rw [gLv]
    cases j with
    | zero =>
      rw [dI_0]
      exact br_t (by decide) (h M σ hV (fun p c hp hc => hr p c (by omega) hp hc) (hG.1 M))
    | succ j =>
      rw [dI_s]
      refine br_f (nI_pos (by omega)) ?_
      refine g_rounds hG hw hf (by omega) fu 0 σ 1 M (by omega) (by omega) hV ⟨fun c hc => h0 j c (by omega) hc, fun p' c g1 g2 g3 => hr p' c (by omega) g2 g3, fun p' c g1 g3 => h0 p' c (by omega) g3⟩ (Or.inr ⟨rfl, by omega⟩) (fun M1 σ1 a1 a2 a3 => ?_)
      refine ih j σ1 M1 (by omega) (by omega) a1 (fun p c g1 g2 g3 => ?_) (fun p c g1 g3 => a2.2.2 p c g1 g3) (fun M' σ' c1 c2 c3 => h M' σ' c1 c2 (hG.2.1 _ _ _ a3 c3))
      by_cases z : p = j
      · rw [z]; exact a2.1 c g3
      · exact a2.2.1 p c (by omega) g2 g3
