/-! the class's script -/
def XB (L : Nat) (X : Nat → Nat × Nat) : Prop := ∀ i, i < L → (X i).1 < 4 ∧ (X i).2 < 6
def SCR (M : Mm) (L : Nat) (X : Nat → Nat × Nat) : Prop := M 141 2 = nI L ∧ ∀ i, i < L → M 142 i = nI (X i).1 ∧ M 143 i = nI (X i).2
def SCM (M : Mm) (L : Nat) (X : Nat → Nat × Nat) : Prop := M 145 21 = nI L ∧ ∀ i, i < L → M 153 i = nI (X i).1 ∧ M 154 i = nI (X i).2
theorem XB.put {L : Nat} {X : Nat → Nat × Nat} {x : Nat × Nat} (h : XB L X) (h1 : x.1 < 4) (h2 : x.2 < 6) : XB (L + 1) (xput X L x) := fun i hi => by
  unfold xput
  by_cases z : i = L
  · rw [z, vput_s]; exact ⟨h1, h2⟩
  · rw [vput_k z]; exact h i (by omega)
theorem c_Scadd {fu : Nat} {post : Mm → Prop} {L : Nat} {X : Nat → Nat × Nat} {x : Nat × Nat} {M : Mm} (hL : L < 1248) (hS : SCR M L X) (h : ∀ M', SCR M' (L + 1) (xput X L x) → (∀ a, a ≠ 141 → a ≠ 142 → a ≠ 143 → M' a = M a) → post M') : f_Sc_add fu post 141 (nI x.1) (nI x.2) M := by
  obtain ⟨h1, h2⟩ := hS
  unfold f_Sc_add
  simp only [Nat.reduceAdd]
  rw [h1]
  refine br_f (nI_ge (b := 1248) hL (by omega)) ?_
  refine s_put (by rw [ln_C.2.1]; exact hL) ?_
  rw [up_c (by omega), h1]
  refine s_put (by rw [ln_C.2.2.1]; exact hL) (fun M3 e3 => ?_)
  rw [up_c (by omega), up_c (by omega), h1, nI_1] at e3
  refine h M3 ⟨by rw [e3, up_s], fun i hi => ?_⟩ (fun a b1 b2 b3 => by rw [e3, up_c b1, up_c b3, up_c b2])
  unfold xput
  rw [e3, up_c (show (142 : Nat) ≠ 141 by omega), up_c (show (142 : Nat) ≠ 143 by omega), up_c (show (143 : Nat) ≠ 141 by omega)]
  by_cases z : i = L
  · rw [z, vput_s, up_s, up_s]; exact ⟨rfl, rfl⟩
  · rw [vput_k z, up_k z, up_k z, up_c (show (143 : Nat) ≠ 142 by omega)]; exact h2 i (by omega)
def frTr (t : Nat) (M M' : Mm) : Prop := (∀ c, c ≠ t → (c < 141 ∨ 144 < c) → M' c = M c) ∧ ∀ k, k ≠ 10 → M' t k = M t k
theorem frTr.trans {t : Nat} {M M1 M2 : Mm} (h : frTr t M M1) (h2 : frTr t M1 M2) : frTr t M M2 := ⟨fun c a b => (h2.1 c a b).trans (h.1 c a b), fun k a => (h2.2 k a).trans (h.2 k a)⟩
theorem frTr_refl (t : Nat) (M : Mm) : frTr t M M := ⟨fun _ _ _ => rfl, fun _ _ => rfl⟩
theorem c_trace_loop {fu : Nat} {post : Mm → Prop} {t la gn : Nat} {D : Nat → Nat} {G : Nat → Prop} {gq : Nat → Nat} (hf : 1300 ≤ fu) (ht : t = 105 ∨ t = 123) (hw : wfD D) (hla : la ≤ 5) : ∀ (f kf p c left L : Nat) (X : Nat → Nat × Nat) (M : Mm), f ≤ kf → pot D la (96 * p + c) < f → L + pot D la (96 * p + c) < 1248 → left < Ws D la (96 * p + c) → Ls D la (96 * p + c) < 1000000 → left ≤ 7 → G c → p ≤ D 56 → TbG M t D la G gn gq → M t 6 = nI la → M t 10 = nI left → M 144 0 = nI p → M 144 1 = nI c → SCR M L X → XB L X →
    (∀ M' p' c' L' X', trc D la f (96 * p + c) left L X = (96 * p' + c', L', X') → G c' → p' ≤ D 56 → term D la (96 * p' + c') = true → L' ≤ 1248 → XB L' X' → M' 144 0 = nI p' → M' 144 1 = nI c' → SCR M' L' X' → TbG M' t D la G gn gq → frTr t M M' → post M') →
    f_St_trace_13 fu post kf t 144 141 (nI L) M := by
  have h12 := hw.2.2.2.2.1
  have hkd := (ln_T t ht).1
  intro f
  induction f with
  | zero => intro kf p c left L X M h1 h2; omega
  | succ f ih =>
    intro kf p c left L X M h1 h2 h3 h4 h5 h7 hc hp hT h6 h10 k0 k1 hS hX h
    obtain ⟨kf, rfl⟩ : ∃ k, kf = k + 1 := ⟨kf - 1, by omega⟩
    have hG := hT.2.1.clo
    have hc96 := (hG c hc).2.1
    have hn := okn_of hG hc hp
    rw [f_St_trace_13]
    refine br_f (nI_ge (b := 1248) (by omega) (by omega)) ?_
    rw [k0, k1]
    refine c_isEnd hf ht hw hT.1 h6 hla hT.2.1 hp hc ?_
    cases htm : term D la (96 * p + c) with
    | true =>
      rw [if_pos rfl]
      refine br_f (by decide) (h M p c L X ?_ hc hp htm (by omega) hX k0 k1 hS hT (frTr_refl t M))
      rw [trc, if_pos htm]
    | false =>
      rw [if_neg (by decide)]
      refine br_t (by rfl) ?_
      rw [k0, k1]
      obtain ⟨op, kd, n', a, left', p1, p2, p3, p4, p5, p6, p7, p8⟩ := pick_ok hw hn htm h4
      obtain ⟨p', c', e1, g1, g2, g3, g4⟩ := eg_G hG hc hp p3 p4
      have hpot := pot_lt hw hn p3 p4 p5
      refine c_pickMove hf ht hw hla hp hc h5 hT h6 h10 h7 p1 (fun M3 m m1 m2 m3 m4 m5 m6 => ?_)
      have hT3 : TbG M3 t D la G gn gq := hT.keep (fun a _ _ => m5 a (by omega))
      refine br_t (nI_pos' (by omega)) ?_
      rw [m5 144 (by omega), k0]
      refine c_kindAtI hkd hT3.1 h12 (by omega) (s_ats m1 (c_kindOf m1 ?_))
      have o1 : mv 0 m = nI op := by rw [mv_0 m m1, ← cm_1 (tok := tokN D p), m2]
      have o2 : (if m = 0 ∨ m = 7 then tokI D p else nI (cm 0 m).2) = nI kd := by
        by_cases z : m = 0 ∨ m = 7
        · rw [if_pos z]
          have hkd2 : kd = tokN D p := by
            have e : (cm (tokN D p) m).2 = kd := by rw [m2]
            rw [← e]
            rcases z with z | z <;> (rw [z]; rfl)
          have hop2 : op = 0 ∨ op = 2 := by
            have e : (cm (tokN D p) m).1 = op := by rw [m2]
            rw [← e]
            rcases z with z | z <;> rw [z]
            · exact Or.inl rfl
            · exact Or.inr rfl
          have hpl : p < D 56 := by
            refine Classical.byContradiction fun y => ?_
            rcases hop2 with rfl | rfl
            · rw [eg_0 hc96, if_neg (fun q => y q.2.1)] at p4; cases p4
            · rw [eg_2 hc96, if_neg (fun q => y q.1)] at p4; cases p4
          rw [hkd2]
          unfold tokI tokN
          rw [if_pos hpl, if_pos hpl]
        · rw [if_neg z, ← cm_2 (tok := tokN D p) z, m2]
      rw [o1, o2]
      refine c_Scadd (L := L) (x := (op, kd)) (X := X) (by omega) ⟨by rw [m5 141 (by omega)]; exact hS.1, fun i hi => by rw [m5 142 (by omega), m5 143 (by omega)]; exact hS.2 i hi⟩ (fun M11 b1 b2 => ?_)
      have hT11 : TbG M11 t D la G gn gq := hT3.keep (fun a _ _ => b2 a (by omega) (by omega) (by omega))
      rw [b2 144 (by omega) (by omega) (by omega), m5 144 (by omega), k0, k1]
      refine c_targetOf ht hw hT11 hp hc m1 m3 ?_
      rw [show (cm (tokN D p) m).1 = op by rw [m2], show (cm (tokN D p) m).2 = kd by rw [m2], p4]
      intro M14 e14 M15 e15 y ey
      rw [show gI (some (n', a)) = nI n' from rfl, show (96 : Int32) = nI 96 from rfl] at e14 e15
      rw [pk_div (by omega) (by omega) (by omega), show n' / 96 = p' by omega] at e14
      rw [pk_rem (by omega) (by omega) (by omega), show n' % 96 = c' by omega] at e15
      have f15 : ∀ q, q ≠ 144 → M15 q = M11 q := fun q hq => by rw [e15, up_c hq, e14, up_c hq]
      have ftr : frTr t M M15 := ⟨fun q a b => by rw [f15 q (by omega), b2 q (by omega) (by omega) (by omega), m5 q a], fun k hk => by rw [f15 t (by omega), b2 t (by omega) (by omega) (by omega), m6 k hk]⟩
      rw [ey, nI_1]
      rw [e1] at p4 p5 p7 hpot
      refine ih kf p' c' left' (L + 1) (xput X L (op, kd)) M15 (by omega) (by omega) (by omega) p7 (by omega) (by omega) g1 g3 (hT11.keep (fun a _ _ => f15 a (by omega))) (by rw [ftr.2 6 (by omega)]; exact h6) (by rw [f15 t (by omega), b2 t (by omega) (by omega) (by omega)]; exact m4) (by rw [e15, up_k (by omega), e14, up_s]) (by rw [e15, up_s]) ⟨by rw [f15 141 (by omega)]; exact b1.1, fun i hi => by rw [f15 142 (by omega), f15 143 (by omega)]; exact b1.2 i hi⟩ (hX.put p2 p3) (fun M' p2' c2' L' X' q1 q2 q3 q4 q5 q6 q7 q8 q9 q10 q11 => h M' p2' c2' L' X' ?_ q2 q3 q4 q5 q6 q7 q8 q9 q10 (ftr.trans q11))
      rw [trc, htm, if_neg (by decide), p1]
      show (match eg D la (96 * p + c) op kd with | none => _ | some (n', _) => trc D la f n' left' (L + 1) (xput X L (op, kd))) = _
      rw [p4]
      exact q1
theorem c_trace {fu : Nat} {post : Mm → Prop} {t la gn p c left : Nat} {D : Nat → Nat} {G : Nat → Prop} {gq : Nat → Nat} {M : Mm} (hf : 1300 ≤ fu) (ht : t = 105 ∨ t = 123) (hw : wfD D) (hla : la ≤ 5) (h4 : left < Ws D la (96 * p + c)) (h5 : Ls D la (96 * p + c) < 1000000) (h7 : left ≤ 7) (hc : G c) (hp : p ≤ D 56) (hT : TbG M t D la G gn gq) (h6 : M t 6 = nI la) (k0 : M 144 0 = nI p) (k1 : M 144 1 = nI c)
    (h : ∀ M' p' c' L' X', trc D la 1300 (96 * p + c) left 0 (fun _ => (0, 0)) = (96 * p' + c', L', X') → G c' → p' ≤ D 56 → term D la (96 * p' + c') = true → L' ≤ 1248 → XB L' X' → M' 144 0 = nI p' → M' 144 1 = nI c' → SCR M' L' X' → TbG M' t D la G gn gq → frTr t M M' → post M') :
    f_St_trace fu post t 144 (nI left) 141 M := by
  have hn := okn_of hT.2.1.clo hc hp
  have hpt := pot_1248 hw (la := la) hn
  unfold f_St_trace
  intro M1 e1 M2 e2
  have f2 : frTr t M M2 := ⟨fun q a b => by rw [e2, up_c a, e1, up_c (by omega)], fun k hk => by rw [e2, up_k hk, e1, up_c (by omega)]⟩
  have k2 : ∀ q, q ≠ t → q ≠ 141 → M2 q = M q := fun q a b => by rw [e2, up_c a, e1, up_c b]
  exact c_trace_loop hf ht hw hla 1300 fu p c left 0 (fun _ => (0, 0)) M2 hf (by omega) (by omega) h4 h5 h7 hc hp (hT.keep (fun a _ _ => k2 a (by omega) (by omega))) (by rw [f2.2 6 (by omega)]; exact h6) (by rw [e2, up_s]) (by rw [k2 144 (by omega) (by omega)]; exact k0) (by rw [k2 144 (by omega) (by omega)]; exact k1) ⟨by rw [e2, up_c (by omega), e1, up_s]; rfl, fun i hi => absurd hi (by omega)⟩ (fun i hi => absurd hi (by omega)) (fun M' p' c' L' X' q1 q2 q3 q4 q5 q6 q7 q8 q9 q10 q11 => h M' p' c' L' X' q1 q2 q3 q4 q5 q6 q7 q8 q9 q10 (f2.trans q11))
/-! the model's script -/
theorem m_append {fu : Nat} {post : Mm → Prop} {L : Nat} {X : Nat → Nat × Nat} {x : Nat × Nat} {M : Mm} (hL : L < 1248) (hS : SCM M L X) (h : ∀ M', SCM M' (L + 1) (xput X L x) → (∀ a, a ≠ 145 → a ≠ 153 → a ≠ 154 → M' a = M a) → (∀ k, k ≠ 21 → M' 145 k = M 145 k) → post M') : f_Md_append fu post 145 (nI x.1) (nI x.2) M := by
  obtain ⟨h1, h2⟩ := hS
  have L153 : ln 153 = 1248 := ln_M.2.2.2.2.2.2.2.1
  have L154 : ln 154 = 1248 := ln_M.2.2.2.2.2.2.2.2.1
  unfold f_Md_append
  simp only [Nat.reduceAdd]
  rw [L153, L154, h1, nI_clamp (by omega)]
  refine ⟨vp_in_nI (by omega) (by omega), fun M2 e2 => ?_⟩
  rw [show M2 145 21 = nI L by rw [e2, up_c (by omega)]; exact h1, nI_clamp (by omega)]
  refine ⟨vp_in_nI (by omega) (by omega), fun M4 e4 M5 e5 => ?_⟩
  rw [show M4 145 21 = nI L by rw [e4, up_c (by omega), e2, up_c (by omega)]; exact h1, nI_1] at e5
  refine h M5 ⟨by rw [e5, up_s], fun i hi => ?_⟩ (fun a b1 b2 b3 => by rw [e5, up_c b1, e4, up_c b3, e2, up_c b2]) (fun k hk => by rw [e5, up_k hk, e4, up_c (by omega), e2, up_c (by omega)])
  unfold xput
  rw [e5, up_c (show (153 : Nat) ≠ 145 by omega), up_c (show (154 : Nat) ≠ 145 by omega), e4, up_c (show (153 : Nat) ≠ 154 by omega), e2]
  by_cases z : i = L
  · rw [z, vput_s, up_s, up_s]; exact ⟨rfl, rfl⟩
  · rw [vput_k z, up_k z, up_k z, up_c (show (154 : Nat) ≠ 153 by omega)]; exact h2 i (by omega)
def frF (M M' : Mm) : Prop := (∀ c, c ≠ 145 → c ≠ 153 → c ≠ 154 → M' c = M c) ∧ ∀ k, k ≠ 18 → k ≠ 21 → k ≠ 22 → M' 145 k = M 145 k
theorem frF.trans {M M1 M2 : Mm} (h : frF M M1) (h2 : frF M1 M2) : frF M M2 := ⟨fun c a b d => (h2.1 c a b d).trans (h.1 c a b d), fun k a b d => (h2.2 k a b d).trans (h.2 k a b d)⟩
theorem fr18.F {M M1 : Mm} (h : fr18 M M1) : frF M M1 := ⟨fun c a _ _ => h.1 c a, fun k a _ _ => h.2 k a⟩
theorem gl_s {op k : Nat} (ho : op < 4) (hk : k < 6) : gl (24 - (6 * op + k)) = (op, k) :: gl (24 - (6 * op + (k + 1))) := by
  obtain ⟨j, hj⟩ : ∃ j, 24 - (6 * op + k) = j + 1 := ⟨23 - (6 * op + k), by omega⟩
  rw [hj, gl, show 24 - (6 * op + (k + 1)) = j by omega, show (23 - j) / 6 = op by omega, show (23 - j) % 6 = k by omega]
theorem m_follow {fu : Nat} {post : Int32 → Mm → Prop} {D : Nat → Nat} {p c left L left' n' a : Nat} {x : Nat × Nat} {X : Nat → Nat × Nat} {M : Mm} (hf : 1300 ≤ fu) (hw : wfD D) (hD : SitM M 146 0 D) (hT : TC M D) (hW : TCw M D (wM D)) (hp : p ≤ D 56) (hc : okc D c) (hL : L < 1248) (hS : SCM M L X) (h22 : M 145 22 = nI left) (h7 : left ≤ 7) (hg : pick D 0 (96 * p + c) left = some (x, left')) (hx1 : x.1 < 4) (hx2 : x.2 < 6) (he : eg D 0 (96 * p + c) x.1 x.2 = some (n', a))
    (h : ∀ M', SCM M' (L + 1) (xput X L x) → M' 145 22 = nI left' → frF M M' → post (nI n') M') : f_Md_follow fu post 145 (nI (96 * p + c)) M := by
  have h12 := hw.2.2.2.2.1
  have hc96 := (okc_lt hw hc).2
  have ops : ∀ kf op (left : Nat) (M1 : Mm), 5 ≤ kf + op → op ≤ 4 → left ≤ 7 → M1 145 22 = nI left → frF M M1 → SCM M1 L X → gp (ew D 0 (96 * p + c)) (gl (24 - 6 * op)) left = some (x, left') → f_Md_follow_2 fu post kf 145 (nI (96 * p + c)) (nI op) M1 := by
    intro kf
    induction kf with
    | zero => intro op left M1 a1 a2; omega
    | succ kf ih =>
      intro op left M1 a1 a2 a7 b22 fr hS1 hg1
      rw [f_Md_follow_2]
      by_cases z4 : op = 4
      · subst z4
        unfold gl gp at hg1; cases hg1
      · refine br_f (by rw [show (3 : Int32) = nI 3 from rfl, nI_ltI (by omega) (by omega)]; omega) ?_
        have kinds : ∀ kg k (left : Nat) (M2 : Mm), 7 ≤ kg + k → k ≤ 6 → left ≤ 7 → M2 145 22 = nI left → frF M M2 → SCM M2 L X → gp (ew D 0 (96 * p + c)) (gl (24 - (6 * op + k))) left = some (x, left') → f_Md_follow_9 fu post (f_Md_follow_2 fu post kf) kg 145 (nI (96 * p + c)) (nI op) (nI k) M2 := by
          intro kg
          induction kg with
          | zero => intro k left M2 b1 b2; omega
          | succ kg ihk =>
            intro k left M2 b1 b2 b7 c22 fr2 hS2 hg2
            rw [f_Md_follow_9]
            refine pk_le 6 k (fun z y ey => ?_) (fun z => ?_)
            · rw [ey, nI_1]
              have : k = 6 := by omega
              subst this
              exact ih (op + 1) left M2 (by omega) (by omega) b7 c22 fr2 hS2 hg2
            · have hD2 : SitM M2 146 0 D := hD.keep (fun _ _ => by rw [fr2.1 146 (by omega) (by omega) (by omega)])
              have hT2 : TC M2 D := hT.fr (fr2.1 150 (by omega) (by omega) (by omega)) (fr2.1 151 (by omega) (by omega) (by omega))
              have hW2 : TCw M2 D (wM D) := fun p c hp hc => by rw [fr2.1 152 (by omega) (by omega) (by omega)]; exact hW p c hp hc
              refine m_pathsBy hw hD2 hT2 hW2 hp hc (by omega) z (fun M3 f3 => ?_)
              rw [gl_s (by omega) z] at hg2
              have heq : eterm D 0 (Ls D 0) (wM D) (96 * p + c) (Ls D 0 (96 * p + c)) op k = min (ew D 0 (96 * p + c) (op, k)) 1001 := by
                unfold ew
                show _ = min (eterm D 0 (Ls D 0) (Ws D 0) (96 * p + c) (Ls D 0 (96 * p + c)) op k) 1001
                cases hq : eg D 0 (96 * p + c) op k with
                | none => rw [eterm_no hq, eterm_no hq]; rfl
                | some y =>
                  obtain ⟨n2, a2⟩ := y
                  rw [eterm_yes hq, eterm_yes hq]
                  split
                  · rfl
                  · rfl
              rw [heq, f3.2 22 (by omega), c22]
              have fr3 := fr2.trans f3.F
              have hS3 : SCM M3 L X := ⟨by rw [f3.2 21 (by omega)]; exact hS2.1, fun i hi => by rw [f3.1 153 (by omega), f3.1 154 (by omega)]; exact hS2.2 i hi⟩
              refine pk_le (min (ew D 0 (96 * p + c) (op, k)) 1001) left (fun z2 M4 e4 y ey => ?_) (fun z2 => ?_)
              · rw [gp, if_neg (by omega)] at hg2
                rw [pk_sub z2, Nat.min_eq_left (by omega)] at e4
                rw [ey, nI_1]
                have f4 : frF M3 M4 := ⟨fun q a _ _ => by rw [e4, up_c a], fun q _ _ a => by rw [e4, up_k a]⟩
                exact ihk (k + 1) _ M4 (by omega) (by omega) (by omega) (by rw [e4, up_s]) (fr3.trans f4) ⟨by rw [e4, up_k (by omega)]; exact hS3.1, fun i hi => by rw [e4, up_c (by omega), up_c (by omega)]; exact hS3.2 i hi⟩ hg2
              · rw [gp, if_pos (by omega)] at hg2
                cases hg2
                refine m_append (x := (op, k)) hL hS3 (fun M6 d1 d2 d3 => ?_)
                have f6 : frF M M6 := fr3.trans ⟨fun q a b d => d2 q a b d, fun q _ a _ => d3 q a⟩
                refine m_edge (la := 0) hw (hD.keep (fun _ _ => by rw [f6.1 146 (by omega) (by omega) (by omega)])) hp hc96 (by omega) z (fun _ => rfl) (fun hq => ?_) (fun n2 a2 hq M7 f7 _ => ?_)
                · rw [he] at hq; cases hq
                · have e2 : some (n2, a2) = some (n', a) := by rw [← hq, ← he]
                  cases e2
                  exact h M7 ⟨by rw [f7.2 21 (by omega)]; exact d1.1, fun i hi => by rw [f7.1 153 (by omega), f7.1 154 (by omega)]; exact d1.2 i hi⟩ (by rw [f7.2 22 (by omega), d3 22 (by omega), f3.2 22 (by omega)]; exact c22) (f6.trans f7.F)
        exact kinds fu 0 left M1 (by omega) (by omega) a7 b22 fr hS1 hg1
  unfold f_Md_follow
  exact ops fu 0 left M (by omega) (by omega) h7 h22 ⟨fun _ _ _ _ => rfl, fun _ _ _ _ => rfl⟩ hS hg
