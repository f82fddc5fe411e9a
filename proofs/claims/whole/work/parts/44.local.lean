/-! local scripts -/
theorem m_followLocal {fu : Nat} {post : Int32 → Mm → Prop} {D : Nat → Nat} {la p c L left' n' a : Nat} {x : Nat × Nat} {X : Nat → Nat × Nat} {M : Mm} (hf : 1300 ≤ fu) (hw : wfD D) (hla : la ≠ 0) (hD : SitM M 146 0 D) (hT : TL M D la) (hp : p ≤ D 56) (hc : okc D c) (hL : L < 1248) (hS : SCM M L X) (hl : Ls D la (96 * p + c) < 1000000) (hg : pick D la (96 * p + c) 0 = some (x, left')) (he : eg D la (96 * p + c) x.1 x.2 = some (n', a))
    (h : ∀ M', SCM M' (L + 1) (xput X L x) → frF M M' → post (nI n') M') : f_Md_followLocal fu post 145 (nI (96 * p + c)) M := by
  have h12 := hw.2.2.2.2.1
  have hc96 := (okc_lt hw hc).2
  have L155 : ln 155 = 1248 := ln_M.2.2.2.2.2.2.2.2.2
  have e155 := hT p c hp hc
  have hg18 : gp (ew D la (96 * p + c)) (gl 18) 0 = some (x, left') := by
    rw [← (pick_class hw (la := la) (left := 0) hc96 hp).2 hla]; exact hg
  have ops : ∀ kf op (M1 : Mm), 5 ≤ kf + op → op ≤ 4 → fr18 M M1 → gp (ew D la (96 * p + c)) (gl (24 - 6 * op)) 0 = some (x, left') → 1 ≤ op → f_Md_followLocal_2 fu post kf 145 (nI (96 * p + c)) (nI op) M1 := by
    intro kf
    induction kf with
    | zero => intro op M1 a1 a2; omega
    | succ kf ih =>
      intro op M1 a1 a2 fr hg1 a3
      rw [f_Md_followLocal_2]
      by_cases z4 : op = 4
      · subst z4
        unfold gl gp at hg1; cases hg1
      · refine br_f (by rw [show (3 : Int32) = nI 3 from rfl, nI_ltI (by omega) (by omega)]; omega) ?_
        have kinds : ∀ kg k (M2 : Mm), 7 ≤ kg + k → k ≤ 6 → fr18 M M2 → gp (ew D la (96 * p + c)) (gl (24 - (6 * op + k))) 0 = some (x, left') → f_Md_followLocal_9 fu post (f_Md_followLocal_2 fu post kf) kg 145 (nI (96 * p + c)) (nI op) (nI k) M2 := by
          intro kg
          induction kg with
          | zero => intro k M2 b1 b2; omega
          | succ kg ihk =>
            intro k M2 b1 b2 fr2 hg2
            rw [f_Md_followLocal_9]
            refine pk_le 6 k (fun z y ey => ?_) (fun z => ?_)
            · rw [ey, nI_1]
              have : k = 6 := by omega
              subst this
              exact ih (op + 1) M2 (by omega) (by omega) fr2 hg2 (by omega)
            · rw [gl_s (by omega) z] at hg2
              unfold f_Md_localBy
              simp only [Nat.reduceAdd]
              rw [L155, nI_clamp (by omega)]
              have no : ∀ M3, fr18 M M3 → ew D la (96 * p + c) (op, k) = 0 → ∀ y, y = nI k + 1 → f_Md_followLocal_9 fu post (f_Md_followLocal_2 fu post kf) kg 145 (nI (96 * p + c)) (nI op) y M3 := fun M3 f3 h0 y ey => by
                rw [ey, nI_1]
                rw [gp_0 h0] at hg2
                exact ihk (k + 1) M3 (by omega) (by omega) f3 hg2
              refine m_edge (la := la) hw (hD.keep (fun _ _ => by rw [fr2.1 146 (by omega)])) hp hc96 (by omega) z (fun y => by omega) (fun hq M3 f3 => br_t rfl ?_) (fun n2 a2 hq M3 f3 m18 => ?_)
              · have f3' := fr2.trans f3
                rw [f3'.1 155 (by omega), e155]
                refine ⟨vp_in_nI (by omega) (by omega), br_f (fun y => ?_) (no M3 f3' (eterm_no hq))⟩
                have := (nI_eq (a := 1000000) (by omega) (by omega)).1 y
                omega
              · obtain ⟨p', c', e1, g1, g2, g3, g4⟩ := eg_G (okc_clo hw) hc hp z hq
                have ha := (eg_ok hw (okn_of (okc_clo hw) hc hp) z hq).2.1
                have f3' := fr2.trans f3
                have t2 := hT p' c' g3 g1
                have l2 := Ls_le1 D la n2
                rw [← e1] at t2
                refine br_f (fun y => nI_pos (n := n2) (by omega) (by rw [y]; decide)) ⟨vp_in_nI (by omega) (by omega), ?_⟩
                rw [nI_clamp (by omega), f3'.1 155 (by omega), t2, m18, nI_add, e155]
                have hew : ew D la (96 * p + c) (op, k) = if a2 + Ls D la n2 = Ls D la (96 * p + c) ∧ Ls D la (96 * p + c) < 1000000 then Ws D la n2 else 0 := eterm_yes hq
                refine ⟨vp_in_nI (by omega) (by omega), pk_eq (Ls D la n2 + a2) (Ls D la (96 * p + c)) (fun z2 => ?_) (fun z2 => no M3 f3' (by rw [hew, if_neg (fun y => z2 (by omega))]))⟩
                have hn2 : okn D n2 := (eg_ok hw (okn_of (okc_clo hw) hc hp) z hq).1
                have hws := Ws_pos hw la 1248 n2 hn2 (pot_1248 hw hn2) (by omega)
                rw [if_pos ⟨by omega, hl⟩] at hew
                rw [gp, if_pos (by omega)] at hg2
                cases hg2
                have hS3 : SCM M3 L X := ⟨by rw [f3'.2 21 (by omega)]; exact hS.1, fun i hi => by rw [f3'.1 153 (by omega), f3'.1 154 (by omega)]; exact hS.2 i hi⟩
                refine m_append (x := (op, k)) hL hS3 (fun M6 d1 d2 d3 => ?_)
                have f6 : frF M M6 := f3'.F.trans ⟨fun q a b d => d2 q a b d, fun q _ a _ => d3 q a⟩
                refine m_edge (la := la) hw (hD.keep (fun _ _ => by rw [f6.1 146 (by omega) (by omega) (by omega)])) hp hc96 (by omega) z (fun y => by omega) (fun hq2 => ?_) (fun n3 a3 hq2 M7 f7 _ => ?_)
                · rw [hq] at hq2; cases hq2
                · have e2 : some (n3, a3) = some (n', a) := by rw [← hq2, ← he]
                  cases e2
                  exact h M7 ⟨by rw [f7.2 21 (by omega)]; exact d1.1, fun i hi => by rw [f7.1 153 (by omega), f7.1 154 (by omega)]; exact d1.2 i hi⟩ (f6.trans f7.F)
        exact kinds fu 0 M1 (by omega) (by omega) fr hg1
  unfold f_Md_followLocal
  exact ops fu 1 M (by omega) (by omega) (fr18_refl M) hg18 (by omega)
theorem m_repair_loop {fu : Nat} {post : Int32 → Mm → Prop} {D : Nat → Nat} {la : Nat} (hf : 1300 ≤ fu) (hw : wfD D) (hla : la ≠ 0) : ∀ (f kf p c L : Nat) (X : Nat → Nat × Nat) (M : Mm), f ≤ kf → pot D la (96 * p + c) < f → L + pot D la (96 * p + c) < 1248 → Ls D la (96 * p + c) < 1000000 → okc D c → p ≤ D 56 → SitM M 146 0 D → TL M D la → SCM M L X →
    (∀ M' n' L' X', trc D la f (96 * p + c) 0 L X = (n', L', X') → SCM M' L' X' → frF M M' → post (nI n') M') → f_Md_repairLocally_7 fu post kf 145 (nI (96 * p + c)) M := by
  have h12 := hw.2.2.2.2.1
  have L155 : ln 155 = 1248 := ln_M.2.2.2.2.2.2.2.2.2
  intro f
  induction f with
  | zero => intro kf p c L X M h1 h2; omega
  | succ f ih =>
    intro kf p c L X M h1 h2 h3 h5 hc hp hD hT hS h
    obtain ⟨kf, rfl⟩ : ∃ k, kf = k + 1 := ⟨kf - 1, by omega⟩
    have hc96 := (okc_lt hw hc).2
    have hn := okn_of (okc_clo hw) hc hp
    rw [f_Md_repairLocally_7]
    simp only [Nat.reduceAdd]
    rw [L155, nI_clamp (by omega), hT p c hp hc]
    refine ⟨vp_in_nI (by omega) (by omega), pk_le (Ls D la (96 * p + c)) 0 (fun z => ?_) (fun z => ?_)⟩
    · refine h M (96 * p + c) L X ?_ hS ⟨fun _ _ _ _ => rfl, fun _ _ _ _ => rfl⟩
      rw [trc, if_pos (Ls_endL hw hla (by omega))]
    · have htm : term D la (96 * p + c) = false := by
        cases hb : term D la (96 * p + c) with
        | false => rfl
        | true => have := Ls_le (PP_term hb); omega
      obtain ⟨op, kd, n', a, left', p1, p2, p3, p4, p5, p6, p7, p8⟩ := pick_ok hw hn htm (Ws_pos hw la 1248 _ hn (pot_1248 hw hn) h5)
      obtain ⟨p', c', e1, g1, g2, g3, g4⟩ := eg_G (okc_clo hw) hc hp p3 p4
      have hpot := pot_lt hw hn p3 p4 p5
      refine m_followLocal hf hw hla hD hT hp hc (by omega) hS h5 p1 p4 (fun M' b1 b3 => ?_)
      have hl0 : left' = 0 := by omega
      rw [e1] at p4 p5 hpot ⊢
      refine ih kf p' c' (L + 1) (xput X L (op, kd)) M' (by omega) (by omega) (by omega) (by omega) g1 g3 (hD.keep (fun _ _ => by rw [b3.1 146 (by omega) (by omega) (by omega)])) (fun p c hp hc => by rw [b3.1 155 (by omega) (by omega) (by omega)]; exact hT p c hp hc) b1 (fun M2 n2 L2 X2 q1 q2 q3 => h M2 n2 L2 X2 ?_ q2 (b3.trans q3))
      rw [trc, htm, if_neg (by decide), p1]
      show (match eg D la (96 * p + c) op kd with | none => _ | some (n', _) => trc D la f n' left' (L + 1) (xput X L (op, kd))) = _
      rw [p4, hl0]
      exact q1
theorem m_repairLocally {fu : Nat} {post : Int32 → Mm → Prop} {D : Nat → Nat} {la p c : Nat} {M : Mm} (hf : 1300 ≤ fu) (hw : wfD D) (hla : la ≠ 0) (hl : Ls D la (96 * p + c) < 1000000) (hc : okc D c) (hp : p ≤ D 56) (hD : SitM M 146 0 D) (hT : TL M D la)
    (h : ∀ M' n' L' X', trc D la 1300 (96 * p + c) 0 0 (fun _ => (0, 0)) = (n', L', X') → SCM M' L' X' → frF M M' → post (nI n') M') : f_Md_repairLocally fu post 145 (nI (96 * p + c)) M := by
  have hn := okn_of (okc_clo hw) hc hp
  have hpt := pot_1248 hw (la := la) hn
  unfold f_Md_repairLocally
  intro M1 e1
  have f1 : frF M M1 := ⟨fun q a _ _ => by rw [e1, up_c a], fun q _ a _ => by rw [e1, up_k a]⟩
  exact m_repair_loop hf hw hla 1300 fu p c 0 (fun _ => (0, 0)) M1 hf (by omega) (by omega) hl hc hp (hD.keep (fun _ _ => by rw [e1, up_c (by omega)])) (fun p c hp hc => by rw [e1, up_c (by omega)]; exact hT p c hp hc) ⟨by rw [e1, up_s]; rfl, fun i hi => absurd hi (by omega)⟩ (fun M' n' L' X' q1 q2 q3 => h M' n' L' X' q1 q2 (f1.trans q3))
theorem runD_G {D : Nat → Nat} {G : Nat → Prop} (hw : wfD D) (hG : clo D G) : ∀ n p c, G c → p + n ≤ 12 → G (runD D n p c).2
  | 0, _, _, hc, _ => hc
  | n + 1, p, c, hc, hp => by
    unfold runD
    cases h : cns D c (D (57 + p)) with
    | none => exact hc
    | some c' => exact runD_G hw hG n (p + 1) c' ((hG c hc).2.2 _ c' (hw.2.2.2.2.2 p (by omega)) h) (by omega)
theorem JM.L {M M' : Mm} {D : Nat → Nat} {cnt : Nat} {H : Nat → Nat → Nat} {len : Nat} {T : Nat → Nat} (h : JM M D cnt H len T) (k : frL M M') : JM M' D cnt H len T :=
  h.keep (k.1 146 (by omega) (by omega)) (k.1 148 (by omega) (by omega)) (k.1 149 (by omega) (by omega)) ⟨k.2 3 (by omega) (by omega), k.2 5 (by omega) (by omega)⟩
theorem m_findLocal {fu : Nat} {post : Int32 → Mm → Prop} {D : Nat → Nat} {cnt : Nat} {H : Nat → Nat → Nat} {len : Nat} {T : Nat → Nat} {x : Int32} {M : Mm} (hf : 1300 ≤ fu) (hw : wfD D) (hM : JM M D cnt H len T)
    (h0 : (¬ ∃ la, 1 ≤ la ∧ la ≤ 5 ∧ x = nI la) → post (-1) M)
    (h1 : ∀ la, 1 ≤ la → la ≤ 5 → x = nI la → acc D 0 1 = true → ∀ M', JM M' D cnt H len T → frM M M' → post (-2) M')
    (h2 : ∀ la, 1 ≤ la → la ≤ 5 → x = nI la → acc D 0 1 = false → 1000000 ≤ Ls D la (96 * (runD D (D 56) 0 1).1 + (runD D (D 56) 0 1).2) → ∀ M', JM M' D cnt H len T → frM M M' → post (-9) M')
    (h3 : ∀ la, 1 ≤ la → la ≤ 5 → x = nI la → acc D 0 1 = false → Ls D la (96 * (runD D (D 56) 0 1).1 + (runD D (D 56) 0 1).2) < 1000000 → ∀ M' n L X, trc D la 1300 (96 * (runD D (D 56) 0 1).1 + (runD D (D 56) 0 1).2) 0 0 (fun _ => (0, 0)) = (n, L, X) → JM M' D cnt H len T → frM M M' → SCM M' L X → post (nI (Ls D la (96 * (runD D (D 56) 0 1).1 + (runD D (D 56) 0 1).2))) M') : f_Md_findLocal fu post 145 x M := by
  have h12 := hw.2.2.2.2.1
  have sp := runD_spec hw (D 56) 0 1 (by omega) (by omega)
  have hok := runD_ok hw (D 56) 0 1 (ok1 hw) (by omega)
  have L155 : ln 155 = 1248 := ln_M.2.2.2.2.2.2.2.2.2
  unfold f_Md_findLocal
  refine s_in (a := 1) (b := 5) (by omega) (by omega) (fun la l1 l5 e => br_f (by decide) ?_) (fun q => br_t rfl (h0 q))
  refine m_findError (p := 0) (c := 1) hf hw (by omega) (by omega) hM.1 (fun M2 a1 a2 a3 => ?_)
  rw [show D 56 - 0 = D 56 by omega] at a1 ⊢
  have hM2 : JM M2 D cnt H len T := hM.cur (fun c _ _ _ => a3 c (by omega)) ⟨a2 3 (by omega), a2 5 (by omega)⟩
  have fm2 : frM M M2 := fun c hc => a3 c (by omega)
  cases hb : acc D 0 1 with
  | true =>
    rw [if_pos rfl]
    exact br_t rfl (h1 la l1 l5 e hb M2 hM2 fm2)
  | false =>
    rw [if_neg (by decide)]
    refine br_f (fun q => nI_pos (n := (runD D (D 56) 0 1).1) (by omega) (by rw [q]; decide)) (fun y5 e5 => ?_)
    rw [a1, show (96 : Int32) = nI 96 from rfl, pk_mul, nI_add] at e5
    rw [e5, e]
    refine m_findLocalCosts hf hw (by omega) l5 hM2.1 (fun M3 t3 f3 => ?_)
    have hM3 := hM2.L f3
    have fm3 : frM M M3 := fm2.trans (fun c hc => f3.1 c (by omega) (by omega))
    have e155 := t3 (runD D (D 56) 0 1).1 (runD D (D 56) 0 1).2 (by omega) hok
    have l2 := Ls_le1 D la (96 * (runD D (D 56) 0 1).1 + (runD D (D 56) 0 1).2)
    simp only [Nat.reduceAdd]
    rw [L155, nI_clamp (by omega), e155]
    refine ⟨vp_in_nI (by omega) (by omega), pk_lt (Ls D la (96 * (runD D (D 56) 0 1).1 + (runD D (D 56) 0 1).2)) 1000000 (fun z => ?_) (fun z => h2 la l1 l5 e hb z M3 hM3 fm3)⟩
    refine m_repairLocally hf hw (by omega) z hok (by omega) hM3.1 t3 (fun M4 n L X q1 q2 q3 => ⟨vp_in_nI (by omega) (by omega), ?_⟩)
    rw [q3.1 155 (by omega) (by omega) (by omega), e155]
    exact h3 la l1 l5 e hb z M4 n L X q1 (hM3.F q3) (fm3.trans (fun c hc => q3.1 c (by omega) (by omega) (by omega))) q2
theorem JC.tabL {M M' : Mm} {D : Nat → Nat} {cnt : Nat} {H : Nat → Nat → Nat} {len : Nat} {T : Nat → Nat} (h : JC M D cnt H len T) {la : Nat} (h1 : 1 ≤ la) (h5 : la ≤ 5) (k : ∀ c, (c < 123 ∨ 123 + 18 ≤ c) → M' c = M c) (h6 : M' 123 6 = nI la) (hT : Tab M' 123 D la) : JC M' D cnt H len T := by
  obtain ⟨c1, c2, c3, c4, c5, c6⟩ := h
  refine ⟨c1.keep (fun c _ _ => k c (by omega)), c2.keep (fun c _ _ => k c (by omega)), by rw [k 93 (by omega)]; exact c3, fun i hi => by rw [k 94 (by omega)]; exact c4 i hi, ?_, Or.inr ⟨la, h1, h5, h6, hT⟩⟩
  rw [k 105 (by omega)]
  exact c5.imp id (fun q => ⟨q.1, q.2.keep (fun c _ _ => k c (by omega))⟩)
theorem c_lsolve {fu : Nat} {post : Mm → Prop} {D : Nat → Nat} {cnt : Nat} {H : Nat → Nat → Nat} {len : Nat} {T : Nat → Nat} {la : Nat} {M : Mm} (hf : 1300 ≤ fu) (hW : WF D cnt H len T) (hC : JC M D cnt H len T) (h1 : 1 ≤ la) (h5 : la ≤ 5)
    (h : ∀ M' G gn gq, JC M' D cnt H len T → M' 123 6 = nI la → TbG M' 123 D la G gn gq → (∀ c, (c < 123 ∨ 141 ≤ c) → M' c = M c) → post M') : f_St_solve fu post 123 1 (nI la) M := by
  refine c_solve hf (Or.inr rfl) hW.1 h5 hC.1 ?_ (fun M' a1 a2 a3 => ?_)
  · exact hC.2.2.2.2.2.imp id (fun ⟨la', q1, q2, q3, q4⟩ => ⟨la', q2, q3, q4⟩)
  · obtain ⟨G, gn, gq, hT⟩ := a1.G
    exact h M' G gn gq (hC.tabL h1 h5 a3 a2 a1) a2 hT (fun c hc => a3 c (by omega))
theorem c_isLook {fu : Nat} {post : Int32 → Mm → Prop} {x : Int32} {M : Mm} (h1 : ∀ la, 1 ≤ la → la ≤ 5 → x = nI la → post 1 M) (h0 : (¬ ∃ la, 1 ≤ la ∧ la ≤ 5 ∧ x = nI la) → post 0 M) : f_SR_isLookAhead fu post x M := by
  unfold f_SR_isLookAhead
  refine ⟨fun q => h0 ?_, fun q => ?_⟩
  · rintro ⟨la, a1, a2, rfl⟩
    rw [show (1 : Int32) = nI 1 from rfl, nI_ltI (by omega) (by omega)] at q; omega
  have q0 : ¬ x < 0 := fun z => q (Std.lt_of_lt_of_le z (by decide))
  obtain ⟨v, hv, rfl⟩ := nI_of q0
  rw [show (1 : Int32) = nI 1 from rfl, nI_ltI (by omega) (by omega)] at q
  refine pk_lt 5 v (fun z => h0 ?_) (fun z => h1 v (by omega) z rfl)
  rintro ⟨la, a1, a2, e⟩
  rw [nI_eq hv (by omega)] at e; omega
theorem c_solveLocal {fu : Nat} {post : Int32 → Mm → Prop} {D : Nat → Nat} {cnt : Nat} {H : Nat → Nat → Nat} {len : Nat} {T : Nat → Nat} {x : Int32} {M : Mm} (hf : 1300 ≤ fu) (hW : WF D cnt H len T) (hC : JC M D cnt H len T)
    (h0 : (¬ ∃ la, 1 ≤ la ∧ la ≤ 5 ∧ x = nI la) → post (-1) M)
    (h1 : ∀ la, 1 ≤ la → la ≤ 5 → x = nI la → acc D 0 1 = true → ∀ M', JC M' D cnt H len T → frC M M' → post (-2) M')
    (h2 : ∀ la, 1 ≤ la → la ≤ 5 → x = nI la → acc D 0 1 = false → 1000000 ≤ Ls D la (96 * (runD D (D 56) 0 1).1 + (runD D (D 56) 0 1).2) → ∀ M', JC M' D cnt H len T → frC M M' → post (-9) M')
    (h3 : ∀ la, 1 ≤ la → la ≤ 5 → x = nI la → acc D 0 1 = false → Ls D la (96 * (runD D (D 56) 0 1).1 + (runD D (D 56) 0 1).2) < 1000000 → ∀ M' G gn gq, JC M' D cnt H len T → frC M M' → M' 123 6 = nI la → TbG M' 123 D la G gn gq → G (runD D (D 56) 0 1).2 → M' 144 0 = nI (runD D (D 56) 0 1).1 → M' 144 1 = nI (runD D (D 56) 0 1).2 → post 0 M') : f_SR_solveLocal fu post 0 x M := by
  have hw := hW.1
  have h12 := hw.2.2.2.2.1
  have sp := runD_spec hw (D 56) 0 1 (by omega) (by omega)
  unfold f_SR_solveLocal
  refine c_isLook (fun la l1 l5 e => br_f (by decide) ?_) (fun q => br_t rfl (h0 q))
  refine c_findError hf hw hC.1 (fun M1 g1 g2 g3 => ?_)
  have hC1 := hC.cur (M' := M1) (fun c hc => g3 c (by omega))
  have fc1 : frC M M1 := fun c hc => g3 c (by omega)
  cases hb : acc D 0 1 with
  | true =>
    rw [if_pos rfl]
    exact br_t (by rfl) (h1 la l1 l5 e hb M1 hC1 fc1)
  | false =>
    rw [if_neg (by decide)]
    refine br_f (by decide) ?_
    simp only [Nat.reduceAdd]
    rw [e]
    refine c_lsolve hf hW hC1 l1 l5 (fun M2 G gn gq b1 b2 b3 b4 => ?_)
    have gc : G (runD D (D 56) 0 1).2 := runD_G hw b3.2.1.clo (D 56) 0 1 b3.2.1.2.2.2.2.1 (by omega)
    have l2 := Ls_le1 D la (96 * (runD D (D 56) 0 1).1 + (runD D (D 56) 0 1).2)
    have fc2 : frC M M2 := fc1.trans (fun c hc => b4 c (by omega))
    have k0 : M2 144 0 = nI (runD D (D 56) 0 1).1 := by rw [b4 144 (by omega)]; exact g1
    have k1 : M2 144 1 = nI (runD D (D 56) 0 1).2 := by rw [b4 144 (by omega)]; exact g2
    unfold f_St_leastFrom
    rw [k0, k1, show (96 : Int32) = nI 96 from rfl, pk_mul, nI_add, Nat.mul_comm _ 96]
    refine s_at (by rw [show 123 + 15 = 138 from rfl, (ln_T 123 (Or.inr rfl)).2.2.2.2.1]; omega) ?_
    rw [(b3.2.2 (runD D (D 56) 0 1).1 (runD D (D 56) 0 1).2 (by omega) gc).1]
    exact pk_lt (Ls D la (96 * (runD D (D 56) 0 1).1 + (runD D (D 56) 0 1).2)) 1000000 (fun z => h3 la l1 l5 e hb z M2 G gn gq b1 fc2 b2 b3 gc k0 k1) (fun z => h2 la l1 l5 e hb z M2 b1 fc2)
