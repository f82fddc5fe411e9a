/-! the sweep -/
theorem pick_lt {D : Nat → Nat} {la n left left' : Nat} {x : Nat × Nat} (h : pick D la n left = some (x, left')) : x.1 < 4 ∧ x.2 < 6 := by
  have h1 := (gp_spec _ _ _ _ h).1
  have go : ∀ j, j ≤ 24 → x ∈ gl j → x.1 < 4 ∧ x.2 < 6 := by
    intro j
    induction j with
    | zero => intro _ hm; unfold gl at hm; cases hm
    | succ j ih =>
      intro hj hm
      unfold gl at hm
      rcases List.mem_cons.1 hm with z | z
      · rw [z]; exact ⟨by show (23 - j) / 6 < 4; omega, by show (23 - j) % 6 < 6; omega⟩
      · exact ih (by omega) z
  exact go 24 (by omega) h1
theorem trc_ge {D : Nat → Nat} (hw : wfD D) {la : Nat} : ∀ (f n left L : Nat) (X : Nat → Nat × Nat), okn D n → n / 96 ≤ (trc D la f n left L X).1 / 96 ∧ okn D (trc D la f n left L X).1
  | 0, n, left, L, X, h => ⟨Nat.le_refl _, h⟩
  | f + 1, n, left, L, X, h => by
    rw [trc]
    by_cases ht : term D la n = true
    · rw [if_pos ht]; exact ⟨Nat.le_refl _, h⟩
    · rw [if_neg ht]
      cases hq : pick D la n left with
      | none => exact ⟨Nat.le_refl _, h⟩
      | some y =>
        obtain ⟨x, left'⟩ := y
        show n / 96 ≤ (match eg D la n x.1 x.2 with | none => (n, L, X) | some (n', _) => trc D la f n' left' (L + 1) (xput X L x)).1 / 96 ∧ okn D (match eg D la n x.1 x.2 with | none => (n, L, X) | some (n', _) => trc D la f n' left' (L + 1) (xput X L x)).1
        cases he : eg D la n x.1 x.2 with
        | none => exact ⟨Nat.le_refl _, h⟩
        | some z =>
          obtain ⟨n', a⟩ := z
          obtain ⟨e1, e2, e3⟩ := eg_ok hw h (pick_lt hq).2 he
          obtain ⟨i1, i2⟩ := trc_ge hw (la := la) f n' left' (L + 1) (xput X L x) e1
          exact ⟨by show n / 96 ≤ (trc D la f n' left' (L + 1) (xput X L x)).1 / 96; omega, i2⟩
theorem trc_term {D : Nat → Nat} (hw : wfD D) {la : Nat} : ∀ (f n left L : Nat) (X : Nat → Nat × Nat), okn D n → pot D la n < f → left < Ws D la n → term D la (trc D la f n left L X).1 = true
  | 0, _, _, _, _, _, h, _ => absurd h (by omega)
  | f + 1, n, left, L, X, hn, hp, hl => by
    rw [trc]
    cases ht : term D la n with
    | true => rw [if_pos rfl]; exact ht
    | false =>
      rw [if_neg (by decide)]
      obtain ⟨op, kd, n', a, left', p1, p2, p3, p4, p5, p6, p7, p8⟩ := pick_ok hw hn ht hl
      rw [p1]
      show term D la (match eg D la n op kd with | none => (n, L, X) | some (n', _) => trc D la f n' left' (L + 1) (xput X L (op, kd))).1 = true
      rw [p4]
      have := pot_lt hw hn p3 p4 p5
      exact trc_term hw f n' left' (L + 1) (xput X L (op, kd)) (eg_ok hw hn p3 p4).1 (by omega) p7
theorem runD_mono {D : Nat → Nat} : ∀ m n p c, m ≤ n → (runD D m p c).1 ≤ (runD D n p c).1
  | 0, n, p, c, _ => by
    have : ∀ n p c, p ≤ (runD D n p c).1 := by
      intro n
      induction n with
      | zero => intro p c; exact Nat.le_refl _
      | succ n ih =>
        intro p c
        unfold runD
        cases h : cns D c (D (57 + p)) with
        | none => exact Nat.le_refl _
        | some c' => exact Nat.le_trans (Nat.le_succ p) (ih (p + 1) c')
    exact this n p c
  | m + 1, 0, _, _, h => absurd h (by omega)
  | m + 1, n + 1, p, c, h => by
    unfold runD
    cases hq : cns D c (D (57 + p)) with
    | none => exact Nat.le_refl _
    | some c' => exact runD_mono m n (p + 1) c' (by omega)
noncomputable def swp (D : Nat → Nat) (la : Nat) : Nat → Nat → Nat → Nat → Option Nat
  | 0, _, _, _ => none
  | g + 1, p, c, sum => if acc D p c = true then some sum else
    if 1000000 ≤ Ls D la (96 * (runD D (D 56 - p) p c).1 + (runD D (D 56 - p) p c).2) then none else
    swp D la g ((trc D la 1300 (96 * (runD D (D 56 - p) p c).1 + (runD D (D 56 - p) p c).2) 0 0 (fun _ => (0, 0))).1 / 96) ((trc D la 1300 (96 * (runD D (D 56 - p) p c).1 + (runD D (D 56 - p) p c).2) 0 0 (fun _ => (0, 0))).1 % 96) (sum + Ls D la (96 * (runD D (D 56 - p) p c).1 + (runD D (D 56 - p) p c).2))
/-- behind a local repair the error lies further on, or there is none -/
theorem swp_on {D : Nat → Nat} (hw : wfD D) {la p1 p' c' : Nat} (hla : la ≠ 0) (h1 : p1 ≤ p') (hp : p' ≤ D 56) (hc : c' < 96) (ht : term D la (96 * p' + c') = true) : acc D p' c' = true ∨ p1 + 1 ≤ (runD D (D 56 - p') p' c').1 := by
  unfold term at ht
  rw [if_neg hla, show (96 * p' + c') / 96 = p' by omega, show (96 * p' + c') % 96 = c' by omega] at ht
  by_cases z : p' + la ≤ D 56
  · rw [if_pos z] at ht
    have e := of_decide_eq_true ht
    have := runD_mono (D := D) la (D 56 - p') p' c' (by omega)
    right; omega
  · rw [if_neg z] at ht
    exact Or.inl ht
theorem c_sweepLoop {fu : Nat} {post : Int32 → Mm → Prop} {D : Nat → Nat} {cnt : Nat} {H : Nat → Nat → Nat} {len : Nat} {T : Nat → Nat} {la gn : Nat} {G : Nat → Prop} {gq : Nat → Nat} (hf : 1300 ≤ fu) (hW : WF D cnt H len T) (hla : 1 ≤ la) (hla5 : la ≤ 5) : ∀ (g r kf p c sum : Nat) (M : Mm), g + r = 14 → 1 ≤ g → g ≤ kf → G c → p ≤ D 56 → (acc D p c = true ∨ r ≤ (runD D (D 56 - p) p c).1) → JC M D cnt H len T → TbG M 123 D la G gn gq → M 123 6 = nI la → M 144 0 = nI p → M 144 1 = nI c →
    (∀ M', JC M' D cnt H len T → frC M M' → post (oI (-9) (swp D la g p c sum)) M') → f_SR_sweepCost_32 fu post kf 0 (nI sum) (nI r) M := by
  have hw := hW.1
  have h12 := hw.2.2.2.2.1
  intro g
  induction g with
  | zero => intro r kf p c sum M h1 h2; omega
  | succ g ih =>
    intro r kf p c sum M h1 h2 h3 hc hp hr hC hT h6 k0 k1 h
    obtain ⟨kf, rfl⟩ : ∃ k, kf = k + 1 := ⟨kf - 1, by omega⟩
    have hG := hT.2.1.clo
    have hc96 := (hG c hc).2.1
    have sp := runD_spec hw (D 56 - p) p c hc96 (by omega)
    have gc := runD_G hw hG (D 56 - p) p c hc (by omega)
    rw [f_SR_sweepCost_32]
    refine pk_lt 13 r (fun z => by omega) (fun _ => ?_)
    refine c_run (lim := 12) (e := D 56) hf hw hC.1 k0 k1 hc96 (by omega) (by omega) hp (fun M1 g1 g2 g3 => ?_)
    have hC1 := hC.cur (M' := M1) (fun c hc => g3 c (by omega))
    have fc1 : frC M M1 := fun c hc => g3 c (by omega)
    have hT1 : TbG M1 123 D la G gn gq := hT.keep (fun a _ _ => g3 a (by omega))
    rw [swp] at h
    refine c_isDone hw hC1.1 g1 g2 sp.2.2 (by omega) ?_
    rw [show (decide ((runD D (D 56 - p) p c).1 = D 56) && isF D (runD D (D 56 - p) p c).2) = acc D p c from rfl]
    cases hb : acc D p c with
    | true =>
      rw [if_pos hb] at h
      rw [if_pos rfl]
      exact br_f (by decide) (h M1 hC1 fc1)
    | false =>
      rw [if_neg (by rw [hb]; decide)] at h
      rw [if_neg (by decide)]
      refine br_t (by rfl) ?_
      have hr1 : r ≤ (runD D (D 56 - p) p c).1 := hr.elim (fun y => by rw [hb] at y; cases y) id
      have l2 := Ls_le1 D la (96 * (runD D (D 56 - p) p c).1 + (runD D (D 56 - p) p c).2)
      have hn := okn_of hG gc (show (runD D (D 56 - p) p c).1 ≤ D 56 by omega)
      unfold f_St_leastFrom
      simp only [Nat.reduceAdd]
      rw [g1, g2, show (96 : Int32) = nI 96 from rfl, pk_mul, nI_add, Nat.mul_comm _ 96]
      refine s_at (by rw [(ln_T 123 (Or.inr rfl)).2.2.2.2.1]; omega) ?_
      rw [(hT1.2.2 (runD D (D 56 - p) p c).1 (runD D (D 56 - p) p c).2 (by omega) gc).1]
      refine pk_lt (Ls D la (96 * (runD D (D 56 - p) p c).1 + (runD D (D 56 - p) p c).2)) 1000000 (fun z y6 e6 => ?_) (fun z => ?_)
      · rw [if_neg (by omega)] at h
        rw [nI_add] at e6
        rw [e6]
        refine c_trace (left := 0) hf (Or.inr rfl) hw hla5 (Ws_pos hw la 1248 _ hn (pot_1248 hw hn) z) z (by omega) gc (by omega) hT1 (by rw [g3 123 (by omega)]; exact h6) g1 g2 (fun M2 p' c' L X q1 q2 q3 q4 q5 q6 q7 q8 q9 q10 q11 y8 e8 => ?_)
        rw [e8, nI_1]
        have hc' := (hG c' q2).2.1
        have hge := (trc_ge hw (la := la) 1300 _ 0 0 (fun _ => (0, 0)) hn).1
        rw [q1] at hge h
        have hp' : (runD D (D 56 - p) p c).1 ≤ p' := by
          have a1 : (96 * (runD D (D 56 - p) p c).1 + (runD D (D 56 - p) p c).2) / 96 = (runD D (D 56 - p) p c).1 := by omega
          have a2 : (96 * p' + c') / 96 = p' := by omega
          rw [a1] at hge
          have hge' : (runD D (D 56 - p) p c).1 ≤ (96 * p' + c') / 96 := hge
          omega
        have hh : ∀ M', JC M' D cnt H len T → frC M M' → post (oI (-9) (swp D la g p' c' (sum + Ls D la (96 * (runD D (D 56 - p) p c).1 + (runD D (D 56 - p) p c).2)))) M' := by
          have h' : ∀ M', JC M' D cnt H len T → frC M M' → post (oI (-9) (swp D la g ((96 * p' + c') / 96) ((96 * p' + c') % 96) (sum + Ls D la (96 * (runD D (D 56 - p) p c).1 + (runD D (D 56 - p) p c).2)))) M' := h
          rw [show (96 * p' + c') / 96 = p' by omega, show (96 * p' + c') % 96 = c' by omega] at h'
          exact h'
        have fc2 : frC M M2 := fc1.trans (fun c hc => q11.1 c (by omega) (by omega))
        exact ih (r + 1) kf p' c' _ M2 (by omega) (by omega) (by omega) q2 q3 ((swp_on hw (by omega) hp' q3 hc' q4).imp id (fun y => by omega)) (hC1.tr (Or.inr rfl) q11) q10 (by rw [q11.2 6 (by omega), g3 123 (by omega)]; exact h6) q7 q8 (fun M' a1 a2 => hh M' a1 (fc2.trans a2))
      · rw [if_pos (by omega)] at h
        exact h M1 hC1 fc1
theorem m_sweepLoop {fu : Nat} {post : Int32 → Mm → Prop} {D : Nat → Nat} {cnt : Nat} {H : Nat → Nat → Nat} {len : Nat} {T : Nat → Nat} {la : Nat} (hf : 1300 ≤ fu) (hw : wfD D) (hla : 1 ≤ la) (hla5 : la ≤ 5) : ∀ (g r kf p c sum : Nat) (M : Mm), g + r = 14 → 1 ≤ g → g ≤ kf → okc D c → p ≤ D 56 → (acc D p c = true ∨ r ≤ (runD D (D 56 - p) p c).1) → JM M D cnt H len T → TL M D la → M 145 12 = nI (runD D (D 56 - p) p c).2 →
    (∀ M', JM M' D cnt H len T → frM M M' → post (oI (-9) (swp D la g p c sum)) M') → f_Md_sweepCost_25 fu post kf 145 (nI sum) (if acc D p c = true then -9 else nI (runD D (D 56 - p) p c).1) M := by
  have h12 := hw.2.2.2.2.1
  have L155 : ln 155 = 1248 := ln_M.2.2.2.2.2.2.2.2.2
  intro g
  induction g with
  | zero => intro r kf p c sum M h1 h2; omega
  | succ g ih =>
    intro r kf p c sum M h1 h2 h3 hc hp hr hM hT h12' h
    obtain ⟨kf, rfl⟩ : ∃ k, kf = k + 1 := ⟨kf - 1, by omega⟩
    have hc96 := (okc_lt hw hc).2
    have sp := runD_spec hw (D 56 - p) p c hc96 (by omega)
    have gc := runD_ok hw (D 56 - p) p c hc (by omega)
    rw [f_Md_sweepCost_25]
    rw [swp] at h
    cases hb : acc D p c with
    | true =>
      rw [if_pos hb] at h
      rw [if_pos rfl]
      exact br_t rfl (h M hM (fun _ _ => rfl))
    | false =>
      rw [if_neg (by rw [hb]; decide)] at h
      rw [if_neg (by decide)]
      have hr1 : r ≤ (runD D (D 56 - p) p c).1 := hr.elim (fun y => by rw [hb] at y; cases y) id
      have l2 := Ls_le1 D la (96 * (runD D (D 56 - p) p c).1 + (runD D (D 56 - p) p c).2)
      have hn := okn_of (okc_clo hw) gc (show (runD D (D 56 - p) p c).1 ≤ D 56 by omega)
      refine br_f (fun y => nI_pos (n := (runD D (D 56 - p) p c).1) (by omega) (by rw [y]; decide)) (fun y1 e1 => ?_)
      rw [h12', show (96 : Int32) = nI 96 from rfl, pk_mul, nI_add] at e1
      simp only [Nat.reduceAdd]
      rw [e1, L155, nI_clamp (by omega), hT (runD D (D 56 - p) p c).1 (runD D (D 56 - p) p c).2 (by omega) gc]
      refine ⟨vp_in_nI (by omega) (by omega), pk_lt (Ls D la (96 * (runD D (D 56 - p) p c).1 + (runD D (D 56 - p) p c).2)) 1000000 (fun z => ⟨vp_in_nI (by omega) (by omega), fun y4 e4 => ?_⟩) (fun z => ?_)⟩
      · rw [if_neg (by omega)] at h
        rw [nI_add] at e4
        rw [e4]
        refine m_repairLocally hf hw (by omega) z gc (by omega) hM.1 hT (fun M2 n L X q1 q2 q3 => ?_)
        obtain ⟨hge, hok⟩ := trc_ge hw (la := la) 1300 _ 0 0 (fun _ => (0, 0)) hn
        rw [q1] at hge h hok
        have hokn : okn D n := hok
        have hge' : (runD D (D 56 - p) p c).1 ≤ n / 96 := by
          have a1 : (96 * (runD D (D 56 - p) p c).1 + (runD D (D 56 - p) p c).2) / 96 = (runD D (D 56 - p) p c).1 := by omega
          rw [a1] at hge
          exact hge
        have hn1 := hokn.1
        have hM2 := hM.F q3
        have fm2 : frM M M2 := fun c hc => q3.1 c (by omega) (by omega) (by omega)
        rw [show (96 : Int32) = nI 96 from rfl, pk_rem (by omega) (by omega) (by omega), pk_div (by omega) (by omega) (by omega)]
        refine m_findError hf hw hn1 (by omega) hM2.1 (fun M3 a1 a2 a3 => ?_)
        have hM3 : JM M3 D cnt H len T := hM2.cur (fun c _ _ _ => a3 c (by omega)) ⟨a2 3 (by omega), a2 5 (by omega)⟩
        have fm3 : frM M M3 := fm2.trans (fun c hc => a3 c (by omega))
        have ht : term D la (96 * (n / 96) + n % 96) = true := by
          have t := trc_term hw (la := la) 1300 _ 0 0 (fun _ => (0, 0)) hn (by have := pot_1248 hw (la := la) hn; omega) (Ws_pos hw la 1248 _ hn (pot_1248 hw hn) z)
          rw [q1] at t
          rw [show 96 * (n / 96) + n % 96 = n by omega]
          exact t
        refine ih (r + 1) kf (n / 96) (n % 96) _ M3 (by omega) (by omega) (by omega) hokn.2 hn1 ((swp_on hw (by omega) hge' hn1 (by omega) ht).imp id (fun y => by omega)) hM3 (fun p c hp hc => by rw [a3 155 (by omega), q3.1 155 (by omega) (by omega) (by omega)]; exact hT p c hp hc) a1 (fun M' b1 b2 => h M' b1 (fm3.trans b2))
      · rw [if_pos (by omega)] at h
        exact h M hM (fun _ _ => rfl)
theorem op_k30 {fu : Nat} (hf : 1300 ≤ fu) : op_30 fu JR := by
  rintro M ⟨D, cnt, H, len, T, hW, hC, hM⟩ x
  have hw := hW.1
  have h12 := hw.2.2.2.2.1
  have eqn : ∀ la la' : Nat, la ≤ 5 → la' ≤ 5 → x = nI la → x = nI la' → la' = la := fun la la' a b e e' => by rw [e', nI_eq (by omega) (by omega)] at e; exact e
  unfold f_SR_sweepCost
  refine c_isLook (fun la l1 l5 e => br_f (by decide) ?_) (fun q => br_t rfl ?_)
  · simp only [Nat.reduceAdd]
    rw [e]
    refine c_lsolve hf hW hC l1 l5 (fun M1 G gn gq b1 b2 b3 b4 => ?_)
    unfold f_Cu_toStart
    intro M2 e2 M3 e3
    have k3 : ∀ c, c ≠ 144 → M3 c = M1 c := fun c hc => by rw [e3, up_c hc, e2, up_c hc]
    have f3 : frC M M3 := fun c hc => by rw [k3 c (by omega), b4 c (by omega)]
    refine c_sweepLoop hf hW l1 l5 14 0 fu 0 1 0 M3 (by omega) (by omega) (by omega) b3.2.1.2.2.2.2.1 (Nat.zero_le _) (Or.inr (Nat.zero_le _)) (b1.cur (fun c hc => k3 c (by omega))) (b3.keep (fun a _ _ => k3 a (by omega))) (by rw [k3 123 (by omega)]; exact b2) (by rw [e3, up_k (by omega), e2, up_s]; rfl) (by rw [e3, up_s]; rfl) (fun M4 c1 c2 => ?_)
    have f4 := f3.trans c2
    have hM4 := hM.frC f4
    unfold f_Md_sweepCost
    refine s_inN (a := 1) (b := 5) l1 l5 (by omega) (br_f (by decide) ?_)
    refine m_findLocalCosts hf hw (by omega) l5 hM4.1 (fun M5 t5 g5 => ?_)
    have hM5 := hM4.L g5
    refine m_findError (p := 0) (c := 1) hf hw (Nat.zero_le _) (by omega) hM5.1 (fun M6 a1 a2 a3 => ?_)
    have hM6 : JM M6 D cnt H len T := hM5.cur (fun c _ _ _ => a3 c (by omega)) ⟨a2 3 (by omega), a2 5 (by omega)⟩
    refine m_sweepLoop hf hw l1 l5 14 0 fu 0 1 0 M6 (by omega) (by omega) (by omega) (ok1 hw) (Nat.zero_le _) (Or.inr (Nat.zero_le _)) hM6 (fun p c hp hc => by rw [a3 155 (by omega)]; exact t5 p c hp hc) a1 (fun M7 d1 d2 => ⟨rfl, mkR hW (c1.frM (fun c hc => by rw [d2 c hc, a3 c (by omega), g5.1 c (by omega) (by omega)])) d1⟩)
  · unfold f_Md_sweepCost
    exact s_in (a := 1) (b := 5) (by omega) (by omega) (fun la a b e => absurd ⟨la, a, b, e⟩ q) (fun _ => br_t rfl ⟨rfl, mkR hW hC hM⟩)
