/-! the operations on ranked scripts -/
theorem term0 {D : Nat → Nat} {p c : Nat} (hc : c < 96) : term D 0 (96 * p + c) = (decide (p = D 56) && isF D c) := by
  unfold term
  rw [if_pos rfl, show (96 * p + c) / 96 = p by omega, show (96 * p + c) % 96 = c by omega]
theorem JM.F {M M' : Mm} {D : Nat → Nat} {cnt : Nat} {H : Nat → Nat → Nat} {len : Nat} {T : Nat → Nat} (h : JM M D cnt H len T) (k : frF M M') : JM M' D cnt H len T :=
  h.keep (k.1 146 (by omega) (by omega) (by omega)) (k.1 148 (by omega) (by omega) (by omega)) (k.1 149 (by omega) (by omega) (by omega)) ⟨k.2 3 (by omega) (by omega) (by omega), k.2 5 (by omega) (by omega) (by omega)⟩
theorem m_script_loop {fu : Nat} {post : Int32 → Mm → Prop} {D : Nat → Nat} (hf : 1300 ≤ fu) (hw : wfD D) : ∀ (f kf p c left L : Nat) (X : Nat → Nat × Nat) (M : Mm), f ≤ kf → pot D 0 (96 * p + c) < f → L + pot D 0 (96 * p + c) < 1248 → left < Ws D 0 (96 * p + c) → Ls D 0 (96 * p + c) < 1000000 → left ≤ 7 → okc D c → p ≤ D 56 → SitM M 146 0 D → TC M D → TCw M D (wM D) → M 145 22 = nI left → SCM M L X →
    (∀ M' n' L' X', trc D 0 f (96 * p + c) left L X = (n', L', X') → SCM M' L' X' → frF M M' → post 0 M') → f_Md_findScript_41 fu post kf 145 (nI (96 * p + c)) M := by
  have h12 := hw.2.2.2.2.1
  have v56 : vp_in 56 69 := vp_in_nI (n := 56) (by omega) (by omega)
  have L150 : ln 150 = 1248 := ln_M.2.2.2.2.1
  intro f
  induction f with
  | zero => intro kf p c left L X M h1 h2; omega
  | succ f ih =>
    intro kf p c left L X M h1 h2 h3 h4 h5 h7 hc hp hD hT hW h22 hS h
    obtain ⟨kf, rfl⟩ : ∃ k, kf = k + 1 := ⟨kf - 1, by omega⟩
    have hc96 := (okc_lt hw hc).2
    have hn := okn_of (okc_clo hw) hc hp
    have tm := term0 (D := D) (p := p) hc96
    have goOn : term D 0 (96 * p + c) = false → f_Md_findScript_64 fu post (f_Md_findScript_41 fu post kf) 145 (nI (96 * p + c)) M := fun htm => by
      obtain ⟨op, kd, n', a, left', p1, p2, p3, p4, p5, p6, p7, p8⟩ := pick_ok hw hn htm h4
      obtain ⟨p', c', e1, g1, g2, g3, g4⟩ := eg_G (okc_clo hw) hc hp p3 p4
      have hpot := pot_lt hw hn p3 p4 p5
      unfold f_Md_findScript_64
      refine m_follow hf hw hD hT hW hp hc (by omega) hS h22 h7 p1 p2 p3 p4 (fun M' b1 b2 b3 => ?_)
      rw [e1] at p4 p5 p7 hpot ⊢
      refine ih kf p' c' left' (L + 1) (xput X L (op, kd)) M' (by omega) (by omega) (by omega) p7 (by omega) (by omega) g1 g3 (hD.keep (fun _ _ => by rw [b3.1 146 (by omega) (by omega) (by omega)])) (hT.fr (b3.1 150 (by omega) (by omega) (by omega)) (b3.1 151 (by omega) (by omega) (by omega))) (fun p c hp hc => by rw [b3.1 152 (by omega) (by omega) (by omega)]; exact hW p c hp hc) b2 b1 (fun M2 n2 L2 X2 q1 q2 q3 => h M2 n2 L2 X2 ?_ q2 (b3.trans q3))
      rw [trc, htm, if_neg (by decide), p1]
      show (match eg D 0 (96 * p + c) op kd with | none => _ | some (n', _) => trc D 0 f n' left' (L + 1) (xput X L (op, kd))) = _
      rw [p4]
      exact q1
    rw [f_Md_findScript_41]
    simp only [Nat.reduceAdd]
    rw [ln_M.1, L150, hD.at (by omega), nI_clamp (by omega), (hT p c hp hc).1, show (96 : Int32) = nI 96 from rfl, pk_div (by omega) (by omega) (by omega), show (96 * p + c) / 96 = p by omega]
    refine ⟨v56, pk_lt p (D 56) (fun z => goOn (by rw [tm]; simp [show ¬ p = D 56 by omega])) (fun z => ⟨vp_in_nI (by omega) (by omega), pk_le (Ls D 0 (96 * p + c)) 0 (fun z2 => ?_) (fun z2 => goOn ?_)⟩)⟩
    · have hpe : p = D 56 := by omega
      refine h M (96 * p + c) L X ?_ hS ⟨fun _ _ _ _ => rfl, fun _ _ _ _ => rfl⟩
      rw [trc, if_pos (by subst hpe; exact Ls_end hw hc (by omega))]
    · cases hb : term D 0 (96 * p + c) with
      | false => rfl
      | true => have := Ls_le (PP_term hb); omega
theorem Ws_far {D : Nat → Nat} (hw : wfD D) {la n : Nat} (hn : okn D n) (h : 0 < Ws D la n) : Ls D la n < 1000000 := by
  refine Classical.byContradiction fun z => ?_
  have h1 := Ls_le1 D la n
  rw [Ws_eq hw hn] at h
  have e : ∀ op kd, eterm D la (Ls D la) (Ws D la) n (Ls D la n) op kd = 0 := fun op kd => by
    cases he : eg D la n op kd with
    | none => exact eterm_no he
    | some y => obtain ⟨n', a⟩ := y; rw [eterm_yes he, if_neg (fun q => z q.2)]
  unfold wsum sum6 wbase at h
  rw [if_neg (fun q => by omega)] at h
  simp only [e] at h
  omega
theorem m_findScript {fu : Nat} {post : Int32 → Mm → Prop} {D : Nat → Nat} {cnt : Nat} {H : Nat → Nat → Nat} {len : Nat} {T : Nat → Nat} {x : Int32} {M : Mm} (hf : 1300 ≤ fu) (hw : wfD D) (hM : JM M D cnt H len T)
    (h0 : (¬ ∃ k, k < 8 ∧ x = nI k) → post (-1) M)
    (h1 : ∀ k, k < 8 → x = nI k → Ws D 0 1 ≤ k → ∀ M', JM M' D cnt H len T → frM M M' → post (-2) M')
    (h2 : ∀ k, k < 8 → x = nI k → k < Ws D 0 1 → ∀ M' n L X, trc D 0 1300 1 k 0 (fun _ => (0, 0)) = (n, L, X) → JM M' D cnt H len T → frM M M' → SCM M' L X → post 0 M') : f_Md_findScript fu post 145 x M := by
  have L152 : ln 152 = 1248 := ln_M.2.2.2.2.2.2.1
  unfold f_Md_findScript
  refine s_in (a := 0) (b := 7) (by omega) (by omega) (fun k _ hk e => br_f (by decide) ?_) (fun q => br_t rfl (h0 (fun ⟨k, h, e⟩ => q ⟨k, by omega, by omega, e⟩)))
  refine m_findPaths hf hw hM.1 (fun M3 t1 t2 f3 => ?_)
  have hM3 := hM.tab f3
  have fm3 : frM M M3 := fun c hc => f3.1 c (by omega) (by omega) (by omega) (by omega)
  obtain ⟨e1, e2⟩ := t2 0 1 (Nat.zero_le _) (ok1 hw)
  simp only [Nat.reduceAdd, Nat.reduceMul] at e1 e2 ⊢
  unfold wM at e1 e2
  rw [L152, e1, e]
  refine ⟨vp_in_nI (n := 1) (by omega) (by omega), pk_lt k (min (Ws D 0 1) 1001) (fun z M5 e5 M6 e6 => ?_) (fun z => h1 k (by omega) e (by omega) M3 hM3 fm3)⟩
  have k6 : ∀ c, c ≠ 145 → M6 c = M3 c := fun c hc => by rw [e6, up_c hc, e5, up_c hc]
  have f6 : frF M3 M6 := ⟨fun c a _ _ => k6 c a, fun k _ a b => by rw [e6, up_k b, e5, up_k a]⟩
  have hn := okn_of (okc_clo hw) (ok1 hw) (Nat.zero_le (D 56))
  refine m_script_loop (p := 0) (c := 1) hf hw 1300 fu k 0 (fun _ => (0, 0)) M6 hf (by have := pot_1248 hw (la := 0) hn; omega) (by have := pot_1248 hw (la := 0) hn; omega) (by simp only [Nat.reduceMul, Nat.reduceAdd]; omega) (Ws_far hw hn (by simp only [Nat.reduceMul, Nat.reduceAdd]; omega)) (by omega) (ok1 hw) (Nat.zero_le _) (hM3.F f6).1 (t1.fr (k6 150 (by omega)) (k6 151 (by omega))) (fun p c hp hc => by rw [k6 152 (by omega)]; exact t2 p c hp hc) (by rw [e6, up_s]) ⟨by rw [e6, up_k (by omega), e5, up_s]; rfl, fun i hi => absurd hi (by omega)⟩ (fun M' n L X q1 q2 q3 => h2 k (by omega) e (by omega) M' n L X q1 ((hM3.F f6).F q3) (fun c hc => by rw [q3.1 c (by omega) (by omega) (by omega), k6 c (by omega), fm3 c hc]) q2)
theorem JC.tr {M M' : Mm} {D : Nat → Nat} {cnt : Nat} {H : Nat → Nat → Nat} {len : Nat} {T : Nat → Nat} (h : JC M D cnt H len T) {t : Nat} (ht : t = 105 ∨ t = 123) (k : frTr t M M') : JC M' D cnt H len T := by
  refine h.keep (fun c a b d e => k.1 c (by omega) (Or.inl a)) (by rw [k.1 93 (by omega) (by omega)]) ?_ ?_
  · rcases ht with rfl | rfl
    · exact ⟨k.2 5 (by omega), k.2 6 (by omega)⟩
    · rw [k.1 105 (by omega) (by omega)]; exact ⟨rfl, rfl⟩
  · rcases ht with rfl | rfl
    · rw [k.1 123 (by omega) (by omega)]; exact ⟨rfl, rfl⟩
    · exact ⟨k.2 5 (by omega), k.2 6 (by omega)⟩
theorem c_traceBest {fu : Nat} {post : Int32 → Mm → Prop} {D : Nat → Nat} {cnt : Nat} {H : Nat → Nat → Nat} {len : Nat} {T : Nat → Nat} {x : Int32} {M : Mm} (hf : 1300 ≤ fu) (hW : WF D cnt H len T) (hC : JC M D cnt H len T)
    (h0 : (¬ ∃ k, k < 8 ∧ x = nI k) → post (-1) M)
    (h1 : ∀ k, k < 8 → x = nI k → Ws D 0 1 ≤ k → ∀ M', JC M' D cnt H len T → frC M M' → post (-2) M')
    (h2 : ∀ k, k < 8 → x = nI k → k < Ws D 0 1 → ∀ M' n L X, trc D 0 1300 1 k 0 (fun _ => (0, 0)) = (n, L, X) → L ≤ 1248 → XB L X → JC M' D cnt H len T → frC M M' → SCR M' L X → post 0 M') : f_SR_traceBest fu post 0 x M := by
  have hw := hW.1
  unfold f_SR_traceBest
  refine ⟨fun q => h0 ?_, fun q => ?_⟩
  · rintro ⟨k, hk, rfl⟩
    exact nI_pos (by omega) q
  obtain ⟨k, hk, rfl⟩ := nI_of q
  refine pk_le k 7 (fun z => ?_) (fun z => h0 ?_)
  rotate_left
  · rintro ⟨k', hk', e⟩
    rw [nI_eq hk (by omega)] at e; omega
  refine c_best hf hW hC (fun M1 c1 c2 c3 c4 c5 => ?_)
  obtain ⟨G, gn, gq, hT⟩ := c3.G
  have g1 := hT.2.1.2.2.2.2.1
  have v3 := (hT.2.2 0 1 (Nat.zero_le _) g1).2
  unfold f_St_waysFrom
  simp only [Nat.reduceAdd]
  refine s_at (n := 1) (by rw [(ln_T 105 (Or.inl rfl)).2.2.2.2.2.2]; omega) ?_
  simp only [Nat.reduceAdd, Nat.reduceMul] at v3
  rw [v3]
  refine pk_lt k (min (Ws D 0 1) 1000) (fun z2 => ?_) (fun z2 => h1 k (by omega) rfl (by omega) M1 c1 c4) rfl rfl
  unfold f_Cu_toStart
  intro M2 e2 M3 e3
  have k3 : ∀ c, c ≠ 144 → M3 c = M1 c := fun c hc => by rw [e3, up_c hc, e2, up_c hc]
  have hn := okn_of (okc_clo hw) (ok1 hw) (Nat.zero_le (D 56))
  refine c_trace (p := 0) (c := 1) (la := 0) hf (Or.inl rfl) hw (by omega) (by simp only [Nat.reduceMul, Nat.reduceAdd]; omega) (Ws_far hw hn (by simp only [Nat.reduceMul, Nat.reduceAdd]; omega)) (by omega) g1 (Nat.zero_le _) (hT.keep (fun c _ _ => k3 c (by omega))) (by rw [k3 105 (by omega)]; exact c2) (by rw [e3, up_k (by omega), e2, up_s]; rfl) (by rw [e3, up_s]; rfl) (fun M' p' c' L X q1 q2 q3 q4 q5 q6 q7 q8 q9 q10 q11 => ?_)
  refine h2 k (by omega) rfl (by omega) M' _ L X q1 q5 q6 ((c1.cur (fun c hc => k3 c (by omega))).tr (Or.inl rfl) q11) (fun c hc => by rw [q11.1 c (by omega) (by omega), k3 c (by omega), c4 c hc]) q9
theorem op_k23 {fu : Nat} (hf : 1300 ≤ fu) : op_23 fu JR := by
  rintro M ⟨D, cnt, H, len, T, hW, hC, hM⟩ x
  unfold f_SR_repairLength
  refine c_traceBest hf hW hC (fun q => br_f (by decide) ?_) (fun k hk e z M1 a1 a2 => br_f (by decide) ?_) (fun k hk e z M1 n L X a1 a2 a3 a4 a5 a6 => br_t (by decide) ?_)
  · unfold f_Md_repairLength
    exact m_findScript hf hW.1 hM (fun _ => br_f (by decide) ⟨rfl, mkR hW hC hM⟩) (fun k hk e => absurd ⟨k, hk, e⟩ q) (fun k hk e => absurd ⟨k, hk, e⟩ q)
  · unfold f_Md_repairLength
    refine m_findScript hf hW.1 (hM.frC a2) (fun q => absurd ⟨k, hk, e⟩ q) (fun k' hk' e' z' M2 b1 b2 => br_f (by decide) ⟨rfl, mkR hW (a1.frM b2) b1⟩) (fun k' hk' e' z' => ?_)
    have : k' = k := by rw [e', nI_eq (by omega) (by omega)] at e; exact e
    omega
  · unfold f_Md_repairLength
    refine m_findScript hf hW.1 (hM.frC a5) (fun q => absurd ⟨k, hk, e⟩ q) (fun k' hk' e' z' => ?_) (fun k' hk' e' z' M2 n' L' X' b0 b1 b2 b3 => br_t (by decide) ⟨?_, mkR hW (a4.frM b2) b1⟩)
    · have : k' = k := by rw [e', nI_eq (by omega) (by omega)] at e; exact e
      omega
    · have e1 : k' = k := by rw [e', nI_eq (by omega) (by omega)] at e; exact e
      rw [e1, a1] at b0
      cases b0
      simp only [Nat.reduceAdd]
      rw [a6.1, b3.1]
theorem op_entry {fu : Nat} (hf : 1300 ≤ fu) {M : Mm} {D : Nat → Nat} {cnt : Nat} {H : Nat → Nat → Nat} {len : Nat} {T : Nat → Nat} (hW : WF D cnt H len T) (hC : JC M D cnt H len T) (hM : JM M D cnt H len T) {x1 x2 : Int32} {kx : Int32} (hkx : kx = 0 ∨ kx = 1) {Q : Int32 → Mm → Prop} (hQ : ∀ r M1, f_Md_repairEntry fu (fun r2 M2 => r = r2 ∧ JR M2) 145 x1 x2 kx M1 → Q r M1)
    {P : Int32 → Mm → Prop} (hP1 : ∀ r M1, r = -1 ∨ r = -2 → Q r M1 → P r M1) (hP2 : ∀ i M1 L X, x2 = nI i → i < 2 ^ 31 → L ≤ 1248 → SCR M1 L X → (Q (if i < L then (if kx = 0 then nI (X i).1 else nI (X i).2) else -9) M1) → P 0 M1) : ((0 ≤ x2) → f_SR_traceBest fu P 0 x1 M) ∧ (¬ (0 ≤ x2) → P (-1) M) := by
  refine ⟨fun hx => ?_, fun hx => hP1 _ _ (Or.inl rfl) (hQ _ _ ?_)⟩
  · obtain ⟨i, hi, e2⟩ := nI_of (fun y : x2 < 0 => absurd y (Std.not_lt.2 hx))
    refine c_traceBest hf hW hC (fun q => hP1 _ _ (Or.inl rfl) (hQ _ _ ?_)) (fun k hk e z M1 a1 a2 => hP1 _ _ (Or.inr rfl) (hQ _ _ ?_)) (fun k hk e z M1 n L X a1 a2 a3 a4 a5 a6 => hP2 i M1 L X e2 hi a2 a6 (hQ _ _ ?_))
    · unfold f_Md_repairEntry
      exact s_in (a := 0) (b := 7) (by omega) (by omega) (fun k _ hk e => absurd ⟨k, by omega, e⟩ q) (fun _ => br_t rfl ⟨rfl, mkR hW hC hM⟩)
    · unfold f_Md_repairEntry
      rw [e]
      refine s_inN (a := 0) (b := 7) (by omega) (by omega) (by omega) (br_f (by decide) (br_t hx ?_))
      refine m_findScript hf hW.1 (hM.frC a2) (fun q => absurd ⟨k, hk, rfl⟩ q) (fun k' hk' e' z' M2 b1 b2 => br_f (by decide) ⟨rfl, mkR hW (a1.frM b2) b1⟩) (fun k' hk' e' z' => ?_)
      have : k' = k := by rw [nI_eq (by omega) (by omega)] at e'; exact e'.symm
      omega
    · unfold f_Md_repairEntry
      rw [e]
      refine s_inN (a := 0) (b := 7) (by omega) (by omega) (by omega) (br_f (by decide) (br_t hx ?_))
      refine m_findScript hf hW.1 (hM.frC a5) (fun q => absurd ⟨k, hk, rfl⟩ q) (fun k' hk' e' z' => ?_) (fun k' hk' e' z' M2 n' L' X' b0 b1 b2 b3 => br_t (by decide) ?_)
      · have : k' = k := by rw [nI_eq (by omega) (by omega)] at e'; exact e'.symm
        omega
      · have e1 : k' = k := by rw [nI_eq (by omega) (by omega)] at e'; exact e'.symm
        rw [e1, a1] at b0
        cases b0
        have hJ : JR M2 := mkR hW (a4.frM b2) b1
        unfold f_Md_scriptEntry
        simp only [Nat.reduceAdd]
        rw [b3.1, e2, ln_M.2.2.2.2.2.2.2.1, ln_M.2.2.2.2.2.2.2.2.1]
        refine pk_lt i L (fun z2 => ?_) (fun z2 => ⟨by rw [if_neg (by omega)], hJ⟩)
        rw [if_pos z2, nI_clamp (by omega)]
        obtain ⟨s1, s2⟩ := b3.2 i z2
        rcases hkx with y | y
        · rw [y, s1]
          exact br_t rfl ⟨vp_in_nI (by omega) (by omega), by rw [if_pos rfl], hJ⟩
        · rw [y, s2]
          exact br_f (by decide) ⟨vp_in_nI (by omega) (by omega), by rw [if_neg (by decide)], hJ⟩
  · unfold f_Md_repairEntry
    exact s_in (a := 0) (b := 7) (by omega) (by omega) (fun k _ hk e => br_f (by decide) (br_f hx ⟨rfl, mkR hW hC hM⟩)) (fun _ => br_t rfl ⟨rfl, mkR hW hC hM⟩)
theorem c_opAt {fu : Nat} {post : Int32 → Mm → Prop} {i L : Nat} {X : Nat → Nat × Nat} {M : Mm} (hi : i < 2 ^ 31) (hL : L ≤ 1248) (hS : SCR M L X) (h : post (if i < L then nI (X i).1 else -9) M) : f_Sc_operationAt fu post 141 (nI i) M := by
  unfold f_Sc_operationAt
  simp only [Nat.reduceAdd]
  refine pk_le L i (fun z => ?_) (fun z => ?_) hS.1
  · rw [if_neg (by omega)] at h; exact h
  · rw [if_pos z] at h
    refine s_at (by rw [ln_C.2.1]; omega) ?_
    rw [(hS.2 i z).1]; exact h
theorem c_kdAt {fu : Nat} {post : Int32 → Mm → Prop} {i L : Nat} {X : Nat → Nat × Nat} {M : Mm} (hi : i < 2 ^ 31) (hL : L ≤ 1248) (hS : SCR M L X) (h : post (if i < L then nI (X i).2 else -9) M) : f_Sc_kindAt fu post 141 (nI i) M := by
  unfold f_Sc_kindAt
  simp only [Nat.reduceAdd]
  refine pk_le L i (fun z => ?_) (fun z => ?_) hS.1
  · rw [if_neg (by omega)] at h; exact h
  · rw [if_pos z] at h
    refine s_at (by rw [ln_C.2.2.1]; omega) ?_
    rw [(hS.2 i z).2]; exact h
theorem op_k24 {fu : Nat} (hf : 1300 ≤ fu) : op_24 fu JR := by
  rintro M ⟨D, cnt, H, len, T, hW, hC, hM⟩ x1 x2
  unfold f_SR_repairOperation f_Md_repairOperation
  refine op_entry hf hW hC hM (x1 := x1) (x2 := x2) (kx := 0) (Or.inl rfl) (fun r M1 h => h) (fun r M1 hr h => ?_) (fun i M1 L X e hi hL hS h => ?_)
  · unfold f_SR_repairOperation_13
    exact br_f (by rcases hr with y | y <;> rw [y] <;> decide) h
  · unfold f_SR_repairOperation_13
    rw [if_pos rfl] at h
    refine br_t (by decide) ?_
    subst e
    exact c_opAt hi hL hS h
theorem op_k25 {fu : Nat} (hf : 1300 ≤ fu) : op_25 fu JR := by
  rintro M ⟨D, cnt, H, len, T, hW, hC, hM⟩ x1 x2
  unfold f_SR_repairKind f_Md_repairKind
  refine op_entry hf hW hC hM (x1 := x1) (x2 := x2) (kx := 1) (Or.inr rfl) (fun r M1 h => h) (fun r M1 hr h => ?_) (fun i M1 L X e hi hL hS h => ?_)
  · unfold f_SR_repairKind_13
    exact br_f (by rcases hr with y | y <;> rw [y] <;> decide) h
  · unfold f_SR_repairKind_13
    rw [if_neg (show ¬ (1 : Int32) = 0 by decide)] at h
    refine br_t (by decide) ?_
    subst e
    exact c_kdAt hi hL hS h
