/-! refresh -/
theorem eg_0 {D : Nat → Nat} {la p c k : Nat} (hc : c < 96) : eg D la (96 * p + c) 0 k = if la = 0 ∧ p < D 56 ∧ k = D (57 + p) then (cns D c k).map (fun c' => (96 * (p + 1) + c', 0)) else none := by
  unfold eg
  rw [if_pos rfl, show (96 * p + c) / 96 = p by omega, show (96 * p + c) % 96 = c by omega]
theorem eg_1 {D : Nat → Nat} {la p c k : Nat} (hc : c < 96) : eg D la (96 * p + c) 1 k = if p < D 56 ∧ k ≠ D (57 + p) then (cns D c k).map (fun c' => (96 * (p + 1) + c', D (50 + k))) else none := by
  unfold eg
  rw [if_neg (by omega), if_pos rfl, show (96 * p + c) / 96 = p by omega, show (96 * p + c) % 96 = c by omega]
theorem eg_2 {D : Nat → Nat} {la p c k : Nat} (hc : c < 96) : eg D la (96 * p + c) 2 k = if p < D 56 ∧ k = D (57 + p) then some (96 * (p + 1) + c, D (44 + k)) else none := by
  unfold eg
  rw [if_neg (by omega), if_neg (by omega), if_pos rfl, show (96 * p + c) / 96 = p by omega, show 96 * p + c + 96 = 96 * (p + 1) + c by omega]
theorem eg_3 {D : Nat → Nat} {la p c k : Nat} (hc : c < 96) : eg D la (96 * p + c) 3 k = (cns D c k).map (fun c' => (96 * p + c', D (38 + k))) := by
  unfold eg
  rw [if_neg (by omega), if_neg (by omega), if_neg (by omega), show (96 * p + c) / 96 = p by omega, show (96 * p + c) % 96 = c by omega]
def clo (D : Nat → Nat) (G : Nat → Prop) : Prop := ∀ c, G c → okc D c ∧ c < 96 ∧ ∀ k c', k < 6 → cns D c k = some c' → G c'
theorem Rea.clo {M : Mm} {s : Nat} {D : Nat → Nat} {G : Nat → Prop} {n : Nat} {q : Nat → Nat} (h : Rea M s D G n q) : clo D G := fun c hc => by
  obtain ⟨h1, h2, h3⟩ := h.2.2.2.2.2 c hc
  exact ⟨h1, h2, fun k c' hk e => ((h3 k hk).1 c' e).1⟩
theorem eg_G {D : Nat → Nat} {G : Nat → Prop} {la p c op k n' a : Nat} (hG : clo D G) (hc : G c) (hp : p ≤ D 56) (hk : k < 6) (h : eg D la (96 * p + c) op k = some (n', a)) : ∃ p' c', n' = 96 * p' + c' ∧ G c' ∧ c' < 96 ∧ p' ≤ D 56 ∧ (p' = p ∨ p' = p + 1) := by
  obtain ⟨h1, h2, h3⟩ := hG c hc
  have go : ∀ p' x, p' ≤ D 56 → (p' = p ∨ p' = p + 1) → (cns D c k).map (fun c' => (96 * p' + c', x)) = some (n', a) → ∃ p' c', n' = 96 * p' + c' ∧ G c' ∧ c' < 96 ∧ p' ≤ D 56 ∧ (p' = p ∨ p' = p + 1) := fun p' x hp' hp2 e => by
    rw [Option.map_eq_some_iff] at e
    obtain ⟨c', hc', e⟩ := e
    have g := h3 k c' hk hc'
    cases e
    exact ⟨p', c', rfl, g, (hG c' g).2.1, hp', hp2⟩
  have h4 : op = 0 ∨ op = 1 ∨ op = 2 ∨ 3 ≤ op := by omega
  rcases h4 with rfl | rfl | rfl | h4
  · rw [eg_0 h2] at h
    split at h
    · exact go (p + 1) 0 (by omega) (by omega) h
    · cases h
  · rw [eg_1 h2] at h
    split at h
    · exact go (p + 1) _ (by omega) (by omega) h
    · cases h
  · rw [eg_2 h2] at h
    split at h
    · cases h
      exact ⟨p + 1, c, rfl, hc, h2, by omega, by omega⟩
    · cases h
  · have : eg D la (96 * p + c) op k = eg D la (96 * p + c) 3 k := by
      rw [eg_3 h2]
      unfold eg
      rw [if_neg (by omega), if_neg (by omega), if_neg (by omega), show (96 * p + c) / 96 = p by omega, show (96 * p + c) % 96 = c by omega]
    rw [this, eg_3 h2] at h
    exact go p _ hp (by omega) h
def TV (M : Mm) (t p : Nat) (D l s w : Nat → Nat) : Prop := ∀ n, 96 * p ≤ n → n < 96 * (D 56 + 1) → M (t + 15) n = nI (l n) ∧ M (t + 16) n = nI (s n) ∧ M (t + 17) n = nI (w n)
def LVS (D : Nat → Nat) (la m : Nat) (G : Nat → Prop) (p : Nat) (l s w : Nat → Nat) : Prop := (∀ c, G c → Stg D la 1000 m (96 * p + c) (l (96 * p + c)) (s (96 * p + c)) (w (96 * p + c))) ∧
  (∀ p' c, p < p' → p' ≤ D 56 → G c → Right D la 1000 (96 * p' + c) (l (96 * p' + c)) (s (96 * p' + c)) (w (96 * p' + c))) ∧ ∀ n, w n ≤ 1000
def fr0 (t : Nat) (M M' : Mm) : Prop := (∀ c, c ≠ t → M' c = M c) ∧ ∀ k, k < 7 → M' t k = M t k
theorem fr0.trans {t : Nat} {M M1 M2 : Mm} (h : fr0 t M M1) (h2 : fr0 t M1 M2) : fr0 t M M2 := ⟨fun c hc => (h2.1 c hc).trans (h.1 c hc), fun k hk => (h2.2 k hk).trans (h.2 k hk)⟩
/-- what the work on a level reads -/
def EnvT (M : Mm) (t p : Nat) (D : Nat → Nat) (la : Nat) (G : Nat → Prop) (n : Nat) (q l s w : Nat → Nat) : Prop := SitC M (t + 1) D ∧ M t 6 = nI la ∧ TV M t p D l s w ∧ Rea M (t + 1) D G n q
theorem EnvT.fr0 {M M' : Mm} {t p : Nat} {D : Nat → Nat} {la : Nat} {G : Nat → Prop} {n : Nat} {q l s w : Nat → Nat} (h : EnvT M t p D la G n q l s w) (k : fr0 t M M') : EnvT M' t p D la G n q l s w := by
  obtain ⟨h1, h2, h3, h4⟩ := h
  refine ⟨h1.keep (fun c _ _ => k.1 c (by omega)), by rw [k.2 6 (by omega)]; exact h2, fun n a b => ?_, h4.keep (fun a _ _ => k.1 a (by omega))⟩
  rw [k.1 _ (by omega), k.1 _ (by omega), k.1 _ (by omega)]
  exact h3 n a b
theorem Stg_of {D : Nat → Nat} {la m : Nat} {G : Nat → Prop} {p : Nat} {l s w : Nat → Nat} (h : LVS D la m G p l s w) {p' c' : Nat} (hp : p' = p ∨ p' = p + 1) (hp2 : p' ≤ D 56) (hc : G c') : Stg D la 1000 m (96 * p' + c') (l (96 * p' + c')) (s (96 * p' + c')) (w (96 * p' + c')) := by
  rcases hp with rfl | rfl
  · exact h.1 c' hc
  · exact (h.2.1 _ c' (by omega) hp2 hc).stg m
theorem c_offer2 {fu : Nat} {post : Mm → Prop} {t p c op k n' a la m nn L S W : Nat} {D : Nat → Nat} {G : Nat → Prop} {q l s w : Nat → Nat} {xs : List (Nat × Nat)} {M : Mm} (ht : t = 105 ∨ t = 123) (hw : wfD D) (hG : clo D G) (hE : EnvT M t p D la G nn q l s w) (hV : LVS D la m G p l s w) (hc : G c) (hp : p ≤ D 56) (hk : k < 6)
    (he : eg D la (96 * p + c) op k = some (n', a)) (hA : AccL D la l s w (96 * p + c) xs L S W) (hM : LSW M t L S W)
    (h : ∀ M' L' S' W', AccL D la l s w (96 * p + c) ((op, k) :: xs) L' S' W' → LSW M' t L' S' W' → fr0 t M M' → post M') : f_St_offer fu post t (nI a) (nI n') M := by
  have h12 := hw.2.2.2.2.1
  obtain ⟨p', c', e1, g1, g2, g3, g4⟩ := eg_G hG hc hp hk he
  obtain ⟨v1, v2, v3⟩ := hE.2.2.1 n' (by omega) (by omega)
  have hst := Stg_of hV g4 g3 g1
  rw [← e1] at hst
  have hsn := hst.1
  have ha := (eg_ok hw (n := 96 * p + c) ⟨by rw [show (96 * p + c) / 96 = p by have := (hG c hc).2.1; omega]; exact hp, by rw [show (96 * p + c) % 96 = c by have := (hG c hc).2.1; omega]; exact (hG c hc).1⟩ hk he).2.1
  exact c_offer ht (by omega) v1 v2 v3 hsn.1 hsn.2.1 hsn.2.2.1 (hV.2.2 n') ha hA hM (fun M' L' S' W' b1 b2 b3 b4 => h M' L' S' W' (AccL.yes he b1) b2 ⟨b3, b4⟩)
theorem c_offerCons {fu : Nat} {post : Mm → Prop} {t p c k c' la m nn L S W : Nat} {D : Nat → Nat} {G : Nat → Prop} {q l s w : Nat → Nat} {xs : List (Nat × Nat)} {M : Mm} (ht : t = 105 ∨ t = 123) (hw : wfD D) (hG : clo D G) (hE : EnvT M t p D la G nn q l s w) (hV : LVS D la m G p l s w) (hla : la ≤ 5) (hc : G c) (hp : p ≤ D 56) (hk : k < 6)
    (hq : cns D c k = some c') (hA : AccL D la l s w (96 * p + c) xs L S W) (hM : LSW M t L S W)
    (h : ∀ M' L' S' W', AccL D la l s w (96 * p + c) ((3, k) :: (1, k) :: (0, k) :: xs) L' S' W' → LSW M' t L' S' W' → fr0 t M M' → post M') : f_St_offerConsumption fu post t (nI p) (nI k) (nI c') M := by
  have h12 := hw.2.2.2.2.1
  have hkd := (ln_T t ht).1
  have hc96 := (hG c hc).2.1
  have q0 := eg_0 (D := D) (la := la) (p := p) (k := k) hc96
  have q1 := eg_1 (D := D) (la := la) (p := p) (k := k) hc96
  have q3 := eg_3 (D := D) (la := la) (p := p) (k := k) hc96
  rw [hq] at q0 q1 q3
  -- the insertion, last
  have ins : ∀ M1 L1 S1 W1, AccL D la l s w (96 * p + c) ((1, k) :: (0, k) :: xs) L1 S1 W1 → LSW M1 t L1 S1 W1 → fr0 t M M1 → f_St_offerConsumption_88 fu post t (nI p) (nI k) (nI c') M1 := fun M1 L1 S1 W1 a1 a2 a3 => by
    unfold f_St_offerConsumption_88
    have hE1 := hE.fr0 a3
    refine c_Coof (s := t + 1) (o := 3) hkd (by omega) hk ?_
    rw [hE1.1.costAt (Or.inl ⟨rfl, rfl⟩) hk, show (96 : Int32) = nI 96 from rfl, pk_mul, nI_add, Nat.mul_comm p 96]
    exact c_offer2 ht hw hG hE1 hV hc hp hk q3 a1 a2 (fun M' L' S' W' b1 b2 b3 => h M' L' S' W' b1 b2 (a3.trans b3))
  have rf : fr0 t M M := ⟨fun _ _ => rfl, fun _ _ => rfl⟩
  unfold f_St_offerConsumption
  rcases Nat.lt_or_ge p (D 56) with z | z
  · refine c_kindAt hkd hE.1 h12 z ?_
    intro y3 e3
    rw [nI_1, show (96 : Int32) = nI 96 from rfl, pk_mul] at e3
    have htk := hw.2.2.2.2.2 p (by omega)
    rw [e3]
    refine pk_eq (D (57 + p)) k (fun z2 => ?_) (fun z2 => ?_)
    · rw [if_neg (fun y => y.2 z2.symm)] at q1
      refine pk_eq la 0 (fun z3 => ?_) (fun z3 => ?_) hE.2.1
      · rw [if_pos ⟨z3, z, z2.symm⟩] at q0
        refine c_Coof (s := t + 1) (o := 0) hkd (by omega) hk ?_
        rw [show 6 * 0 + k = k by omega, (hE.1.2.2.2.1 k hk).1, nI_add, Nat.mul_comm (p + 1) 96]
        exact c_offer2 ht hw hG hE hV hc hp hk q0 hA hM (fun M' L' S' W' b1 b2 b3 => ins M' L' S' W' (b1.no q1) b2 b3)
      · rw [if_neg (fun y => z3 y.1)] at q0
        unfold f_St_offerConsumption_57
        exact br_f (nI_pos (by omega)) (br_t (by rw [z2]) (ins M L S W ((hA.no q0).no q1) hM rf))
    · rw [if_neg (fun y => z2 y.2.2.symm)] at q0
      rw [if_pos ⟨z, fun y => z2 y.symm⟩] at q1
      unfold f_St_offerConsumption_57
      refine br_f (nI_pos (by omega)) (br_f (fun y => z2 ((nI_eq (by omega) (by omega)).1 y)) ?_)
      refine c_Coof (s := t + 1) (o := 1) hkd (by omega) hk ?_
      rw [hE.1.costAt (Or.inr (Or.inr ⟨rfl, rfl⟩)) hk, nI_add, Nat.mul_comm (p + 1) 96]
      exact c_offer2 ht hw hG hE hV hc hp hk q1 (hA.no q0) hM (fun M' L' S' W' b1 b2 b3 => ins M' L' S' W' b1 b2 b3)
  · refine c_kindAt_hi hE.1 z (by omega) ?_
    intro y3 e3
    rw [if_neg (fun y => by omega)] at q0
    rw [if_neg (fun y => by omega)] at q1
    refine br_f (fun y => ?_) ?_
    · exact nI_pos (n := k) (by omega) (by rw [show nI k = (-1 : Int32) from y.symm]; decide)
    · unfold f_St_offerConsumption_57
      exact br_t (by decide) (ins M L S W ((hA.no q0).no q1) hM rf)
theorem c_Reafter {fu : Nat} {post : Int32 → Mm → Prop} {t c k n : Nat} {D : Nat → Nat} {G : Nat → Prop} {q : Nat → Nat} {M : Mm} (ht : t = 105 ∨ t = 123) (hR : Rea M (t + 1) D G n q) (hc : G c) (hk : k < 6) (h : post (oI (-1) (cns D c k)) M) : f_Re_after fu post (t + 11) (nI c) (nI k) M := by
  obtain ⟨h1, h2, h3⟩ := hR.2.2.2.2.2 c hc
  unfold f_Re_after
  intro y e
  rw [show (6 : Int32) = nI 6 from rfl, pk_mul, nI_add, Nat.mul_comm] at e
  rw [e, show t + 11 + 1 = t + 12 from rfl, (ln_T t ht).2.1]
  refine br_f (nI_pos (by omega)) (br_f (nI_ge (by omega) (by omega)) ⟨vp_in_nI (by omega) (by omega), ?_⟩)
  rw [nI_clamp (by omega)]
  obtain ⟨a1, a2⟩ := h3 k hk
  cases hq : cns D c k with
  | none =>
    rw [hq] at h
    have := a2 hq
    rw [show t + 1 + 11 = t + 12 from rfl] at this
    rw [this]; exact h
  | some c' =>
    rw [hq] at h
    have := (a1 c' hq).2
    rw [show t + 1 + 11 = t + 12 from rfl] at this
    rw [this]; exact h
theorem c_isEnd_loop {fu : Nat} {post : Int32 → Mm → Prop} {t la n p : Nat} {D : Nat → Nat} {G : Nat → Prop} {q : Nat → Nat} {M : Mm} {stop : Nat} (ht : t = 105 ∨ t = 123) (hw : wfD D) (hS : SitC M (t + 1) D) (h6 : M t 6 = nI la) (hla : la ≤ 5) (hR : Rea M (t + 1) D G n q) (hp : p ≤ D 56) (hst : stop ≤ D 56) : ∀ (kf i c : Nat), stop + 1 ≤ kf + i → i ≤ stop → G c →
    post (if (decide ((runD D (stop - i) i c).1 = stop) && (decide (p + la ≤ D 56) || isF D (runD D (stop - i) i c).2)) = true then 1 else 0) M → f_St_isEnd_61 fu post kf t (nI p) (nI (D 56)) (nI stop) (nI c) (nI i) M := by
  have h12 := hw.2.2.2.2.1
  have hkd := (ln_T t ht).1
  have hG := hR.clo
  intro kf
  induction kf with
  | zero => intro i c h1 h2; omega
  | succ kf ih =>
    intro i c h1 h2 hc h
    rw [f_St_isEnd_61]
    rw [h6, nI_add]
    refine pk_le stop i (fun z => ?_) (fun z => ?_)
    · have e0 : stop - i = 0 := by omega
      rw [e0] at h
      unfold runD at h
      have e1 : i = stop := by omega
      refine pk_le (p + la) (D 56) (fun z2 => ?_) (fun z2 => ?_)
      · simpa [e1, z2] using h
      · refine c_isFinal hkd hS (hG c hc).2.1 ?_
        have : ¬ p + la ≤ D 56 := by omega
        cases hb : isF D c
        · simp [e1, this, hb] at h
          exact br_t rfl h
        · simp [e1, this, hb] at h
          exact br_f (by decide) h
    · refine c_kindAt hkd hS h12 (by omega) ?_
      have hk : D (57 + i) < 6 := hw.2.2.2.2.2 i (by omega)
      refine c_Reafter ht hR hc hk ?_
      obtain ⟨m, hm⟩ : ∃ m, stop - i = m + 1 := ⟨stop - i - 1, by omega⟩
      rw [hm] at h
      unfold runD at h
      cases hq : cns D c (D (57 + i)) with
      | none =>
        rw [hq] at h
        have : ¬ i = stop := by omega
        simp [this] at h
        exact br_f (show ¬ (0 : Int32) ≤ -1 by decide) h
      | some c' =>
        rw [hq] at h
        have gc' := (hG c hc).2.2 _ c' hk hq
        refine br_t (nI_pos' (n := c') (by have := (hG c' gc').2.1; omega)) (fun y ey => ?_)
        rw [ey, nI_1]
        refine ih (i + 1) c' (by omega) (by omega) gc' ?_
        rw [show stop - (i + 1) = m by omega]
        exact h
theorem c_isEnd {fu : Nat} {post : Int32 → Mm → Prop} {t la n p c : Nat} {D : Nat → Nat} {G : Nat → Prop} {q : Nat → Nat} {M : Mm} (hf : 1300 ≤ fu) (ht : t = 105 ∨ t = 123) (hw : wfD D) (hS : SitC M (t + 1) D) (h6 : M t 6 = nI la) (hla : la ≤ 5) (hR : Rea M (t + 1) D G n q) (hp : p ≤ D 56) (hc : G c)
    (h : post (if term D la (96 * p + c) = true then 1 else 0) M) : f_St_isEnd fu post t (nI p) (nI c) M := by
  have h12 := hw.2.2.2.2.1
  have hkd := (ln_T t ht).1
  have hc96 := (hR.clo c hc).2.1
  unfold term at h
  rw [show (96 * p + c) / 96 = p by omega, show (96 * p + c) % 96 = c by omega] at h
  unfold f_St_isEnd
  intro y1 e1
  rw [show M (t + 9) 1 = nI (D 56) from hS.2.2.2.2.1] at e1
  rw [e1, h6, nI_add]
  refine pk_eq la 0 (fun z => ?_) (fun z => ?_)
  · rw [if_pos z] at h
    refine pk_eq p (D 56) (fun z2 => ?_) (fun z2 => ?_)
    · refine c_isFinal hkd hS hc96 ?_
      cases hb : isF D c
      · simp [hb] at h
        exact br_t rfl h
      · simp [hb, z2] at h
        exact br_f (by decide) h
    · simpa [z2] using h
  · rw [if_neg z] at h
    intro y2 e2
    by_cases z2 : p + la ≤ D 56
    · rw [if_pos z2] at h
      have e3 : y2 = nI (p + la) := by
        rw [e2]
        by_cases y : D 56 < p + la
        · omega
        · rw [if_neg (fun x => y ((nI_ltI (by omega) (by omega)).1 x))]
      rw [e3]
      refine c_isEnd_loop ht hw hS h6 hla hR hp z2 fu p c (by omega) (by omega) hc ?_
      rw [show p + la - p = la by omega]
      simpa [z2] using h
    · rw [if_neg z2] at h
      have e3 : y2 = nI (D 56) := by
        rw [e2, if_pos ((nI_ltI (by omega) (by omega)).2 (by omega))]
      rw [e3]
      refine c_isEnd_loop ht hw hS h6 hla hR hp (Nat.le_refl _) fu p c (by omega) (by omega) hc ?_
      simpa [z2] using h
