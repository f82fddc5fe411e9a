/-! refresh, a level, solve -/
def frT (t : Nat) (M M' : Mm) : Prop := (∀ c, c ≠ t → c ≠ t + 15 → c ≠ t + 16 → c ≠ t + 17 → M' c = M c) ∧ ∀ k, k < 7 → M' t k = M t k
theorem frT.trans {t : Nat} {M M1 M2 : Mm} (h : frT t M M1) (h2 : frT t M1 M2) : frT t M M2 := ⟨fun c a b d e => (h2.1 c a b d e).trans (h.1 c a b d e), fun k hk => (h2.2 k hk).trans (h.2 k hk)⟩
theorem fr0.T {t : Nat} {M M1 : Mm} (h : fr0 t M M1) : frT t M M1 := ⟨fun c a _ _ _ => h.1 c a, h.2⟩
theorem AccL_nil {D : Nat → Nat} {la : Nat} {l s w : Nat → Nat} {n : Nat} : AccL D la l s w n [] (if term D la n = true then 0 else 1000000) 1000000 (if term D la n = true then 1 else 0) := by
  unfold AccL
  have hO : OL D la l s n [] = fun x => term D la n = true ∧ x = 0 := by
    funext x
    apply propext
    constructor
    · rintro (q | ⟨e, he, _⟩)
      · exact q
      · cases he
    · exact Or.inl
  have hw : wL D la l w n [] = wbase D la n := rfl
  rw [hO, hw]
  by_cases h : term D la n = true
  · rw [if_pos h, if_pos h]
    refine ⟨⟨by omega, by omega, Or.inl (by omega), fun _ => ⟨h, rfl⟩, fun q => absurd q (by omega), fun x _ => Nat.zero_le _, fun x hx => Or.inl hx.2⟩, ?_, fun x hx => ?_⟩
    · unfold wbase; rw [if_pos ⟨h, rfl⟩]; rfl
    · unfold wbase at hx
      by_cases q : term D la n = true ∧ x = 0
      · exact ⟨q, by omega⟩
      · rw [if_neg q] at hx; exact absurd rfl hx
  · rw [if_neg h, if_neg h]
    refine ⟨Best2.none (fun x hx => h hx.1), ?_, fun x hx => ?_⟩
    · unfold wbase; rw [if_neg (fun q => h q.1)]; rfl
    · unfold wbase at hx; rw [if_neg (fun q => h q.1)] at hx; exact absurd rfl hx
theorem c_store {fu : Nat} {post : Mm → Prop} {t n : Nat} {L S W : Int32} {M : Mm} (ht : t = 105 ∨ t = 123) (hn : n < 1248) (h : post (up (up (up M (t + 15) n L) (t + 16) n S) (t + 17) n W)) : f_St_store fu post t (nI n) L S W M := by
  obtain ⟨l5, l6, l7⟩ := (ln_T t ht).2.2.2.2
  unfold f_St_store
  exact s_put (by rw [l5]; exact hn) (s_put (by rw [l6]; exact hn) (s_put (by rw [l7]; exact hn) h))
theorem EnvT.store {M : Mm} {t p : Nat} {D : Nat → Nat} {la : Nat} {G : Nat → Prop} {n : Nat} {q l s w : Nat → Nat} (h : EnvT M t p D la G n q l s w) (x L S W : Nat) : EnvT (up (up (up M (t + 15) x (nI L)) (t + 16) x (nI S)) (t + 17) x (nI W)) t p D la G n q (dput l x L) (dput s x S) (dput w x W) := by
  obtain ⟨h1, h2, h3, h4⟩ := h
  refine ⟨h1.keep (fun c _ _ => by rw [up_c (by omega), up_c (by omega), up_c (by omega)]), by rw [up_c (by omega), up_c (by omega), up_c (by omega)]; exact h2, fun y a b => ?_, h4.keep (fun c _ _ => by rw [up_c (by omega), up_c (by omega), up_c (by omega)])⟩
  obtain ⟨v1, v2, v3⟩ := h3 y a b
  by_cases z : y = x
  · subst z
    rw [up_c (show t + 15 ≠ t + 17 by omega), up_c (show t + 15 ≠ t + 16 by omega), up_s, up_c (show t + 16 ≠ t + 17 by omega), up_s, up_s, dput_s, dput_s, dput_s]
    exact ⟨rfl, rfl, rfl⟩
  · rw [up_c (show t + 15 ≠ t + 17 by omega), up_c (show t + 15 ≠ t + 16 by omega), up_k z, up_c (show t + 16 ≠ t + 17 by omega), up_k z, up_c (show t + 16 ≠ t + 15 by omega), up_k z, up_c (show t + 17 ≠ t + 16 by omega), up_c (show t + 17 ≠ t + 15 by omega), dput_k z, dput_k z, dput_k z]
    exact ⟨v1, v2, v3⟩
theorem frT_store {M : Mm} {t x : Nat} {L S W : Int32} : frT t M (up (up (up M (t + 15) x L) (t + 16) x S) (t + 17) x W) :=
  ⟨fun c a b d e => by rw [up_c e, up_c d, up_c b], fun k _ => by rw [up_c (by omega), up_c (by omega), up_c (by omega)]⟩
theorem c_refresh_125 {fu : Nat} {post : Int32 → Mm → Prop} {t p c la m nn L S W : Nat} {D : Nat → Nat} {G : Nat → Prop} {q l s w : Nat → Nat} {M : Mm} (ht : t = 105 ∨ t = 123) (hw : wfD D) (hG : clo D G) (hE : EnvT M t p D la G nn q l s w) (hV : LVS D la m G p l s w) (hc : G c) (hp : p ≤ D 56)
    (hM : LSW M t L S W) (hb : L ≤ 1000000 ∧ S ≤ 1000000 ∧ W ≤ 1000)
    (h : ∀ M' b, EnvT M' t p D la G nn q (dput l (96 * p + c) L) (dput s (96 * p + c) S) (dput w (96 * p + c) W) → frT t M M' → ((b = 1 ∧ ¬ (L = l (96 * p + c) ∧ S = s (96 * p + c) ∧ W = w (96 * p + c))) ∨ (b = 0 ∧ L = l (96 * p + c) ∧ S = s (96 * p + c) ∧ W = w (96 * p + c))) → post b M') : f_St_refresh_125 fu post t (nI p) (nI c) M := by
  have h12 := hw.2.2.2.2.1
  have hc96 := (hG c hc).2.1
  obtain ⟨l5, l6, l7⟩ := (ln_T t ht).2.2.2.2
  obtain ⟨v1, v2, v3⟩ := hE.2.2.1 (96 * p + c) (by omega) (by omega)
  obtain ⟨m7, m8, m9⟩ := hM
  have hst := hV.1 c hc
  have hwn := hV.2.2 (96 * p + c)
  have b1 := hst.1.1
  have b2 := hst.1.2.1
  unfold f_St_refresh_125
  intro y1 e1
  rw [show (96 : Int32) = nI 96 from rfl, pk_mul, nI_add, Nat.mul_comm p 96] at e1
  rw [e1]
  have fin0 : ∀ kx : Int32, (kx = 0 ∧ ¬ (L = l (96 * p + c) ∧ S = s (96 * p + c) ∧ W = w (96 * p + c))) ∨ (kx = 1 ∧ L = l (96 * p + c) ∧ S = s (96 * p + c) ∧ W = w (96 * p + c)) → f_St_refresh_186 fu post t (nI (96 * p + c)) kx M := fun kx hk => by
    unfold f_St_refresh_186
    rw [m7, m8, m9]
    refine c_store ht (by omega) ?_
    rcases hk with ⟨hk, h2⟩ | ⟨hk, h2⟩
    · rw [hk]
      exact br_t rfl (h _ _ (hE.store _ _ _ _) frT_store (Or.inl ⟨rfl, h2⟩))
    · rw [hk]
      exact br_f (by decide) (h _ _ (hE.store _ _ _ _) frT_store (Or.inr ⟨rfl, h2⟩))
  refine s_at (by rw [l5]; omega) ?_
  rw [v1, m7]
  refine pk_eq (l (96 * p + c)) L (fun z1 => ?_) (fun z1 => ?_)
  · refine s_at (by rw [l6]; omega) ?_
    rw [v2, m8]
    refine pk_eq (s (96 * p + c)) S (fun z2 => ?_) (fun z2 => ?_)
    · refine s_at (by rw [l7]; omega) ?_
      rw [v3, m9]
      refine pk_eq (w (96 * p + c)) W (fun z3 => ?_) (fun z3 => ?_)
      · exact fin0 1 (Or.inr ⟨rfl, z1.symm, z2.symm, z3.symm⟩)
      · exact fin0 0 (Or.inl ⟨rfl, fun y => z3 y.2.2.symm⟩)
    · exact fin0 0 (Or.inl ⟨rfl, fun y => z2 y.2.1.symm⟩)
  · exact fin0 0 (Or.inl ⟨rfl, fun y => z1 y.1.symm⟩)
theorem c_refresh {fu : Nat} {post : Int32 → Mm → Prop} {t p c la m nn : Nat} {D : Nat → Nat} {G : Nat → Prop} {q l s w : Nat → Nat} {M : Mm} (hf : 1300 ≤ fu) (ht : t = 105 ∨ t = 123) (hw : wfD D) (hla : la ≤ 5) (hE : EnvT M t p D la G nn q l s w) (hV : LVS D la m G p l s w) (hc : G c) (hp : p ≤ D 56)
    (h : ∀ M' L S W b, Best2 (Off D la l s (96 * p + c)) L S → W = min (wsum D la l w (96 * p + c) L) 1000 → EnvT M' t p D la G nn q (dput l (96 * p + c) L) (dput s (96 * p + c) S) (dput w (96 * p + c) W) → frT t M M' → ((b = 1 ∧ ¬ (L = l (96 * p + c) ∧ S = s (96 * p + c) ∧ W = w (96 * p + c))) ∨ (b = 0 ∧ L = l (96 * p + c) ∧ S = s (96 * p + c) ∧ W = w (96 * p + c))) → post b M') : f_St_refresh fu post t (nI p) (nI c) M := by
  have h12 := hw.2.2.2.2.1
  have hG := hE.2.2.2.clo
  have hc96 := (hG c hc).2.1
  have hkd := (ln_T t ht).1
  -- from all offers on
  have last : ∀ M1 L S W, AccL D la l s w (96 * p + c) ((2, D (57 + p)) :: xsL 6) L S W → LSW M1 t L S W → fr0 t M M1 → f_St_refresh_125 fu post t (nI p) (nI c) M1 := fun M1 L S W a1 a2 a3 => by
    have e : (96 * p + c) / 96 = p := by omega
    have a4 := AccL.all (n := 96 * p + c) (by rw [e]; exact fun z => hw.2.2.2.2.2 p (by omega)) (by rw [e]; exact a1)
    refine c_refresh_125 ht hw hG (hE.fr0 a3) hV hc hp a2 ⟨a4.1.1, a4.1.2.1, by have := a4.2; omega⟩ (fun M' b b1 b2 b3 => h M' L S W b a4.1 a4.2 b1 (a3.T.trans b2) b3)
  have kinds : ∀ kf k M1 L S W, 7 ≤ kf + k → k ≤ 6 → AccL D la l s w (96 * p + c) (xsL k) L S W → LSW M1 t L S W → fr0 t M M1 → f_St_refresh_43 fu post kf t (nI p) (nI c) (nI k) M1 := by
    intro kf
    induction kf with
    | zero => intro k M1 L S W h1 h2; omega
    | succ kf ih =>
      intro k M1 L S W h1 h2 a1 a2 a3
      have hE1 := hE.fr0 a3
      rw [f_St_refresh_43]
      refine pk_le 6 k (fun z => ?_) (fun z => ?_)
      · rw [show k = 6 by omega] at a1
        have q2 := eg_2 (D := D) (la := la) (p := p) (k := D (57 + p)) hc96
        rcases Nat.lt_or_ge p (D 56) with z2 | z2
        · rw [if_pos ⟨z2, rfl⟩] at q2
          have htk := hw.2.2.2.2.2 p (by omega)
          refine c_kindAt hkd hE1.1 h12 z2 (br_f (nI_pos (by omega)) ?_)
          refine c_Coof (s := t + 1) (o := 2) hkd (by omega) htk ?_
          rw [hE1.1.costAt (Or.inr (Or.inl ⟨rfl, rfl⟩)) htk, nI_1, show (96 : Int32) = nI 96 from rfl, pk_mul, nI_add, Nat.mul_comm (p + 1) 96]
          exact c_offer2 ht hw hG hE1 hV hc hp htk q2 a1 a2 (fun M' L' S' W' b1 b2 b3 => last M' L' S' W' b1 b2 (a3.trans b3))
        · rw [if_neg (fun y => by omega)] at q2
          exact c_kindAt_hi hE1.1 z2 (by omega) (br_t (by decide) (last M1 L S W (a1.no q2) a2 a3))
      · refine c_Reafter ht hE1.2.2.2 hc z ?_
        have q0 := eg_0 (D := D) (la := la) (p := p) (k := k) hc96
        have q1 := eg_1 (D := D) (la := la) (p := p) (k := k) hc96
        have q3 := eg_3 (D := D) (la := la) (p := p) (k := k) hc96
        cases hq : cns D c k with
        | none =>
          rw [hq] at q0 q1 q3
          refine br_t (show (-1 : Int32) < 0 by decide) (fun y ey => ?_)
          rw [ey, nI_1]
          have e0 : eg D la (96 * p + c) 0 k = none := by rw [q0]; split <;> rfl
          have e1 : eg D la (96 * p + c) 1 k = none := by rw [q1]; split <;> rfl
          exact ih (k + 1) M1 L S W (by omega) (by omega) (((a1.no e0).no e1).no q3) a2 a3
        | some c' =>
          refine br_f (nI_pos (n := c') (by have := cns_lt hw hc96 z hq; omega)) ?_
          refine c_offerCons ht hw hG hE1 hV hla hc hp z hq a1 a2 (fun M' L' S' W' b1 b2 b3 y ey => ?_)
          rw [ey, nI_1]
          exact ih (k + 1) M' L' S' W' (by omega) (by omega) b1 b2 (a3.trans b3)
  unfold f_St_refresh
  refine c_isEnd hf ht hw hE.1 hE.2.1 hla hE.2.2.2 hp hc ?_
  have nl := AccL_nil (D := D) (la := la) (l := l) (s := s) (w := w) (n := 96 * p + c)
  have go : ∀ (x3 : Int32) (x kx1 : Nat), ((x3 = 0 ∧ kx1 = 0) ∨ (x3 = 1 ∧ kx1 = 1)) → AccL D la l s w (96 * p + c) [] x 1000000 kx1 → f_St_refresh_18 fu post t (nI p) (nI c) x3 t (nI x) M := fun x3 x kx1 hx ha => by
    unfold f_St_refresh_18
    intro M1 e1 M2 e2
    have go2 : f_St_refresh_37 fu post t (nI p) (nI c) t (nI kx1) M2 := by
      unfold f_St_refresh_37
      intro M3 e3
      refine kinds fu 0 M3 x 1000000 kx1 (by omega) (by omega) ha ⟨?_, ?_, by rw [e3, up_s]⟩ ⟨fun a hA => by rw [e3, up_c hA, e2, up_c hA, e1, up_c hA], fun k hk => by rw [e3, up_k (by omega), e2, up_k (by omega), e1, up_k (by omega)]⟩
      · rw [e3, up_k (by omega), e2, up_k (by omega), e1, up_s]
      · rw [e3, up_k (by omega), e2, up_s]; rfl
    rcases hx with ⟨h1, h2⟩ | ⟨h1, h2⟩
    · rw [h2] at go2
      exact br_t h1 go2
    · rw [h2] at go2
      exact br_f (by rw [h1]; decide) go2
  by_cases hb : term D la (96 * p + c) = true
  · rw [if_pos hb] at nl ⊢
    rw [if_pos hb] at nl
    exact br_f (by decide) (go 1 0 1 (Or.inr ⟨rfl, rfl⟩) nl)
  · rw [if_neg hb] at nl ⊢
    rw [if_neg hb] at nl
    exact br_t (by rfl) (go 0 1000000 0 (Or.inl ⟨rfl, rfl⟩) nl)
