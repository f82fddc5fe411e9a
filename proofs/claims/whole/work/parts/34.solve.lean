/-! a level settled, the table solved -/
def dI (j : Nat) : Int32 := if j = 0 then -1 else nI (j - 1)
theorem dI_0 : dI 0 = -1 := rfl
theorem dI_s {j : Nat} : dI (j + 1) = nI j := by unfold dI; rw [if_neg (by omega)]; rfl
theorem dI_m {j : Nat} : nI j + (-1) = dI j := by
  cases j with
  | zero => rfl
  | succ j => rw [dI_s]; exact nI_m1 (by omega)
theorem dput_same {f : Nat → Nat} {k v : Nat} (h : v = f k) : dput f k v = f := by
  funext i
  unfold dput
  split
  · rename_i q; rw [q, h]
  · rfl
def FxN (D : Nat → Nat) (la : Nat) (l s w : Nat → Nat) (n : Nat) : Prop := Best2 (Off D la l s n) (l n) (s n) ∧ w n = min (wsum D la l w n (l n)) 1000
theorem hs_of {D : Nat → Nat} {la m : Nat} {G : Nat → Prop} {p c : Nat} {l s w : Nat → Nat} (hG : clo D G) (hV : LVS D la m G p l s w) (hc : G c) (hp : p ≤ D 56) : ∀ op kd n' a, op < 4 → kd < 6 → eg D la (96 * p + c) op kd = some (n', a) → Stg D la 1000 m n' (l n') (s n') (w n') ∧ (n' / 96 ≠ (96 * p + c) / 96 → Right D la 1000 n' (l n') (s n') (w n')) := by
  intro op kd n' a _ hk he
  have hc96 := (hG c hc).2.1
  obtain ⟨p', c', e1, g1, g2, g3, g4⟩ := eg_G hG hc hp hk he
  rw [e1]
  refine ⟨Stg_of hV g4 g3 g1, fun z => ?_⟩
  rcases g4 with rfl | rfl
  · omega
  · exact hV.2.1 _ c' (by omega) g3 g1
theorem okn_of {D : Nat → Nat} {G : Nat → Prop} {p c : Nat} (hG : clo D G) (hc : G c) (hp : p ≤ D 56) : okn D (96 * p + c) := by
  obtain ⟨h1, h2, _⟩ := hG c hc
  exact ⟨by omega, by rw [show (96 * p + c) % 96 = c by omega]; exact h1⟩
theorem fix_LVS {D : Nat → Nat} {la m : Nat} {G : Nat → Prop} {p : Nat} {l s w : Nat → Nat} (hw : wfD D) (hG : clo D G) (hp : p ≤ D 56) (hF : ∀ c, G c → FxN D la l s w (96 * p + c)) (hV : LVS D la m G p l s w) : ∀ k, LVS D la (m + k) G p l s w
  | 0 => hV
  | k + 1 => by
    have ih := fix_LVS hw hG hp hF hV k
    exact ⟨fun c hc => step_all hw (okn_of hG hc hp) (hs_of hG ih hc hp) (hF c hc).1 (hF c hc).2, ih.2⟩
theorem fix_right {D : Nat → Nat} {la m : Nat} {G : Nat → Prop} {p : Nat} {l s w : Nat → Nat} (hw : wfD D) (hG : clo D G) (hp : p ≤ D 56) (hF : ∀ c, G c → FxN D la l s w (96 * p + c)) (hV : LVS D la m G p l s w) : ∀ p' c, p ≤ p' → p' ≤ D 56 → G c → Right D la 1000 (96 * p' + c) (l (96 * p' + c)) (s (96 * p' + c)) (w (96 * p' + c)) := by
  intro p' c h1 h2 hc
  rcases Nat.lt_or_ge p p' with z | z
  · exact hV.2.1 p' c z h2 hc
  · rw [show p' = p by omega]
    exact ((fix_LVS hw hG hp hF hV 192).1 c hc).right (by omega)
theorem c_sweep {fu : Nat} {post : Mm → Prop} {K : Nat → Int32 → Int32 → Int32 → Mm → Prop} {t p la m nn r : Nat} {D : Nat → Nat} {G : Nat → Prop} {q l0 s0 w0 : Nat → Nat} (hf : 1300 ≤ fu) (ht : t = 105 ∨ t = 123) (hw : wfD D) (hla : la ≤ 5) (hp : p ≤ D 56) : ∀ (kf j : Nat) (l s w : Nat → Nat) (b : Int32) (M : Mm), j + 1 ≤ kf → j ≤ nn → EnvT M t p D la G nn q l s w → LVS D la m G p l s w →
    (∀ i, j ≤ i → i < nn → Stg D la 1000 (m + 1) (96 * p + q i) (l (96 * p + q i)) (s (96 * p + q i)) (w (96 * p + q i))) →
    ((b = 0 ∧ l = l0 ∧ s = s0 ∧ w = w0 ∧ ∀ i, j ≤ i → i < nn → FxN D la l0 s0 w0 (96 * p + q i)) ∨ (b = 1 ∧ m < 192)) →
    (∀ M' l' s' w' b', EnvT M' t p D la G nn q l' s' w' → LVS D la (m + 1) G p l' s' w' → frT t M M' → ((b' = 0 ∧ ∀ c, G c → FxN D la l' s' w' (96 * p + c)) ∨ (b' = 1 ∧ m < 192)) → K t (nI p) b' (nI (r + 1)) M') →
    f_St_settleLevel_57 fu post K kf t (nI p) b (nI r) (dI j) M := by
  intro kf
  induction kf with
  | zero => intro j l s w b M h1; omega
  | succ kf ih =>
    intro j l s w b M h1 h2 hE hV hd hb h
    have hR := hE.2.2.2
    have hG := hR.clo
    rw [f_St_settleLevel_57]
    cases j with
    | zero =>
      rw [dI_0]
      refine br_t (by decide) (fun y ey => ?_)
      rw [ey, nI_1]
      have hall : ∀ c, G c → ∃ i, 0 ≤ i ∧ i < nn ∧ q i = c := fun c hc => by
        obtain ⟨i, h1, h2⟩ := hR.2.2.2.1 c hc
        exact ⟨i, by omega, h1, h2⟩
      refine h M l s w b hE ⟨fun c hc => ?_, hV.2⟩ ⟨fun _ _ _ _ _ => rfl, fun _ _ => rfl⟩ ?_
      · obtain ⟨i, i0, h1, h2⟩ := hall c hc
        rw [← h2]; exact hd i i0 h1
      · rcases hb with ⟨b1, b2, b3, b4, b5⟩ | hb
        · refine Or.inl ⟨b1, fun c hc => ?_⟩
          obtain ⟨i, i0, h1, h2⟩ := hall c hc
          rw [b2, b3, b4, ← h2]; exact b5 i i0 h1
        · exact Or.inr hb
    | succ j =>
      rw [dI_s]
      have hn96 := hR.1
      refine br_f (nI_pos (by omega)) ?_
      unfold f_Re_configurationAt
      obtain ⟨q1, q2⟩ := hR.2.2.1 j (by omega)
      rw [show t + 1 + 12 = t + 13 from rfl] at q1
      refine s_at (r := t + 11 + 2) (by rw [show t + 11 + 2 = t + 13 from rfl, (ln_T t ht).2.2.1]; omega) ?_
      rw [show t + 11 + 2 = t + 13 from rfl, q1]
      refine c_refresh hf ht hw hla hE hV q2 hp (fun M1 L S W r5 a1 a2 a3 a4 a5 => ?_)
      have st := step_all hw (okn_of hG q2 hp) (hs_of hG hV q2 hp) a1 a2
      have hW : W ≤ 1000 := by omega
      have upd : ∀ (mm n : Nat) , Stg D la 1000 mm n (l n) (s n) (w n) → mm ≤ m + 1 → Stg D la 1000 mm n (dput l (96 * p + q j) L n) (dput s (96 * p + q j) S n) (dput w (96 * p + q j) W n) := fun mm n hs hm => by
        by_cases z : n = 96 * p + q j
        · rw [z, dput_s, dput_s, dput_s]; exact st.mono hm
        · rw [dput_k z, dput_k z, dput_k z]; exact hs
      have hV1 : LVS D la m G p (dput l (96 * p + q j) L) (dput s (96 * p + q j) S) (dput w (96 * p + q j) W) := by
        refine ⟨fun c hc => upd m _ (hV.1 c hc) (by omega), fun p' c g1 g2 g3 => ?_, fun n => ?_⟩
        · have := (hG c g3).2.1
          have := (hG (q j) q2).2.1
          rw [dput_k (by omega), dput_k (by omega), dput_k (by omega)]
          exact hV.2.1 p' c g1 g2 g3
        · by_cases z : n = 96 * p + q j
          · rw [z, dput_s]; exact hW
          · rw [dput_k z]; exact hV.2.2 n
      have hd1 : ∀ i, j ≤ i → i < nn → Stg D la 1000 (m + 1) (96 * p + q i) (dput l (96 * p + q j) L (96 * p + q i)) (dput s (96 * p + q j) S (96 * p + q i)) (dput w (96 * p + q j) W (96 * p + q i)) := fun i hi hi2 => by
        by_cases z : i = j
        · rw [z, dput_s, dput_s, dput_s]; exact st
        · exact upd (m + 1) _ (hd i (by omega) hi2) (by omega)
      rcases a5 with ⟨a5, a6⟩ | ⟨a5, a6, a7, a8⟩
      · rw [a5]
        refine br_f (by decide) (fun y ey => ?_)
        rw [ey, dI_m]
        refine ih j _ _ _ 1 M1 (by omega) (by omega) a3 hV1 hd1 (Or.inr ⟨rfl, ?_⟩) (fun M' l' s' w' b' c1 c2 c3 c4 => h M' l' s' w' b' c1 c2 (a4.trans c3) c4)
        refine Classical.byContradiction fun z => a6 ?_
        obtain ⟨x1, x2, x3⟩ := st.right (by omega)
        obtain ⟨y1, y2, y3⟩ := (hV.1 _ q2).right (by omega)
        exact ⟨by rw [x1, y1], by rw [x2, y2], by rw [x3, y3]⟩
      · rw [a5]
        refine br_t (by rfl) (fun y ey => ?_)
        rw [ey, dI_m]
        refine ih j _ _ _ b M1 (by omega) (by omega) a3 hV1 hd1 ?_ (fun M' l' s' w' b' c1 c2 c3 c4 => h M' l' s' w' b' c1 c2 (a4.trans c3) c4)
        rcases hb with ⟨b1, b2, b3, b4, b5⟩ | hb
        · refine Or.inl ⟨b1, by rw [dput_same a6]; exact b2, by rw [dput_same a7]; exact b3, by rw [dput_same a8]; exact b4, fun i hi hi2 => ?_⟩
          by_cases z : i = j
          · rw [z, ← b2, ← b3, ← b4]
            rw [a6] at a1 a2
            rw [a7] at a1
            rw [a8] at a2
            exact ⟨a1, a2⟩
          · exact b5 i (by omega) hi2
        · exact Or.inr hb
theorem c_rounds {fu : Nat} {post : Mm → Prop} {t p la nn : Nat} {D : Nat → Nat} {G : Nat → Prop} {q : Nat → Nat} (hf : 1300 ≤ fu) (ht : t = 105 ∨ t = 123) (hw : wfD D) (hla : la ≤ 5) (hp : p ≤ D 56) : ∀ (kf m : Nat) (l s w : Nat → Nat) (b : Int32) (M : Mm), 195 ≤ kf + m → m ≤ 193 → EnvT M t p D la G nn q l s w → LVS D la m G p l s w →
    ((b = 0 ∧ ∀ c, G c → FxN D la l s w (96 * p + c)) ∨ (b = 1 ∧ m ≤ 192)) →
    (∀ M' l' s' w', EnvT M' t p D la G nn q l' s' w' → (∀ p' c, p ≤ p' → p' ≤ D 56 → G c → Right D la 1000 (96 * p' + c) (l' (96 * p' + c)) (s' (96 * p' + c)) (w' (96 * p' + c))) → (∀ n, w' n ≤ 1000) → frT t M M' → post M') →
    f_St_settleLevel_33 fu post kf t (nI p) b (nI m) M := by
  intro kf
  induction kf with
  | zero => intro m l s w b M h1 h2; omega
  | succ kf ih =>
    intro m l s w b M h1 h2 hE hV hb h
    have hR := hE.2.2.2
    rw [f_St_settleLevel_33]
    rcases hb with ⟨b1, b2⟩ | ⟨b1, b2⟩
    · rw [b1]
      exact br_t (by rfl) (h M l s w hE (fix_right hw hR.clo hp b2 hV) hV.2.2 ⟨fun _ _ _ _ _ => rfl, fun _ _ => rfl⟩)
    · rw [b1]
      refine br_f (by decide) (br_f (nI_ge (b := 1000) (by omega) (by omega)) (fun y ey => ?_))
      have e1 : M (t + 11) 3 = nI nn := hR.2.1
      have hnn : 1 ≤ nn := by
        obtain ⟨i, hi, _⟩ := hR.2.2.2.1 1 hR.2.2.2.2.1
        omega
      have hn96 := hR.1
      rw [ey, e1, nI_p1 hnn, show nI (nn - 1) = dI nn from by rw [show nn = (nn - 1) + 1 by omega, dI_s]; rfl]
      refine c_sweep (l0 := l) (s0 := s) (w0 := w) (m := m) hf ht hw hla hp fu nn l s w 0 M (by omega) (Nat.le_refl _) hE hV (fun i a b => by omega) (Or.inl ⟨rfl, rfl, rfl, rfl, fun i a b => by omega⟩) (fun M' l' s' w' b' c1 c2 c3 c4 => ?_)
      refine ih (m + 1) l' s' w' b' M' (by omega) (by omega) c1 c2 ?_ (fun M2 l2 s2 w2 d1 d2 d3 d4 => h M2 l2 s2 w2 d1 d2 d3 (c3.trans d4))
      rcases c4 with c4 | ⟨c4, c5⟩
      · exact Or.inl c4
      · exact Or.inr ⟨c4, by omega⟩
theorem c_levelInit {fu : Nat} {post : Mm → Prop} {t p : Nat} (ht : t = 105 ∨ t = 123) (hp : p ≤ 12) : ∀ (kf i : Nat) (M : Mm), 97 ≤ kf + i → i ≤ 96 →
    (∀ M', (∀ n, 96 * p + i ≤ n → n < 96 * p + 96 → M' (t + 15) n = nI 1000000 ∧ M' (t + 16) n = nI 1000000 ∧ M' (t + 17) n = nI 0) → (∀ n, (n < 96 * p + i ∨ 96 * p + 96 ≤ n) → M' (t + 15) n = M (t + 15) n ∧ M' (t + 16) n = M (t + 16) n ∧ M' (t + 17) n = M (t + 17) n) → frT t M M' → f_St_settleLevel_33 fu post fu t (nI p) 1 (nI 0) M') →
    f_St_settleLevel_2 fu post kf t (nI p) (nI i) M := by
  intro kf
  induction kf with
  | zero => intro i M h1 h2; omega
  | succ kf ih =>
    intro i M h1 h2 h
    rw [f_St_settleLevel_2]
    refine pk_le 96 i (fun z => h M (fun n a b => by omega) (fun n a => ⟨rfl, rfl, rfl⟩) ⟨fun _ _ _ _ _ => rfl, fun _ _ => rfl⟩) (fun z => ?_)
    rw [show (96 : Int32) = nI 96 from rfl, pk_mul, nI_add, Nat.mul_comm p 96]
    refine c_store ht (by omega) (fun y ey => ?_)
    rw [ey, nI_1]
    refine ih (i + 1) _ (by omega) (by omega) (fun M' a1 a2 a3 => h M' (fun n b1 b2 => ?_) (fun n b1 => ?_) (frT_store.trans a3))
    · by_cases z2 : n = 96 * p + i
      · obtain ⟨d1, d2, d3⟩ := a2 n (by omega)
        rw [d1, d2, d3, z2, up_c (show t + 15 ≠ t + 17 by omega), up_c (show t + 15 ≠ t + 16 by omega), up_s, up_c (show t + 16 ≠ t + 17 by omega), up_s, up_s]
        exact ⟨rfl, rfl, rfl⟩
      · exact a1 n (by omega) b2
    · obtain ⟨d1, d2, d3⟩ := a2 n (by omega)
      rw [d1, d2, d3, up_c (show t + 15 ≠ t + 17 by omega), up_c (show t + 15 ≠ t + 16 by omega), up_k (by omega), up_c (show t + 16 ≠ t + 17 by omega), up_k (by omega), up_c (show t + 16 ≠ t + 15 by omega), up_k (by omega), up_c (show t + 17 ≠ t + 16 by omega), up_c (show t + 17 ≠ t + 15 by omega)]
      exact ⟨rfl, rfl, rfl⟩
theorem c_settleLevel {fu : Nat} {post : Mm → Prop} {t p la nn : Nat} {D : Nat → Nat} {G : Nat → Prop} {q l s w : Nat → Nat} {M : Mm} (hf : 1300 ≤ fu) (ht : t = 105 ∨ t = 123) (hw : wfD D) (hla : la ≤ 5) (hp : p ≤ D 56) (hE : EnvT M t (p + 1) D la G nn q l s w)
    (hV : ∀ p' c, p < p' → p' ≤ D 56 → G c → Right D la 1000 (96 * p' + c) (l (96 * p' + c)) (s (96 * p' + c)) (w (96 * p' + c))) (hw1 : ∀ n, w n ≤ 1000)
    (h : ∀ M' l' s' w', EnvT M' t p D la G nn q l' s' w' → (∀ p' c, p ≤ p' → p' ≤ D 56 → G c → Right D la 1000 (96 * p' + c) (l' (96 * p' + c)) (s' (96 * p' + c)) (w' (96 * p' + c))) → (∀ n, w' n ≤ 1000) → frT t M M' → post M') : f_St_settleLevel fu post t (nI p) M := by
  have h12 := hw.2.2.2.2.1
  unfold f_St_settleLevel
  refine c_levelInit ht (by omega) fu 0 M (by omega) (by omega) (fun M1 a1 a2 a3 => ?_)
  obtain ⟨e1, e2, e3, e4⟩ := hE
  have hG := e4.clo
  refine c_rounds (la := la) (G := G) (D := D) (nn := nn) (q := q) hf ht hw hla hp fu 0 (fun n => if n / 96 = p then 1000000 else l n) (fun n => if n / 96 = p then 1000000 else s n) (fun n => if n / 96 = p then 0 else w n) 1 M1 (by omega) (by omega) ⟨e1.keep (fun c _ _ => a3.1 c (by omega) (by omega) (by omega) (by omega)), by rw [a3.2 6 (by omega)]; exact e2, fun n b1 b2 => ?_, e4.keep (fun c _ _ => a3.1 c (by omega) (by omega) (by omega) (by omega))⟩ ⟨fun c hc => ?_, fun p' c g1 g2 g3 => ?_, fun n => ?_⟩ (Or.inr ⟨rfl, by omega⟩) (fun M' l' s' w' b1 b2 b3 b4 => h M' l' s' w' b1 b2 b3 (a3.trans b4))
  · by_cases z : n / 96 = p
    · simp only [if_pos z]
      exact a1 n (by omega) (by omega)
    · simp only [if_neg z]
      obtain ⟨d1, d2, d3⟩ := a2 n (by omega)
      rw [d1, d2, d3]
      exact e3 n (by omega) b2
  · have := (hG c hc).2.1
    have z : (96 * p + c) / 96 = p := by omega
    simp only [if_pos z]
    exact Stg_far _ _ _ _
  · have := (hG c g3).2.1
    have z : ¬ (96 * p' + c) / 96 = p := by omega
    simp only [if_neg z]
    exact hV p' c g1 g2 g3
  · show (if n / 96 = p then 0 else w n) ≤ 1000
    split
    · omega
    · exact hw1 n
theorem c_levels {fu : Nat} {post : Mm → Prop} {t la nn : Nat} {D : Nat → Nat} {G : Nat → Prop} {q : Nat → Nat} (hf : 1300 ≤ fu) (ht : t = 105 ∨ t = 123) (hw : wfD D) (hla : la ≤ 5) : ∀ (kf j : Nat) (l s w : Nat → Nat) (M : Mm), j + 1 ≤ kf → j ≤ D 56 + 1 → EnvT M t j D la G nn q l s w →
    (∀ p' c, j ≤ p' → p' ≤ D 56 → G c → Right D la 1000 (96 * p' + c) (l (96 * p' + c)) (s (96 * p' + c)) (w (96 * p' + c))) → (∀ n, w n ≤ 1000) →
    (∀ M', Tab M' t D la → M' t 5 = 1 → M' t 6 = nI la → (∀ c, (c < t ∨ t + 18 ≤ c) → M' c = M c) → post M') → f_St_solve_54 fu post kf t (dI j) M := by
  intro kf
  induction kf with
  | zero => intro j l s w M h1; omega
  | succ kf ih =>
    intro j l s w M h1 h2 hE hV hw1 h
    have h12 := hw.2.2.2.2.1
    rw [f_St_solve_54]
    cases j with
    | zero =>
      rw [dI_0]
      refine br_t (by decide) (fun M1 e1 => ?_)
      have k1 : ∀ c, c ≠ t → M1 c = M c := fun c hc => by rw [e1, up_c hc]
      obtain ⟨a1, a2, a3, a4⟩ := hE
      refine h M1 ⟨a1.keep (fun c _ _ => k1 c (by omega)), G, nn, q, a4.keep (fun a _ _ => k1 a (by omega)), fun p c hp hc => ?_⟩ (by rw [e1, up_s]) (by rw [e1, up_k (by omega)]; exact a2) (fun c hc => k1 c (by omega))
      have := (a4.clo c hc).2.1
      rw [k1 _ (by omega), k1 _ (by omega), k1 _ (by omega)]
      exact ⟨_, _, _, hV p c (by omega) hp hc, a3 (96 * p + c) (by omega) (by omega)⟩
    | succ j =>
      rw [dI_s]
      refine br_f (nI_pos (by omega)) (c_settleLevel hf ht hw hla (by omega) hE (fun p' c g1 g2 g3 => hV p' c (by omega) g2 g3) hw1 (fun M1 l' s' w' b1 b2 b3 b4 y ey => ?_))
      rw [ey, dI_m]
      exact ih j l' s' w' M1 (by omega) (by omega) b1 b2 b3 (fun M' c1 c2 c3 c4 => h M' c1 c2 c3 (fun c hc => by rw [c4 c hc, b4.1 c (by omega) (by omega) (by omega) (by omega)]))
theorem c_solve_16 {fu : Nat} {post : Mm → Prop} {t la : Nat} {D : Nat → Nat} {M : Mm} (hf : 1300 ≤ fu) (ht : t = 105 ∨ t = 123) (hw : wfD D) (hla : la ≤ 5) (hD : SitC M 1 D)
    (h : ∀ M', Tab M' t D la → M' t 5 = 1 → M' t 6 = nI la → (∀ c, (c < t ∨ t + 18 ≤ c) → M' c = M c) → post M') : f_St_solve_16 fu post t 1 (nI la) M := by
  have h12 := hw.2.2.2.2.1
  have hkd := (ln_T t ht).1
  have hs : t + 1 = 106 ∨ t + 1 = 124 := by omega
  unfold f_St_solve_16
  intro M1 e1
  have k1 : ∀ c, c ≠ t → M1 c = M c := fun c hc => by rw [e1, up_c hc]
  refine s_siCopy hf hkd kd_1 (by omega) h12 (hD.keep (fun c _ _ => k1 c (by omega))) (fun M2 a1 a2 => ?_)
  refine c_explore (s := t + 1) hf hs hw a1 (fun M3 G n q b1 b2 => ?_)
  intro y ey
  have s3 : SitC M3 (t + 1) D := a1.keep (fun c _ _ => b2 c (by omega))
  rw [ey, show M3 (t + 9) 1 = nI (D 56) from s3.2.2.2.2.1, ← dI_s]
  refine c_levels (la := la) (G := G) (nn := n) (q := q) hf ht hw hla fu (D 56 + 1) (fun _ => 0) (fun _ => 0) (fun _ => 0) M3 (by omega) (Nat.le_refl _) ⟨s3, by rw [b2 t (by omega), a2 t (by omega), e1, up_s], fun n a b => by omega, b1⟩ (fun p' c g1 g2 => by omega) (fun _ => Nat.zero_le _) (fun M' c1 c2 c3 c4 => h M' c1 c2 c3 (fun c hc => by rw [c4 c hc, b2 c (by omega), a2 c (by omega), k1 c (by omega)]))
theorem c_solve {fu : Nat} {post : Mm → Prop} {t la : Nat} {D : Nat → Nat} {M : Mm} (hf : 1300 ≤ fu) (ht : t = 105 ∨ t = 123) (hw : wfD D) (hla : la ≤ 5) (hD : SitC M 1 D) (hT : M t 5 = 0 ∨ ∃ la', la' ≤ 5 ∧ M t 6 = nI la' ∧ Tab M t D la')
    (h : ∀ M', Tab M' t D la → M' t 6 = nI la → (∀ c, (c < t ∨ t + 18 ≤ c) → M' c = M c) → post M') : f_St_solve fu post t 1 (nI la) M := by
  have go := c_solve_16 hf ht hw hla hD (fun M' a1 _ a3 a4 => h M' a1 a3 a4)
  unfold f_St_solve
  refine ⟨fun _ => go, fun z => ?_⟩
  rcases hT with hT | ⟨la', l1, l2, l3⟩
  · exact absurd hT z
  · refine pk_eq la' la (fun z2 => ?_) (fun _ => go) l2
    rw [z2] at l2 l3
    exact h M l3 l2 (fun _ _ => rfl)
