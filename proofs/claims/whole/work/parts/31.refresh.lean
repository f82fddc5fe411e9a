/-! one node of the class's table worked out -/
def AccS (O : Nat → Prop) (wa : Nat → Nat) (L S W : Nat) : Prop := Best2 O L S ∧ W = min (wa L) 1000 ∧ ∀ x, wa x ≠ 0 → O x ∧ x < 1000000
/-- the offer of an edge that costs a to a node with the values y z w -/
def offO (O : Nat → Prop) (a y z : Nat) : Nat → Prop := fun x => (O x ∨ x = a + y) ∨ x = a + z
def offW (wa : Nat → Nat) (a y w : Nat) : Nat → Nat := fun x => wa x + if a + y = x ∧ x < 1000000 then w else 0
theorem best_two {O : Nat → Prop} {L S x : Nat} (h : Best2 O L S) (hx : L < x ∨ 1000000 ≤ x) : Best2 (fun y => O y ∨ y = x) L (if x < S then x else S) := by
  by_cases q : x < S
  · rw [if_pos q]
    exact h.mid (by have := h.2.1; omega) q
  · rw [if_neg q]
    exact h.same (Or.inr (by omega))
theorem acc_skip {O : Nat → Prop} {wa : Nat → Nat} {L S W a y z w : Nat} (h : AccS O wa L S W) (hf : 1000000 ≤ a + y) (hz : y < z ∨ (y = 1000000 ∧ z = 1000000)) : AccS (offO O a y z) (offW wa a y w) L S W := by
  obtain ⟨h1, h2, h3⟩ := h
  have g1 := h1.1
  have g2 := h1.2.1
  refine ⟨(h1.same (x := a + y) (Or.inr (by omega))).same (x := a + z) (Or.inr (by omega)), ?_, fun x hx => ?_⟩
  · unfold offW; rw [if_neg (by omega)]; exact h2
  · unfold offW at hx
    rw [if_neg (by omega)] at hx
    exact ⟨Or.inl (Or.inl (h3 x hx).1), (h3 x hx).2⟩
theorem offW_ok {O : Nat → Prop} {wa : Nat → Nat} {a y z w : Nat} (h3 : ∀ x, wa x ≠ 0 → O x ∧ x < 1000000) : ∀ x, offW wa a y w x ≠ 0 → offO O a y z x ∧ x < 1000000 := fun x hx => by
  unfold offW at hx
  by_cases q : a + y = x ∧ x < 1000000
  · exact ⟨Or.inl (Or.inr q.1.symm), q.2⟩
  · rw [if_neg q] at hx
    exact ⟨Or.inl (Or.inl (h3 x hx).1), (h3 x hx).2⟩
theorem acc_eq {O : Nat → Prop} {wa : Nat → Nat} {L S W a y z w : Nat} (h : AccS O wa L S W) (hf : a + y < 1000000) (hz : y < z) (he : a + y = L) : AccS (offO O a y z) (offW wa a y w) L (if a + z < S then a + z else S) (min (W + w) 1000) := by
  obtain ⟨h1, h2, h3⟩ := h
  refine ⟨best_two (h1.same (x := a + y) (Or.inl he)) (Or.inl (by omega)), ?_, offW_ok h3⟩
  unfold offW; rw [if_pos ⟨he, by omega⟩]; omega
theorem acc_gt {O : Nat → Prop} {wa : Nat → Nat} {L S W a y z w : Nat} (h : AccS O wa L S W) (hf : a + y < 1000000) (hz : y < z) (he : L < a + y) : AccS (offO O a y z) (offW wa a y w) L (if a + z < (if a + y < S then a + y else S) then a + z else (if a + y < S then a + y else S)) W := by
  obtain ⟨h1, h2, h3⟩ := h
  refine ⟨best_two (best_two h1 (Or.inl he)) (Or.inl (by omega)), ?_, offW_ok h3⟩
  unfold offW; rw [if_neg (by omega)]; exact h2
theorem acc_lt {O : Nat → Prop} {wa : Nat → Nat} {L S W a y z w : Nat} (h : AccS O wa L S W) (hf : a + y < 1000000) (hz : y < z) (hw : w ≤ 1000) (he : a + y < L) : AccS (offO O a y z) (offW wa a y w) (a + y) (if a + z < L then a + z else L) w := by
  obtain ⟨h1, h2, h3⟩ := h
  refine ⟨best_two (h1.lt he) (Or.inl (by omega)), ?_, offW_ok h3⟩
  have h0 : wa (a + y) = 0 := Classical.byContradiction fun q => by
    have := h1.2.2.2.2.2.1 _ (h3 _ q).1
    omega
  unfold offW; rw [if_pos ⟨rfl, hf⟩, h0]; omega
theorem ln_T : ∀ t, (t = 105 ∨ t = 123) → kd (t + 1) = 8 ∧ ln (t + 12) = 576 ∧ ln (t + 13) = 96 ∧ ln (t + 14) = 96 ∧ ln (t + 15) = 1248 ∧ ln (t + 16) = 1248 ∧ ln (t + 17) = 1248 := by
  rintro t (rfl | rfl) <;> decide +kernel
def LSW (M : Mm) (t L S W : Nat) : Prop := M t 7 = nI L ∧ M t 8 = nI S ∧ M t 9 = nI W
theorem c_offer_100 {fu : Nat} {post : Mm → Prop} {t a n z S : Nat} {M : Mm} (ht : t = 105 ∨ t = 123) (hn : n < 1248) (h2 : M (t + 16) n = nI z) (hz : z ≤ 1000000) (ha : a ≤ 9) (h8 : M t 8 = nI S) (hS : S ≤ 1000000)
    (h : post (up M t 8 (nI (if a + z < S then a + z else S)))) : f_St_offer_100 fu post t (nI a) (nI n) M := by
  unfold f_St_offer_100
  refine s_at (by rw [(ln_T t ht).2.2.2.2.2.1]; exact hn) (fun M3 e3 => ?_)
  rw [h2, h8, nI_add] at e3
  rw [e3]
  by_cases q : a + z < S
  · rw [if_pos q] at h
    rw [if_pos ((nI_ltI (by omega) (by omega)).2 q)]; exact h
  · rw [if_neg q] at h
    rw [if_neg (fun y => q ((nI_ltI (by omega) (by omega)).1 y))]; exact h
theorem c_offer {fu : Nat} {post : Mm → Prop} {t a n y z w L S W : Nat} {O : Nat → Prop} {wa : Nat → Nat} {M : Mm} (ht : t = 105 ∨ t = 123) (hn : n < 1248) (h1 : M (t + 15) n = nI y) (h2 : M (t + 16) n = nI z) (h3 : M (t + 17) n = nI w) (hy : y ≤ 1000000) (hz : z ≤ 1000000) (hyz : y < z ∨ (y = 1000000 ∧ z = 1000000)) (hw : w ≤ 1000) (ha : a ≤ 9)
    (hA : AccS O wa L S W) (hM : LSW M t L S W) (h : ∀ M' L' S' W', AccS (offO O a y z) (offW wa a y w) L' S' W' → LSW M' t L' S' W' → (∀ c, c ≠ t → M' c = M c) → (∀ k, k < 7 → M' t k = M t k) → post M') : f_St_offer fu post t (nI a) (nI n) M := by
  obtain ⟨l5, l6, l7⟩ := (ln_T t ht).2.2.2.2
  obtain ⟨m7, m8, m9⟩ := hM
  have hL := hA.1.1
  have hS := hA.1.2.1
  have hW : W ≤ 1000 := by have := hA.2.1; omega
  unfold f_St_offer
  refine s_at (by rw [l5]; exact hn) (fun y3 e3 => ?_)
  rw [h1, nI_add] at e3
  rw [e3]
  refine pk_lt (a + y) 1000000 (fun q1 => ?_) (fun q1 => h M L S W (acc_skip hA q1 hyz) ⟨m7, m8, m9⟩ (fun _ _ => rfl) (fun _ _ => rfl))
  have hyz' : y < z := by omega
  refine pk_le L (a + y) (fun q2 => pk_eq (a + y) L (fun q3 => ?_) (fun q3 => ?_) rfl m7) (fun q2 => ?_) m7
  · refine s_at (by rw [l7]; exact hn) (fun M7 e7 => ?_)
    have e9 : (if 1000 < M t 9 + M (t + 17) n then 1000 else M t 9 + M (t + 17) n) = nI (min (W + w) 1000) := by
      rw [m9, h3, nI_add, show (1000 : Int32) = nI 1000 from rfl]
      by_cases q : 1000 < W + w
      · rw [if_pos ((nI_ltI (a := 1000) (by omega) (by omega)).2 q), Nat.min_eq_right (by omega)]
      · rw [if_neg (fun y => q ((nI_ltI (a := 1000) (by omega) (by omega)).1 y)), Nat.min_eq_left (by omega)]
    rw [e9] at e7
    refine c_offer_100 ht hn (by rw [e7, up_c (by omega)]; exact h2) hz ha (by rw [e7, up_k (by omega)]; exact m8) hS ?_
    refine h _ _ _ _ (acc_eq hA q1 hyz' q3) ⟨?_, up_s, ?_⟩ (fun c hc => by rw [up_c hc, e7, up_c hc]) (fun k hk => by rw [up_k (by omega), e7, up_k (by omega)])
    · rw [up_k (by omega), e7, up_k (by omega)]; exact m7
    · rw [up_k (by omega), e7, up_s]
  · intro M4 e4
    have e8 : (if nI (a + y) < M t 8 then nI (a + y) else M t 8) = nI (if a + y < S then a + y else S) := by
      rw [m8]
      by_cases q : a + y < S
      · rw [if_pos ((nI_ltI (by omega) (by omega)).2 q), if_pos q]
      · rw [if_neg (fun y => q ((nI_ltI (by omega) (by omega)).1 y)), if_neg q]
    rw [e8] at e4
    refine c_offer_100 ht hn (by rw [e4, up_c (by omega)]; exact h2) hz ha (by rw [e4, up_s]) (by split <;> omega) ?_
    refine h _ _ _ _ (acc_gt hA q1 hyz' (by omega)) ⟨?_, up_s, ?_⟩ (fun c hc => by rw [up_c hc, e4, up_c hc]) (fun k hk => by rw [up_k (by omega), e4, up_k (by omega)])
    · rw [up_k (by omega), e4, up_k (by omega)]; exact m7
    · rw [up_k (by omega), e4, up_k (by omega)]; exact m9
  · intro M9 e9 M10 e10
    refine s_at (by rw [l7]; exact hn) (fun M13 e13 => ?_)
    have k13 : ∀ c, c ≠ t → M13 c = M c := fun c hc => by rw [e13, up_c hc, e10, up_c hc, e9, up_c hc]
    refine c_offer_100 ht hn (by rw [k13 _ (by omega)]; exact h2) hz ha (S := L) (by rw [e13, up_k (by omega), e10, up_k (by omega), e9, up_s]; exact m7) hL ?_
    refine h _ _ _ _ (acc_lt hA q1 hyz' hw q2) ⟨?_, up_s, ?_⟩ (fun c hc => by rw [up_c hc, k13 c hc]) (fun k hk => by rw [up_k (by omega), e13, up_k (by omega), e10, up_k (by omega), e9, up_k (by omega)])
    · rw [up_k (by omega), e13, up_k (by omega), e10, up_s]
    · rw [up_k (by omega), e13, up_s, e10, up_c (by omega), e9, up_c (by omega)]; exact h3
/-! the offers of a node, as a list of operation and kind -/
def OffK (D : Nat → Nat) (la : Nat) (l s : Nat → Nat) (n : Nat) (e : Nat × Nat) (x : Nat) : Prop := ∃ n' a, eg D la n e.1 e.2 = some (n', a) ∧ (x = a + l n' ∨ x = a + s n')
def OL (D : Nat → Nat) (la : Nat) (l s : Nat → Nat) (n : Nat) (xs : List (Nat × Nat)) (x : Nat) : Prop := (term D la n = true ∧ x = 0) ∨ ∃ e, e ∈ xs ∧ OffK D la l s n e x
def wL (D : Nat → Nat) (la : Nat) (l w : Nat → Nat) (n : Nat) : List (Nat × Nat) → Nat → Nat
  | [], x => wbase D la n x
  | e :: xs, x => wL D la l w n xs x + eterm D la l w n x e.1 e.2
def AccL (D : Nat → Nat) (la : Nat) (l s w : Nat → Nat) (n : Nat) (xs : List (Nat × Nat)) (L S W : Nat) : Prop := AccS (OL D la l s n xs) (wL D la l w n xs) L S W
theorem AccL.no {D : Nat → Nat} {la : Nat} {l s w : Nat → Nat} {n : Nat} {xs : List (Nat × Nat)} {L S W op kd : Nat} (h : AccL D la l s w n xs L S W) (he : eg D la n op kd = none) : AccL D la l s w n ((op, kd) :: xs) L S W := by
  have h1 : OL D la l s n ((op, kd) :: xs) = OL D la l s n xs := by
    funext x
    apply propext
    constructor
    · rintro (q | ⟨e, he2, q⟩)
      · exact Or.inl q
      · rcases List.mem_cons.1 he2 with z | z
        · obtain ⟨n', a, q1, q2⟩ := q
          rw [z] at q1
          rw [show eg D la n (op, kd).1 (op, kd).2 = eg D la n op kd from rfl, he] at q1
          cases q1
        · exact Or.inr ⟨e, z, q⟩
    · rintro (q | ⟨e, he2, q⟩)
      · exact Or.inl q
      · exact Or.inr ⟨e, List.mem_cons_of_mem _ he2, q⟩
  have h2 : wL D la l w n ((op, kd) :: xs) = wL D la l w n xs := by
    funext x
    show wL D la l w n xs x + eterm D la l w n x op kd = _
    unfold eterm
    rw [he]
    rfl
  unfold AccL at *
  rw [h1, h2]
  exact h
theorem AccL.yes {D : Nat → Nat} {la : Nat} {l s w : Nat → Nat} {n : Nat} {xs : List (Nat × Nat)} {L S W op kd n' a : Nat} (he : eg D la n op kd = some (n', a)) (h : AccS (offO (OL D la l s n xs) a (l n') (s n')) (offW (wL D la l w n xs) a (l n') (w n')) L S W) : AccL D la l s w n ((op, kd) :: xs) L S W := by
  have h1 : OL D la l s n ((op, kd) :: xs) = offO (OL D la l s n xs) a (l n') (s n') := by
    funext x
    apply propext
    constructor
    · rintro (q | ⟨e, he2, q⟩)
      · exact Or.inl (Or.inl (Or.inl q))
      · rcases List.mem_cons.1 he2 with z | z
        · obtain ⟨n2, a2, q1, q2⟩ := q
          rw [z] at q1
          rw [show eg D la n (op, kd).1 (op, kd).2 = eg D la n op kd from rfl, he] at q1
          cases q1
          rcases q2 with q2 | q2
          · exact Or.inl (Or.inr q2)
          · exact Or.inr q2
        · exact Or.inl (Or.inl (Or.inr ⟨e, z, q⟩))
    · rintro (((q | ⟨e, he2, q⟩) | q) | q)
      · exact Or.inl q
      · exact Or.inr ⟨e, List.mem_cons_of_mem _ he2, q⟩
      · exact Or.inr ⟨(op, kd), List.mem_cons_self, n', a, he, Or.inl q⟩
      · exact Or.inr ⟨(op, kd), List.mem_cons_self, n', a, he, Or.inr q⟩
  have h2 : wL D la l w n ((op, kd) :: xs) = offW (wL D la l w n xs) a (l n') (w n') := by
    funext x
    show wL D la l w n xs x + eterm D la l w n x op kd = _
    unfold eterm offW
    rw [he]
  unfold AccL
  rw [h1, h2]
  exact h
def xsL : Nat → List (Nat × Nat)
  | 0 => []
  | k + 1 => (3, k) :: (1, k) :: (0, k) :: xsL k
theorem xsL_mem {op kd : Nat} : ∀ m, kd < m → op < 4 → op ≠ 2 → (op, kd) ∈ xsL m
  | 0, h, _, _ => absurd h (by omega)
  | m + 1, h, h4, h2 => by
    unfold xsL
    by_cases z : kd = m
    · subst z
      have : op = 0 ∨ op = 1 ∨ op = 3 := by omega
      rcases this with rfl | rfl | rfl <;> simp
    · have := xsL_mem (op := op) (kd := kd) m (by omega) h4 h2
      exact List.mem_cons_of_mem _ (List.mem_cons_of_mem _ (List.mem_cons_of_mem _ this))
theorem xsL_lt {e : Nat × Nat} : ∀ m, e ∈ xsL m → e.2 < m ∧ e.1 < 4
  | 0, h => by unfold xsL at h; cases h
  | m + 1, h => by
    unfold xsL at h
    rcases List.mem_cons.1 h with z | z
    · rw [z]; exact ⟨by show m < m + 1; omega, by show 3 < 4; omega⟩
    · rcases List.mem_cons.1 z with z | z
      · rw [z]; exact ⟨by show m < m + 1; omega, by show 1 < 4; omega⟩
      · rcases List.mem_cons.1 z with z | z
        · rw [z]; exact ⟨by show m < m + 1; omega, by show 0 < 4; omega⟩
        · have := xsL_lt m z; omega
/-- all offered: what the values then are -/
theorem AccL.all {D : Nat → Nat} {la : Nat} {l s w : Nat → Nat} {n : Nat} {L S W : Nat} (htok : n / 96 < D 56 → D (57 + n / 96) < 6) (h : AccL D la l s w n ((2, D (57 + n / 96)) :: xsL 6) L S W) : Best2 (Off D la l s n) L S ∧ W = min (wsum D la l w n L) 1000 := by
  have n2 : ∀ kd, eg D la n 2 kd ≠ none → n / 96 < D 56 ∧ kd = D (57 + n / 96) := fun kd q => by
    unfold eg at q
    rw [if_neg (by omega), if_neg (by omega), if_pos rfl] at q
    by_cases z : n / 96 < D 56 ∧ kd = D (57 + n / 96)
    · exact z
    · rw [if_neg z] at q; exact absurd rfl q
  have h1 : OL D la l s n ((2, D (57 + n / 96)) :: xsL 6) = Off D la l s n := by
    funext x
    apply propext
    constructor
    · rintro (q | ⟨e, he2, n', a, q1, q2⟩)
      · exact Or.inl q
      · rcases List.mem_cons.1 he2 with z | z
        · rw [z] at q1
          have := n2 (D (57 + n / 96)) (by rw [show eg D la n 2 (D (57 + n / 96)) = some (n', a) from q1]; exact fun q => by cases q)
          exact Or.inr ⟨2, _, n', a, by omega, htok this.1, q1, q2⟩
        · have := xsL_lt 6 z
          exact Or.inr ⟨e.1, e.2, n', a, this.2, this.1, q1, q2⟩
    · rintro (q | ⟨op, kd, n', a, k1, k2, q1, q2⟩)
      · exact Or.inl q
      · by_cases z : op = 2
        · subst z
          have := n2 kd (by rw [q1]; exact fun q => by cases q)
          rw [this.2] at q1
          exact Or.inr ⟨(2, D (57 + n / 96)), List.mem_cons_self, n', a, q1, q2⟩
        · exact Or.inr ⟨(op, kd), List.mem_cons_of_mem _ (xsL_mem 6 k2 k1 z), n', a, q1, q2⟩
  have e2 : ∀ x kd, kd ≠ D (57 + n / 96) → eterm D la l w n x 2 kd = 0 := fun x kd q => by
    unfold eterm
    have : eg D la n 2 kd = none := Classical.byContradiction fun z => q (n2 kd z).2
    rw [this]
  have e3 : ∀ x, sum6 (eterm D la l w n x 2) = eterm D la l w n x 2 (D (57 + n / 96)) := fun x => by
    rcases Nat.lt_or_ge (n / 96) (D 56) with z | z
    · have h6 := htok z
      unfold sum6
      generalize hk : D (57 + n / 96) = k at *
      have : k = 0 ∨ k = 1 ∨ k = 2 ∨ k = 3 ∨ k = 4 ∨ k = 5 := by omega
      rcases this with rfl | rfl | rfl | rfl | rfl | rfl
      · rw [e2 x 1 (by omega), e2 x 2 (by omega), e2 x 3 (by omega), e2 x 4 (by omega), e2 x 5 (by omega)]; omega
      · rw [e2 x 0 (by omega), e2 x 2 (by omega), e2 x 3 (by omega), e2 x 4 (by omega), e2 x 5 (by omega)]; omega
      · rw [e2 x 0 (by omega), e2 x 1 (by omega), e2 x 3 (by omega), e2 x 4 (by omega), e2 x 5 (by omega)]; omega
      · rw [e2 x 0 (by omega), e2 x 1 (by omega), e2 x 2 (by omega), e2 x 4 (by omega), e2 x 5 (by omega)]; omega
      · rw [e2 x 0 (by omega), e2 x 1 (by omega), e2 x 2 (by omega), e2 x 3 (by omega), e2 x 5 (by omega)]; omega
      · rw [e2 x 0 (by omega), e2 x 1 (by omega), e2 x 2 (by omega), e2 x 3 (by omega), e2 x 4 (by omega)]; omega
    · have e0 : ∀ kd, eterm D la l w n x 2 kd = 0 := fun kd => by
        unfold eterm
        have : eg D la n 2 kd = none := Classical.byContradiction fun y => by have := (n2 kd y).1; omega
        rw [this]
      unfold sum6
      rw [e0, e0, e0, e0, e0, e0, e0]
  have h2 : wL D la l w n ((2, D (57 + n / 96)) :: xsL 6) = wsum D la l w n := by
    funext x
    unfold wsum
    rw [e3]
    unfold sum6
    show wL D la l w n (xsL 6) x + eterm D la l w n x 2 (D (57 + n / 96)) = _
    simp only [xsL, wL]
    omega
  unfold AccL at h
  rw [h1, h2] at h
  exact ⟨h.1, h.2.1⟩
