/-! what the tables should hold: configurations, edges between nodes (96 * position + configuration), costs of paths -/
def cns (D : Nat → Nat) (c k : Nat) : Option Nat :=
  if D (2 + (6 * (c / 16) + k)) / 100 = 1 then some (16 * (D (2 + (6 * (c / 16) + k)) / 10 % 10) + c % 16)
  else if D (2 + (6 * (c / 16) + k)) / 100 = 2 then (if 7 < c % 16 then none else some (16 * (D (2 + (6 * (c / 16) + k)) / 10 % 10) + 2 * (c % 16) + D (2 + (6 * (c / 16) + k)) % 10))
  else if D (2 + (6 * (c / 16) + k)) / 100 = 3 then (if 1 < c % 16 ∧ c % 16 % 2 = D (2 + (6 * (c / 16) + k)) % 10 then some (16 * (D (2 + (6 * (c / 16) + k)) / 10 % 10) + c % 16 / 2) else none)
  else none
def isF (D : Nat → Nat) (c : Nat) : Bool := decide (c % 16 = 1) && (D 1).testBit (c / 16)
def okc (D : Nat → Nat) (c : Nat) : Prop := c / 16 < D 0 ∧ 0 < c % 16
def okn (D : Nat → Nat) (n : Nat) : Prop := n / 96 ≤ D 56 ∧ okc D (n % 96)
def runD (D : Nat → Nat) : Nat → Nat → Nat → Nat × Nat
  | 0, p, c => (p, c)
  | n + 1, p, c => match cns D c (D (57 + p)) with
    | some c' => runD D n (p + 1) c'
    | none => (p, c)
def term (D : Nat → Nat) (la n : Nat) : Bool :=
  if la = 0 then decide (n / 96 = D 56) && isF D (n % 96)
  else if n / 96 + la ≤ D 56 then decide ((runD D la (n / 96) (n % 96)).1 = n / 96 + la)
  else decide ((runD D (D 56 - n / 96) (n / 96) (n % 96)).1 = D 56) && isF D (runD D (D 56 - n / 96) (n / 96) (n % 96)).2
def eg (D : Nat → Nat) (la n op kd : Nat) : Option (Nat × Nat) :=
  if op = 0 then (if la = 0 ∧ n / 96 < D 56 ∧ kd = D (57 + n / 96) then (cns D (n % 96) kd).map (fun c => (96 * (n / 96 + 1) + c, 0)) else none)
  else if op = 1 then (if n / 96 < D 56 ∧ kd ≠ D (57 + n / 96) then (cns D (n % 96) kd).map (fun c => (96 * (n / 96 + 1) + c, D (50 + kd))) else none)
  else if op = 2 then (if n / 96 < D 56 ∧ kd = D (57 + n / 96) then some (n + 96, D (44 + kd)) else none)
  else (cns D (n % 96) kd).map (fun c => (96 * (n / 96) + c, D (38 + kd)))
theorem rok_un {n r : Nat} (hn : n ≤ 6) (h : rok n r) : (r = 0 ∧ r / 100 = 0) ∨ (1 ≤ r / 100 ∧ r / 100 ≤ 3 ∧ r / 10 % 10 < n ∧ r % 10 ≤ 1) := by
  rcases h with rfl | ⟨ty, tg, sy, h1, h2, h3, h4, rfl⟩
  · left; exact ⟨rfl, rfl⟩
  · right; omega
theorem wf_rule {D : Nat → Nat} (hw : wfD D) {c k : Nat} (hc : c / 16 < D 0) (hk : k < 6) : rok (D 0) (D (2 + (6 * (c / 16) + k))) := hw.2.2.1 _ (by have := hw.1.2; omega)
theorem cns_ok {D : Nat → Nat} (hw : wfD D) {c k c' : Nat} (hc : okc D c) (hk : k < 6) (h : cns D c k = some c') : okc D c' ∧ c' < 96 := by
  have hr := rok_un hw.1.2 (wf_rule hw hc.1 hk)
  have h6 := hw.1.2
  obtain ⟨hc1, hc2⟩ := hc
  unfold cns at h
  unfold okc
  generalize D (2 + (6 * (c / 16) + k)) = r at *
  split at h
  · cases h; omega
  · split at h
    · split at h
      · cases h
      · cases h; omega
    · split at h
      · split at h
        · cases h; omega
        · cases h
      · cases h
theorem eg_ok {D : Nat → Nat} (hw : wfD D) {la n op kd n' a : Nat} (hn : okn D n) (hk : kd < 6) (h : eg D la n op kd = some (n', a)) : okn D n' ∧ a ≤ 9 ∧ ((n' / 96 = n / 96 ∧ 1 ≤ a) ∨ n' / 96 = n / 96 + 1) := by
  obtain ⟨hn1, hn2⟩ := hn
  have hcost := hw.2.2.2.1
  unfold eg at h
  have go : ∀ p x, p ≤ D 56 → (∀ c, cns D (n % 96) kd = some c → (96 * p + c, x) = (n', a) → okn D n' ∧ n' / 96 = p ∧ a = x) := fun p x hp c hc e => by
    obtain ⟨k1, k2⟩ := cns_ok hw hn2 hk hc
    cases e
    refine ⟨⟨by omega, ?_⟩, by omega, rfl⟩
    rw [show (96 * p + c) % 96 = c by omega]
    exact k1
  split at h
  · split at h
    · rename_i q
      rw [Option.map_eq_some_iff] at h
      obtain ⟨c, hc, e⟩ := h
      obtain ⟨g1, g2, g3⟩ := go _ _ (by omega) c hc e
      exact ⟨g1, by omega, Or.inr g2⟩
    · cases h
  · split at h
    · split at h
      · rename_i q
        rw [Option.map_eq_some_iff] at h
        obtain ⟨c, hc, e⟩ := h
        obtain ⟨g1, g2, g3⟩ := go _ _ (by omega) c hc e
        have := hcost (12 + kd) (by omega)
        rw [show 38 + (12 + kd) = 50 + kd by omega] at this
        exact ⟨g1, by omega, Or.inr g2⟩
      · cases h
    · split at h
      · split at h
        · rename_i q
          cases h
          have := hcost (6 + kd) (by omega)
          rw [show 38 + (6 + kd) = 44 + kd by omega] at this
          refine ⟨⟨by omega, ?_⟩, by omega, Or.inr (by omega)⟩
          rw [show (n + 96) % 96 = n % 96 by omega]
          exact hn2
        · cases h
      · rw [Option.map_eq_some_iff] at h
        obtain ⟨c, hc, e⟩ := h
        obtain ⟨g1, g2, g3⟩ := go _ _ (by omega) c hc e
        have := hcost kd (by omega)
        exact ⟨g1, by omega, Or.inl ⟨g2, by omega⟩⟩
def Pt (D : Nat → Nat) (la : Nat) : Nat → Nat → Nat → Prop
  | 0, n, x => term D la n = true ∧ x = 0
  | f + 1, n, x => (term D la n = true ∧ x = 0) ∨ ∃ op kd n' a y, op < 4 ∧ kd < 6 ∧ eg D la n op kd = some (n', a) ∧ Pt D la f n' y ∧ x = a + y
def PP (D : Nat → Nat) (la n x : Nat) : Prop := ∃ f, Pt D la f n x
theorem PP_cases {D : Nat → Nat} {la n x : Nat} (h : PP D la n x) : (term D la n = true ∧ x = 0) ∨ ∃ op kd n' a y, op < 4 ∧ kd < 6 ∧ eg D la n op kd = some (n', a) ∧ PP D la n' y ∧ x = a + y := by
  obtain ⟨f, hf⟩ := h
  cases f with
  | zero => exact Or.inl hf
  | succ f =>
    rcases hf with hf | ⟨op, kd, n', a, y, h1, h2, h3, h4, h5⟩
    · exact Or.inl hf
    · exact Or.inr ⟨op, kd, n', a, y, h1, h2, h3, ⟨f, h4⟩, h5⟩
theorem PP_term {D : Nat → Nat} {la n : Nat} (h : term D la n = true) : PP D la n 0 := ⟨0, h, rfl⟩
theorem PP_edge {D : Nat → Nat} {la n op kd n' a y : Nat} (h1 : op < 4) (h2 : kd < 6) (h3 : eg D la n op kd = some (n', a)) (h4 : PP D la n' y) : PP D la n (a + y) := by
  obtain ⟨f, hf⟩ := h4
  exact ⟨f + 1, Or.inr ⟨op, kd, n', a, y, h1, h2, h3, hf, rfl⟩⟩
noncomputable def leastOf (P : Nat → Prop) : Nat := @dite Nat (∃ x, x < 1000000 ∧ P x) (Classical.propDecidable _) (fun h => Classical.choose (pk_least _ h)) (fun _ => 1000000)
theorem leastOf_spec (P : Nat → Prop) : leastOf P ≤ 1000000 ∧ (leastOf P < 1000000 → P (leastOf P)) ∧ ∀ x, P x → leastOf P ≤ x := by
  unfold leastOf
  rcases Classical.em (∃ x, x < 1000000 ∧ P x) with h | h
  · rw [dif_pos h]
    obtain ⟨⟨h1, h2⟩, h3⟩ := Classical.choose_spec (pk_least _ h)
    refine ⟨by omega, fun _ => h2, fun x hx => ?_⟩
    rcases Nat.lt_or_ge x 1000000 with q | q
    · exact Nat.le_of_not_lt (fun z => h3 x z ⟨q, hx⟩)
    · omega
  · rw [dif_neg h]
    refine ⟨Nat.le_refl _, fun q => absurd q (by omega), fun x hx => ?_⟩
    exact Nat.le_of_not_lt (fun z => h ⟨x, z, hx⟩)
noncomputable def Ls (D : Nat → Nat) (la n : Nat) : Nat := leastOf (PP D la n)
noncomputable def Ss (D : Nat → Nat) (la n : Nat) : Nat := leastOf (fun x => PP D la n x ∧ Ls D la n < x)
theorem Ls_le1 (D : Nat → Nat) (la n : Nat) : Ls D la n ≤ 1000000 := (leastOf_spec _).1
theorem Ls_PP {D : Nat → Nat} {la n : Nat} (h : Ls D la n < 1000000) : PP D la n (Ls D la n) := (leastOf_spec _).2.1 h
theorem Ls_le {D : Nat → Nat} {la n x : Nat} (h : PP D la n x) : Ls D la n ≤ x := (leastOf_spec _).2.2 x h
theorem Ss_le1 (D : Nat → Nat) (la n : Nat) : Ss D la n ≤ 1000000 := (leastOf_spec _).1
theorem Ss_PP {D : Nat → Nat} {la n : Nat} (h : Ss D la n < 1000000) : PP D la n (Ss D la n) ∧ Ls D la n < Ss D la n := (leastOf_spec (fun x => PP D la n x ∧ Ls D la n < x)).2.1 h
theorem Ss_le {D : Nat → Nat} {la n x : Nat} (h : PP D la n x) (hl : Ls D la n < x) : Ss D la n ≤ x := (leastOf_spec (fun x => PP D la n x ∧ Ls D la n < x)).2.2 x ⟨h, hl⟩
theorem Ls_Ss (D : Nat → Nat) (la n : Nat) : Ls D la n < Ss D la n ∨ (Ls D la n = 1000000 ∧ Ss D la n = 1000000) := by
  have h1 := Ls_le1 D la n
  have h2 := Ss_le1 D la n
  rcases Nat.lt_or_ge (Ss D la n) 1000000 with q | q
  · exact Or.inl (Ss_PP q).2
  · omega
/-- the least and the second of the values that are offered -/
def Best2 (O : Nat → Prop) (L S : Nat) : Prop := L ≤ 1000000 ∧ S ≤ 1000000 ∧ (L < S ∨ (L = 1000000 ∧ S = 1000000)) ∧ (L < 1000000 → O L) ∧ (S < 1000000 → O S) ∧ (∀ x, O x → L ≤ x) ∧ ∀ x, O x → x = L ∨ S ≤ x
theorem Best2.congr {O O' : Nat → Prop} {L S : Nat} (h : Best2 O L S) (hO : ∀ x, O x ↔ O' x) : Best2 O' L S := by
  rw [show O' = O from funext fun x => (propext (hO x)).symm]; exact h
theorem Best2.none {O : Nat → Prop} (h : ∀ x, ¬ O x) : Best2 O 1000000 1000000 := ⟨by omega, by omega, Or.inr ⟨rfl, rfl⟩, fun q => absurd q (by omega), fun q => absurd q (by omega), fun x q => absurd q (h x), fun x q => absurd q (h x)⟩
theorem Best2.lt {O : Nat → Prop} {L S x : Nat} (h : Best2 O L S) (hx : x < L) : Best2 (fun y => O y ∨ y = x) x L := by
  obtain ⟨h1, h2, h3, h4, h5, h6, h7⟩ := h
  refine ⟨by omega, h1, Or.inl hx, fun _ => Or.inr rfl, fun q => Or.inl (h4 q), fun y hy => ?_, fun y hy => ?_⟩
  · rcases hy with hy | hy
    · have := h6 y hy; omega
    · omega
  · rcases hy with hy | hy
    · exact Or.inr (h6 y hy)
    · exact Or.inl hy
theorem Best2.mid {O : Nat → Prop} {L S x : Nat} (h : Best2 O L S) (hx : L < x) (hs : x < S) : Best2 (fun y => O y ∨ y = x) L x := by
  obtain ⟨h1, h2, h3, h4, h5, h6, h7⟩ := h
  refine ⟨by omega, by omega, Or.inl hx, fun q => Or.inl (h4 q), fun _ => Or.inr rfl, fun y hy => ?_, fun y hy => ?_⟩
  · rcases hy with hy | hy
    · exact h6 y hy
    · omega
  · rcases hy with hy | hy
    · have := h7 y hy; omega
    · exact Or.inr (by omega)
theorem Best2.same {O : Nat → Prop} {L S x : Nat} (h : Best2 O L S) (hx : x = L ∨ S ≤ x) : Best2 (fun y => O y ∨ y = x) L S := by
  obtain ⟨h1, h2, h3, h4, h5, h6, h7⟩ := h
  refine ⟨by omega, by omega, h3, fun q => Or.inl (h4 q), fun q => Or.inl (h5 q), fun y hy => ?_, fun y hy => ?_⟩
  · rcases hy with hy | hy
    · exact h6 y hy
    · omega
  · rcases hy with hy | hy
    · exact h7 y hy
    · omega
def Off (D : Nat → Nat) (la : Nat) (l s : Nat → Nat) (n x : Nat) : Prop := (term D la n = true ∧ x = 0) ∨ ∃ op kd n' a, op < 4 ∧ kd < 6 ∧ eg D la n op kd = some (n', a) ∧ (x = a + l n' ∨ x = a + s n')
/-- values that are costs of paths -/
def SndV (D : Nat → Nat) (la n L S : Nat) : Prop := L ≤ 1000000 ∧ S ≤ 1000000 ∧ (L < S ∨ (L = 1000000 ∧ S = 1000000)) ∧ (L < 1000000 → PP D la n L) ∧ (S < 1000000 → PP D la n S)
theorem SndV.L {D : Nat → Nat} {la n L S : Nat} (h : SndV D la n L S) : Ls D la n ≤ L := by
  obtain ⟨h1, h2, h3, h4, h5⟩ := h
  rcases Nat.lt_or_ge L 1000000 with q | q
  · exact Ls_le (h4 q)
  · have := Ls_le1 D la n; omega
theorem SndV.S {D : Nat → Nat} {la n L S : Nat} (h : SndV D la n L S) : Ss D la n ≤ S := by
  have hl := h.L
  obtain ⟨h1, h2, h3, h4, h5⟩ := h
  rcases Nat.lt_or_ge S 1000000 with q | q
  · exact Ss_le (h5 q) (by omega)
  · have := Ss_le1 D la n; omega
theorem SndV_far (D : Nat → Nat) (la n : Nat) : SndV D la n 1000000 1000000 := ⟨by omega, by omega, Or.inr ⟨rfl, rfl⟩, fun q => absurd q (by omega), fun q => absurd q (by omega)⟩
theorem SndV_true (D : Nat → Nat) (la n : Nat) : SndV D la n (Ls D la n) (Ss D la n) := ⟨Ls_le1 _ _ _, Ss_le1 _ _ _, Ls_Ss _ _ _, fun q => Ls_PP q, fun q => (Ss_PP q).1⟩
theorem off_sound {D : Nat → Nat} {la n L S : Nat} {l s : Nat → Nat} (hs : ∀ op kd n' a, op < 4 → kd < 6 → eg D la n op kd = some (n', a) → SndV D la n' (l n') (s n')) (h : Best2 (Off D la l s n) L S) : SndV D la n L S := by
  obtain ⟨h1, h2, h3, h4, h5, h6, h7⟩ := h
  have go : ∀ x, x < 1000000 → Off D la l s n x → PP D la n x := by
    rintro x hx (⟨q, rfl⟩ | ⟨op, kd, n', a, k1, k2, k3, rfl | rfl⟩)
    · exact PP_term q
    · exact PP_edge k1 k2 k3 ((hs op kd n' a k1 k2 k3).2.2.2.1 (by omega))
    · exact PP_edge k1 k2 k3 ((hs op kd n' a k1 k2 k3).2.2.2.2 (by omega))
  exact ⟨h1, h2, h3, fun q => go _ q (h4 q), fun q => go _ q (h5 q)⟩
theorem off_L {D : Nat → Nat} {la n L S : Nat} {l s : Nat → Nat} (hs : ∀ op kd n' a, op < 4 → kd < 6 → eg D la n op kd = some (n', a) → SndV D la n' (l n') (s n'))
    (hr : ∀ op kd n' a, op < 4 → kd < 6 → eg D la n op kd = some (n', a) → a + Ls D la n' = Ls D la n → Ls D la n < 1000000 → l n' = Ls D la n') (h : Best2 (Off D la l s n) L S) : L = Ls D la n := by
  have hl := (off_sound hs h).L
  obtain ⟨h1, h2, h3, h4, h5, h6, h7⟩ := h
  rcases Nat.lt_or_ge (Ls D la n) 1000000 with q | q
  · rcases PP_cases (Ls_PP q) with ⟨k1, k2⟩ | ⟨op, kd, n', a, y, k1, k2, k3, k4, k5⟩
    · have := h6 0 (Or.inl ⟨k1, rfl⟩); omega
    · have e1 := Ls_le k4
      have q2 : Ls D la n' < 1000000 := by omega
      have e2 := Ls_le (PP_edge k1 k2 k3 (Ls_PP q2))
      have e3 := hr op kd n' a k1 k2 k3 (by omega) q
      have := h6 (a + l n') (Or.inr ⟨op, kd, n', a, k1, k2, k3, Or.inl rfl⟩)
      omega
  · omega
theorem off_S {D : Nat → Nat} {la n L S : Nat} {l s : Nat → Nat} (hs : ∀ op kd n' a, op < 4 → kd < 6 → eg D la n op kd = some (n', a) → SndV D la n' (l n') (s n'))
    (hl : ∀ op kd n' a, op < 4 → kd < 6 → eg D la n op kd = some (n', a) → l n' = Ls D la n')
    (hr : ∀ op kd n' a, op < 4 → kd < 6 → eg D la n op kd = some (n', a) → a + Ss D la n' = Ss D la n → Ss D la n < 1000000 → s n' = Ss D la n') (h : Best2 (Off D la l s n) L S) : S = Ss D la n := by
  have hL := off_L hs (fun op kd n' a k1 k2 k3 _ _ => hl op kd n' a k1 k2 k3) h
  have hS := (off_sound hs h).S
  obtain ⟨h1, h2, h3, h4, h5, h6, h7⟩ := h
  rcases Nat.lt_or_ge (Ss D la n) 1000000 with q | q
  · obtain ⟨g1, g2⟩ := Ss_PP q
    rcases PP_cases g1 with ⟨k1, k2⟩ | ⟨op, kd, n', a, y, k1, k2, k3, k4, k5⟩
    · omega
    · have e1 := Ls_le k4
      rcases Nat.lt_or_ge (Ls D la n') y with z | z
      · have e2 := Ss_le k4 z
        have q2 : Ss D la n' < 1000000 := by omega
        obtain ⟨g3, g4⟩ := Ss_PP q2
        have e4 := PP_edge k1 k2 k3 g3
        have e5 := Ls_le (PP_edge k1 k2 k3 (Ls_PP (show Ls D la n' < 1000000 by omega)))
        have e6 := Ss_le e4 (by omega)
        have e7 := hr op kd n' a k1 k2 k3 (by omega) q
        have := h7 (a + s n') (Or.inr ⟨op, kd, n', a, k1, k2, k3, Or.inr rfl⟩)
        omega
      · have := h7 (a + l n') (Or.inr ⟨op, kd, n', a, k1, k2, k3, Or.inl rfl⟩)
        rw [hl op kd n' a k1 k2 k3] at this
        omega
  · omega
/-! ranks within a level -/
def rkN (f : Nat → Nat) (x : Nat) : Nat → Nat
  | 0 => 0
  | n + 1 => rkN f x n + (if f n < x then 1 else 0)
theorem rkN_le (f : Nat → Nat) (x : Nat) : ∀ n, rkN f x n ≤ n
  | 0 => Nat.le_refl _
  | n + 1 => by have := rkN_le f x n; unfold rkN; split <;> omega
theorem rkN_mono (f : Nat → Nat) {x y : Nat} (h : x ≤ y) : ∀ n, rkN f x n ≤ rkN f y n
  | 0 => Nat.le_refl _
  | n + 1 => by have := rkN_mono f h n; unfold rkN; split <;> split <;> omega
theorem rkN_lt (f : Nat → Nat) {x y i : Nat} (h : x < y) (hi : f i = x) : ∀ n, i < n → rkN f x n < rkN f y n
  | 0, q => absurd q (by omega)
  | n + 1, q => by
    unfold rkN
    by_cases z : i = n
    · subst z
      have := rkN_mono f (Nat.le_of_lt h) i
      rw [hi, if_neg (by omega), if_pos h]
      omega
    · have := rkN_lt f h hi n (by omega)
      split <;> split <;> omega
theorem rkN_top (f : Nat → Nat) {x i : Nat} (hi : f i = x) : ∀ n, i < n → rkN f x n < n
  | 0, q => absurd q (by omega)
  | n + 1, q => by
    unfold rkN
    by_cases z : i = n
    · subst z
      have := rkN_le f x i
      rw [hi, if_neg (by omega)]
      omega
    · have := rkN_top f hi n (by omega)
      split <;> omega
noncomputable def r1 (D : Nat → Nat) (la n : Nat) : Nat := rkN (fun c => Ls D la (96 * (n / 96) + c)) (Ls D la n) 96
noncomputable def r2 (D : Nat → Nat) (la n : Nat) : Nat := rkN (fun c => Ss D la (96 * (n / 96) + c)) (Ss D la n) 96
theorem r1_lt96 (D : Nat → Nat) (la n : Nat) : r1 D la n < 96 := rkN_top _ (i := n % 96) (by show Ls D la _ = _; rw [show 96 * (n / 96) + n % 96 = n by omega]) 96 (by omega)
theorem r2_lt96 (D : Nat → Nat) (la n : Nat) : r2 D la n < 96 := rkN_top _ (i := n % 96) (by show Ss D la _ = _; rw [show 96 * (n / 96) + n % 96 = n by omega]) 96 (by omega)
theorem r1_lt {D : Nat → Nat} {la n m : Nat} (he : n / 96 = m / 96) (h : Ls D la n < Ls D la m) : r1 D la n < r1 D la m := by
  unfold r1
  rw [he]
  exact rkN_lt _ h (i := n % 96) (by show Ls D la _ = _; rw [← he, show 96 * (n / 96) + n % 96 = n by omega]) 96 (by omega)
theorem r2_lt {D : Nat → Nat} {la n m : Nat} (he : n / 96 = m / 96) (h : Ss D la n < Ss D la m) : r2 D la n < r2 D la m := by
  unfold r2
  rw [he]
  exact rkN_lt _ h (i := n % 96) (by show Ss D la _ = _; rw [← he, show 96 * (n / 96) + n % 96 = n by omega]) 96 (by omega)
/-! the ways -/
def sum6 (f : Nat → Nat) : Nat := f 0 + f 1 + f 2 + f 3 + f 4 + f 5
def eterm (D : Nat → Nat) (la : Nat) (l w : Nat → Nat) (n x op kd : Nat) : Nat := match eg D la n op kd with
  | some (n', a) => if a + l n' = x ∧ x < 1000000 then w n' else 0
  | none => 0
def wbase (D : Nat → Nat) (la : Nat) (n x : Nat) : Nat := if term D la n = true ∧ x = 0 then 1 else 0
def wsum (D : Nat → Nat) (la : Nat) (l w : Nat → Nat) (n x : Nat) : Nat := wbase D la n x + sum6 (eterm D la l w n x 0) + sum6 (eterm D la l w n x 1) + sum6 (eterm D la l w n x 2) + sum6 (eterm D la l w n x 3)
noncomputable def Wf (D : Nat → Nat) (la : Nat) : Nat → Nat → Nat
  | 0, _ => 0
  | f + 1, n => wsum D la (Ls D la) (fun n' => Wf D la f n') n (Ls D la n)
noncomputable def pot (D : Nat → Nat) (la n : Nat) : Nat := (D 56 - n / 96) * 96 + r1 D la n
theorem pot_lt {D : Nat → Nat} (hw : wfD D) {la n op kd n' a : Nat} (hn : okn D n) (hk : kd < 6) (h : eg D la n op kd = some (n', a)) (ht : a + Ls D la n' = Ls D la n) : pot D la n' < pot D la n := by
  obtain ⟨h1, h2, h3⟩ := eg_ok hw hn hk h
  unfold pot
  have a1 := r1_lt96 D la n'
  have b1 := h1.1
  rcases h3 with ⟨e1, e2⟩ | e1
  · have := r1_lt (D := D) (la := la) e1 (by omega)
    rw [e1]; omega
  · rw [e1] at b1 ⊢
    omega
/-- equal as far as a bound counts -/
def eqc (cap a b : Nat) : Prop := min a cap = min b cap
theorem eqc.add {cap a b c d : Nat} (h : eqc cap a b) (h2 : eqc cap c d) : eqc cap (a + c) (b + d) := by unfold eqc at *; omega
theorem eqc_min (cap a : Nat) : eqc cap (min a cap) a := by unfold eqc; omega
theorem sum6_eqc {cap : Nat} {f g : Nat → Nat} (h : ∀ k, k < 6 → eqc cap (f k) (g k)) : eqc cap (sum6 f) (sum6 g) :=
  (((((h 0 (by omega)).add (h 1 (by omega))).add (h 2 (by omega))).add (h 3 (by omega))).add (h 4 (by omega))).add (h 5 (by omega))
theorem eterm_eqc {D : Nat → Nat} {la n x op kd cap : Nat} {l l' w w' : Nat → Nat} (h : ∀ n' a, eg D la n op kd = some (n', a) → l n' = l' n' ∧ (a + l n' = x → x < 1000000 → eqc cap (w n') (w' n'))) : eqc cap (eterm D la l w n x op kd) (eterm D la l' w' n x op kd) := by
  unfold eterm
  generalize he : eg D la n op kd = e at *
  cases e with
  | none => rfl
  | some y =>
    obtain ⟨n', a⟩ := y
    obtain ⟨h1, h2⟩ := h n' a rfl
    show eqc cap (if a + l n' = x ∧ x < 1000000 then w n' else 0) (if a + l' n' = x ∧ x < 1000000 then w' n' else 0)
    rw [← h1]
    split
    · rename_i q
      exact h2 q.1 q.2
    · rfl
theorem wsum_eqc {D : Nat → Nat} {la n x cap : Nat} {l l' w w' : Nat → Nat} (h : ∀ op kd n' a, op < 4 → kd < 6 → eg D la n op kd = some (n', a) → l n' = l' n' ∧ (a + l n' = x → x < 1000000 → eqc cap (w n') (w' n'))) : eqc cap (wsum D la l w n x) (wsum D la l' w' n x) :=
  ((((show eqc cap (wbase D la n x) (wbase D la n x) from rfl).add (sum6_eqc (fun k hk => eterm_eqc (h 0 k · · (by omega) hk)))).add (sum6_eqc (fun k hk => eterm_eqc (h 1 k · · (by omega) hk)))).add (sum6_eqc (fun k hk => eterm_eqc (h 2 k · · (by omega) hk)))).add (sum6_eqc (fun k hk => eterm_eqc (h 3 k · · (by omega) hk)))
theorem eterm_congr {D : Nat → Nat} {la n x op kd : Nat} {l w w' : Nat → Nat} (h : ∀ n' a, eg D la n op kd = some (n', a) → a + l n' = x → x < 1000000 → w n' = w' n') : eterm D la l w n x op kd = eterm D la l w' n x op kd := by
  unfold eterm
  generalize he : eg D la n op kd = e at *
  cases e with
  | none => rfl
  | some y =>
    obtain ⟨n', a⟩ := y
    show (if a + l n' = x ∧ x < 1000000 then w n' else 0) = (if a + l n' = x ∧ x < 1000000 then w' n' else 0)
    split
    · rename_i q
      exact h n' a rfl q.1 q.2
    · rfl
theorem sum6_congr {f g : Nat → Nat} (h : ∀ k, k < 6 → f k = g k) : sum6 f = sum6 g := by
  unfold sum6
  rw [h 0 (by omega), h 1 (by omega), h 2 (by omega), h 3 (by omega), h 4 (by omega), h 5 (by omega)]
theorem wsum_congr {D : Nat → Nat} {la n x : Nat} {l w w' : Nat → Nat} (h : ∀ op kd n' a, op < 4 → kd < 6 → eg D la n op kd = some (n', a) → a + l n' = x → x < 1000000 → w n' = w' n') : wsum D la l w n x = wsum D la l w' n x := by
  unfold wsum
  rw [sum6_congr (fun k hk => eterm_congr (h 0 k · · (by omega) hk)), sum6_congr (fun k hk => eterm_congr (h 1 k · · (by omega) hk)), sum6_congr (fun k hk => eterm_congr (h 2 k · · (by omega) hk)), sum6_congr (fun k hk => eterm_congr (h 3 k · · (by omega) hk))]
theorem Wf_fuel {D : Nat → Nat} (hw : wfD D) (la : Nat) : ∀ f g n, okn D n → pot D la n < f → pot D la n < g → Wf D la f n = Wf D la g n
  | 0, _, _, _, h, _ => absurd h (by omega)
  | _ + 1, 0, _, _, _, h => absurd h (by omega)
  | f + 1, g + 1, n, hn, h1, h2 => by
    unfold Wf
    refine wsum_congr (fun op kd n' a k1 k2 k3 k4 _ => ?_)
    have h3 := pot_lt hw hn k2 k3 k4
    exact Wf_fuel hw la f g n' (eg_ok hw hn k2 k3).1 (by omega) (by omega)
noncomputable def Ws (D : Nat → Nat) (la n : Nat) : Nat := Wf D la 1300 n
theorem pot_1248 {D : Nat → Nat} (hw : wfD D) {la n : Nat} (hn : okn D n) : pot D la n < 1248 := by
  have := r1_lt96 D la n
  have h12 := hw.2.2.2.2.1
  unfold pot
  omega
theorem Ws_eq {D : Nat → Nat} (hw : wfD D) {la n : Nat} (hn : okn D n) : Ws D la n = wsum D la (Ls D la) (Ws D la) n (Ls D la n) := by
  have h0 := pot_1248 hw (la := la) hn
  rw [show Ws D la n = Wf D la (1300 + 1) n from Wf_fuel hw la 1300 1301 n hn (by omega) (by omega)]
  rfl
