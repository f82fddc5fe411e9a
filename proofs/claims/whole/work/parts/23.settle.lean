/-! one step of settling a level: what is right of a lower rank makes the next rank right -/
theorem step_L {D : Nat → Nat} (hw : wfD D) {la n m L S : Nat} {l s : Nat → Nat} (hn : okn D n)
    (hs : ∀ op kd n' a, op < 4 → kd < 6 → eg D la n op kd = some (n', a) → SndV D la n' (l n') (s n') ∧ (n' / 96 ≠ n / 96 ∨ r1 D la n' < m → l n' = Ls D la n')) (h : Best2 (Off D la l s n) L S) (hr : r1 D la n < m + 1) : L = Ls D la n := by
  refine off_L (fun op kd n' a k1 k2 k3 => (hs op kd n' a k1 k2 k3).1) (fun op kd n' a k1 k2 k3 k4 k5 => (hs op kd n' a k1 k2 k3).2 ?_) h
  obtain ⟨e1, e2, e3⟩ := eg_ok hw hn k2 k3
  rcases e3 with ⟨e3, e4⟩ | e3
  · have := r1_lt (D := D) (la := la) e3 (by omega)
    right; omega
  · left; omega
theorem step_S {D : Nat → Nat} (hw : wfD D) {la n m L S : Nat} {l s : Nat → Nat} (hn : okn D n)
    (hs : ∀ op kd n' a, op < 4 → kd < 6 → eg D la n op kd = some (n', a) → SndV D la n' (l n') (s n') ∧ l n' = Ls D la n' ∧ (n' / 96 ≠ n / 96 ∨ r2 D la n' < m → s n' = Ss D la n')) (h : Best2 (Off D la l s n) L S) (hr : r2 D la n < m + 1) : S = Ss D la n := by
  refine off_S (fun op kd n' a k1 k2 k3 => (hs op kd n' a k1 k2 k3).1) (fun op kd n' a k1 k2 k3 => (hs op kd n' a k1 k2 k3).2.1) (fun op kd n' a k1 k2 k3 k4 k5 => (hs op kd n' a k1 k2 k3).2.2 ?_) h
  obtain ⟨e1, e2, e3⟩ := eg_ok hw hn k2 k3
  rcases e3 with ⟨e3, e4⟩ | e3
  · have := r2_lt (D := D) (la := la) e3 (by omega)
    right; omega
  · left; omega
theorem step_W {D : Nat → Nat} (hw : wfD D) {la n m cap : Nat} {l w : Nat → Nat} (hn : okn D n)
    (hs : ∀ op kd n' a, op < 4 → kd < 6 → eg D la n op kd = some (n', a) → l n' = Ls D la n' ∧ (n' / 96 ≠ n / 96 ∨ r1 D la n' < m → w n' = min (Ws D la n') cap)) (hr : r1 D la n < m + 1) : min (wsum D la l w n (Ls D la n)) cap = min (Ws D la n) cap := by
  rw [Ws_eq hw hn]
  refine wsum_eqc (fun op kd n' a k1 k2 k3 => ?_)
  obtain ⟨g1, g2⟩ := hs op kd n' a k1 k2 k3
  refine ⟨g1, fun k4 k5 => ?_⟩
  rw [g1] at k4
  obtain ⟨e1, e2, e3⟩ := eg_ok hw hn k2 k3
  rw [g2 ?_]
  · exact eqc_min _ _
  · rcases e3 with ⟨e3, e4⟩ | e3
    · have := r1_lt (D := D) (la := la) e3 (by omega)
      right; omega
    · left; omega
/-- what is right of a node at stage m: first the least costs by rank, then the second ones and the ways -/
def Stg (D : Nat → Nat) (la cap m n L S W : Nat) : Prop := SndV D la n L S ∧ (r1 D la n < m → L = Ls D la n) ∧ (96 ≤ m → r2 D la n < m - 96 → S = Ss D la n) ∧ (96 ≤ m → r1 D la n < m - 96 → W = min (Ws D la n) cap)
def Right (D : Nat → Nat) (la cap n L S W : Nat) : Prop := L = Ls D la n ∧ S = Ss D la n ∧ W = min (Ws D la n) cap
theorem Stg.mono {D : Nat → Nat} {la cap m m' n L S W : Nat} (h : Stg D la cap m' n L S W) (hm : m ≤ m') : Stg D la cap m n L S W :=
  ⟨h.1, fun q => h.2.1 (by omega), fun q1 q2 => h.2.2.1 (by omega) (by omega), fun q1 q2 => h.2.2.2 (by omega) (by omega)⟩
theorem Stg.right {D : Nat → Nat} {la cap m n L S W : Nat} (h : Stg D la cap m n L S W) (hm : 192 ≤ m) : Right D la cap n L S W := by
  have a1 := r1_lt96 D la n
  have a2 := r2_lt96 D la n
  exact ⟨h.2.1 (by omega), h.2.2.1 (by omega) (by omega), h.2.2.2 (by omega) (by omega)⟩
theorem Right.stg {D : Nat → Nat} {la cap n L S W : Nat} (h : Right D la cap n L S W) (m : Nat) : Stg D la cap m n L S W := by
  obtain ⟨rfl, rfl, rfl⟩ := h
  exact ⟨SndV_true _ _ _, fun _ => rfl, fun _ _ => rfl, fun _ _ => rfl⟩
theorem Stg_far (D : Nat → Nat) (la cap n : Nat) : Stg D la cap 0 n 1000000 1000000 0 := ⟨SndV_far _ _ _, fun q => absurd q (by omega), fun q => absurd q (by omega), fun q => absurd q (by omega)⟩
theorem step_all {D : Nat → Nat} (hw : wfD D) {la cap n m L S W : Nat} {l s w : Nat → Nat} (hn : okn D n)
    (hs : ∀ op kd n' a, op < 4 → kd < 6 → eg D la n op kd = some (n', a) → Stg D la cap m n' (l n') (s n') (w n') ∧ (n' / 96 ≠ n / 96 → Right D la cap n' (l n') (s n') (w n')))
    (h : Best2 (Off D la l s n) L S) (hW : W = min (wsum D la l w n L) cap) : Stg D la cap (m + 1) n L S W := by
  have hsn : ∀ op kd n' a, op < 4 → kd < 6 → eg D la n op kd = some (n', a) → SndV D la n' (l n') (s n') := fun op kd n' a k1 k2 k3 => (hs op kd n' a k1 k2 k3).1.1
  have aL : ∀ op kd n' a, op < 4 → kd < 6 → eg D la n op kd = some (n', a) → (n' / 96 ≠ n / 96 ∨ r1 D la n' < m → l n' = Ls D la n') := fun op kd n' a k1 k2 k3 q => by
    obtain ⟨g1, g2⟩ := hs op kd n' a k1 k2 k3
    rcases q with q | q
    · exact (g2 q).1
    · exact g1.2.1 q
  refine ⟨off_sound hsn h, fun q => step_L hw hn (fun op kd n' a k1 k2 k3 => ⟨hsn op kd n' a k1 k2 k3, aL op kd n' a k1 k2 k3⟩) h q, fun q1 q2 => ?_, fun q1 q2 => ?_⟩
  · by_cases z : m = 95
    · omega
    · refine step_S hw hn (m := m - 96) (fun op kd n' a k1 k2 k3 => ⟨hsn op kd n' a k1 k2 k3, aL op kd n' a k1 k2 k3 (Or.inr ?_), fun q => ?_⟩) h (by omega)
      · have := r1_lt96 D la n'; omega
      · obtain ⟨g1, g2⟩ := hs op kd n' a k1 k2 k3
        rcases q with q | q
        · exact (g2 q).2.1
        · exact g1.2.2.1 (by omega) q
  · by_cases z : m = 95
    · omega
    · have hL := step_L hw hn (m := m) (fun op kd n' a k1 k2 k3 => ⟨hsn op kd n' a k1 k2 k3, aL op kd n' a k1 k2 k3⟩) h (by have := r1_lt96 D la n; omega)
      rw [hW, hL]
      refine step_W hw hn (m := m - 96) (fun op kd n' a k1 k2 k3 => ⟨aL op kd n' a k1 k2 k3 (Or.inr ?_), fun q => ?_⟩) (by omega)
      · have := r1_lt96 D la n'; omega
      · obtain ⟨g1, g2⟩ := hs op kd n' a k1 k2 k3
        rcases q with q | q
        · exact (g2 q).2.2
        · exact g1.2.2.2 (by omega) q
/-- the least costs alone, by values that only fall -/
theorem step_min {D : Nat → Nat} (hw : wfD D) {la n m L : Nat} {l : Nat → Nat} (hn : okn D n) (h1 : L ≤ 1000000) (h2 : L < 1000000 → PP D la n L) (h3 : term D la n = true → L = 0)
    (h4 : ∀ op kd n' a, op < 4 → kd < 6 → eg D la n op kd = some (n', a) → L ≤ a + l n' ∧ (n' / 96 ≠ n / 96 ∨ r1 D la n' < m → l n' = Ls D la n')) (hr : r1 D la n < m + 1) : L = Ls D la n := by
  have hl : Ls D la n ≤ L := by
    rcases Nat.lt_or_ge L 1000000 with q | q
    · exact Ls_le (h2 q)
    · have := Ls_le1 D la n; omega
  rcases Nat.lt_or_ge (Ls D la n) 1000000 with q | q
  · rcases PP_cases (Ls_PP q) with ⟨k1, k2⟩ | ⟨op, kd, n', a, y, k1, k2, k3, k4, k5⟩
    · have := h3 k1; omega
    · obtain ⟨g1, g2⟩ := h4 op kd n' a k1 k2 k3
      obtain ⟨e1, e2, e3⟩ := eg_ok hw hn k2 k3
      have e5 := Ls_le k4
      have e6 := Ls_le (PP_edge k1 k2 k3 (Ls_PP (show Ls D la n' < 1000000 by omega)))
      have e7 : l n' = Ls D la n' := by
        rcases e3 with ⟨e3, e4⟩ | e3
        · have := r1_lt (D := D) (la := la) e3 (show Ls D la n' < Ls D la n by omega)
          exact g2 (Or.inr (by omega))
        · exact g2 (Or.inl (by omega))
      omega
  · omega
