/-! scripts: which move is next, and the whole of them -/
def gp (e : Nat × Nat → Nat) : List (Nat × Nat) → Nat → Option ((Nat × Nat) × Nat)
  | [], _ => none
  | x :: xs, left => if left < e x then some (x, left) else gp e xs (left - e x)
def gsum (e : Nat × Nat → Nat) : List (Nat × Nat) → Nat
  | [] => 0
  | x :: xs => e x + gsum e xs
theorem gp_some {e : Nat × Nat → Nat} : ∀ (xs : List (Nat × Nat)) (left : Nat), left < gsum e xs → ∃ x left', gp e xs left = some (x, left')
  | [], left, h => absurd h (by unfold gsum; omega)
  | x :: xs, left, h => by
    unfold gp
    by_cases z : left < e x
    · rw [if_pos z]; exact ⟨x, left, rfl⟩
    · rw [if_neg z]
      exact gp_some xs (left - e x) (by unfold gsum at h; omega)
theorem gp_spec {e : Nat × Nat → Nat} : ∀ (xs : List (Nat × Nat)) (left : Nat) (x : Nat × Nat) (left' : Nat), gp e xs left = some (x, left') → x ∈ xs ∧ left' < e x ∧ left' ≤ left
  | [], left, x, left', h => by unfold gp at h; cases h
  | y :: xs, left, x, left', h => by
    unfold gp at h
    by_cases z : left < e y
    · rw [if_pos z] at h
      cases h
      exact ⟨List.mem_cons_self, z, Nat.le_refl _⟩
    · rw [if_neg z] at h
      obtain ⟨h1, h2, h3⟩ := gp_spec xs _ x left' h
      exact ⟨List.mem_cons_of_mem _ h1, h2, by omega⟩
theorem gp_0 {e : Nat × Nat → Nat} {x : Nat × Nat} {xs : List (Nat × Nat)} {left : Nat} (h : e x = 0) : gp e (x :: xs) left = gp e xs left := by
  conv => lhs; unfold gp
  rw [if_neg (by omega), h, Nat.sub_zero]
theorem gp_cons {e : Nat × Nat → Nat} {x : Nat × Nat} {xs ys : List (Nat × Nat)} (h : ∀ left, gp e xs left = gp e ys left) (left : Nat) : gp e (x :: xs) left = gp e (x :: ys) left := by
  unfold gp
  rw [h]
def row (o : Nat) (ys : List (Nat × Nat)) : List (Nat × Nat) := (o, 0) :: (o, 1) :: (o, 2) :: (o, 3) :: (o, 4) :: (o, 5) :: ys
theorem gp_row {e : Nat × Nat → Nat} {o tok : Nat} {ys : List (Nat × Nat)} {left : Nat} (ht : tok < 6) (h : ∀ k, k ≠ tok → e (o, k) = 0) : gp e (row o ys) left = gp e ((o, tok) :: ys) left := by
  unfold row
  have : tok = 0 ∨ tok = 1 ∨ tok = 2 ∨ tok = 3 ∨ tok = 4 ∨ tok = 5 := by omega
  rcases this with rfl | rfl | rfl | rfl | rfl | rfl
  · refine gp_cons (fun left => ?_) left
    rw [gp_0 (h 1 (by omega)), gp_0 (h 2 (by omega)), gp_0 (h 3 (by omega)), gp_0 (h 4 (by omega)), gp_0 (h 5 (by omega))]
  · rw [gp_0 (h 0 (by omega))]
    refine gp_cons (fun left => ?_) left
    rw [gp_0 (h 2 (by omega)), gp_0 (h 3 (by omega)), gp_0 (h 4 (by omega)), gp_0 (h 5 (by omega))]
  · rw [gp_0 (h 0 (by omega)), gp_0 (h 1 (by omega))]
    refine gp_cons (fun left => ?_) left
    rw [gp_0 (h 3 (by omega)), gp_0 (h 4 (by omega)), gp_0 (h 5 (by omega))]
  · rw [gp_0 (h 0 (by omega)), gp_0 (h 1 (by omega)), gp_0 (h 2 (by omega))]
    refine gp_cons (fun left => ?_) left
    rw [gp_0 (h 4 (by omega)), gp_0 (h 5 (by omega))]
  · rw [gp_0 (h 0 (by omega)), gp_0 (h 1 (by omega)), gp_0 (h 2 (by omega)), gp_0 (h 3 (by omega))]
    refine gp_cons (fun left => ?_) left
    rw [gp_0 (h 5 (by omega))]
  · rw [gp_0 (h 0 (by omega)), gp_0 (h 1 (by omega)), gp_0 (h 2 (by omega)), gp_0 (h 3 (by omega)), gp_0 (h 4 (by omega))]
theorem gp_rowc {e : Nat × Nat → Nat} {o : Nat} {xs ys : List (Nat × Nat)} (h : ∀ left, gp e xs left = gp e ys left) (left : Nat) : gp e (row o xs) left = gp e (row o ys) left :=
  gp_cons (gp_cons (gp_cons (gp_cons (gp_cons (gp_cons h))))) left
/-- all pairs, the last j of them -/
def gl : Nat → List (Nat × Nat)
  | 0 => []
  | j + 1 => ((23 - j) / 6, (23 - j) % 6) :: gl j
theorem gl_24 : gl 24 = row 0 (row 1 (row 2 (row 3 []))) := rfl
theorem gl_18 : gl 18 = row 1 (row 2 (row 3 [])) := rfl
/-- the class's moves, the last j of them -/
def cm (tok m : Nat) : Nat × Nat := if m = 0 then (0, tok) else if m < 7 then (1, m - 1) else if m = 7 then (2, tok) else (3, m - 8)
def cl (tok : Nat) : Nat → List (Nat × Nat)
  | 0 => []
  | j + 1 => cm tok (13 - j) :: cl tok j
theorem cl_14 (tok : Nat) : cl tok 14 = (0, tok) :: row 1 ((2, tok) :: row 3 []) := rfl
theorem cl_13 (tok : Nat) : cl tok 13 = row 1 ((2, tok) :: row 3 []) := rfl
theorem gp_class {e : Nat × Nat → Nat} {tok left : Nat} (ht : tok < 6) (h0 : ∀ k, k ≠ tok → e (0, k) = 0) (h2 : ∀ k, k ≠ tok → e (2, k) = 0) : gp e (gl 24) left = gp e (cl tok 14) left := by
  rw [gl_24, cl_14, gp_row ht h0]
  exact gp_cons (gp_rowc (fun left => gp_row ht h2)) left
theorem gp_class13 {e : Nat × Nat → Nat} {tok left : Nat} (ht : tok < 6) (h0 : ∀ k, e (0, k) = 0) (h2 : ∀ k, k ≠ tok → e (2, k) = 0) : gp e (gl 24) left = gp e (cl tok 13) left ∧ gp e (gl 24) left = gp e (gl 18) left := by
  have : gp e (gl 24) left = gp e (gl 18) left := by
    rw [gl_24, gl_18, gp_row ht (fun k _ => h0 k), gp_0 (h0 tok)]
  refine ⟨?_, this⟩
  rw [this, gl_18, cl_13]
  exact gp_rowc (fun left => gp_row ht h2) left
noncomputable def ew (D : Nat → Nat) (la n : Nat) : Nat × Nat → Nat := fun x => eterm D la (Ls D la) (Ws D la) n (Ls D la n) x.1 x.2
noncomputable def pick (D : Nat → Nat) (la n left : Nat) : Option ((Nat × Nat) × Nat) := gp (ew D la n) (gl 24) left
def xput (X : Nat → Nat × Nat) (i : Nat) (v : Nat × Nat) : Nat → Nat × Nat := vput X i v
noncomputable def trc (D : Nat → Nat) (la : Nat) : Nat → Nat → Nat → Nat → (Nat → Nat × Nat) → Nat × Nat × (Nat → Nat × Nat)
  | 0, n, _, L, X => (n, L, X)
  | f + 1, n, left, L, X => if term D la n = true then (n, L, X) else match pick D la n left with
    | none => (n, L, X)
    | some (x, left') => match eg D la n x.1 x.2 with
      | none => (n, L, X)
      | some (n', _) => trc D la f n' left' (L + 1) (xput X L x)
theorem gsum_ew {D : Nat → Nat} {la n : Nat} : gsum (ew D la n) (gl 24) + wbase D la n (Ls D la n) = wsum D la (Ls D la) (Ws D la) n (Ls D la n) := by
  rw [gl_24]
  unfold wsum sum6 row ew
  simp only [gsum]
  omega
/-- not at an end, a rank that is small enough has a move, and the move goes on -/
theorem pick_ok {D : Nat → Nat} (hw : wfD D) {la n left : Nat} (hn : okn D n) (ht : term D la n = false) (hl : left < Ws D la n) : ∃ op kd n' a left', pick D la n left = some ((op, kd), left') ∧ op < 4 ∧ kd < 6 ∧ eg D la n op kd = some (n', a) ∧ a + Ls D la n' = Ls D la n ∧ Ls D la n < 1000000 ∧ left' < Ws D la n' ∧ left' ≤ left := by
  rw [Ws_eq hw hn, ← gsum_ew] at hl
  have hb : wbase D la n (Ls D la n) = 0 := by unfold wbase; rw [ht]; exact if_neg (fun y => by cases y.1)
  obtain ⟨⟨op, kd⟩, left', h⟩ := gp_some (e := ew D la n) (gl 24) left (by omega)
  obtain ⟨h1, h2, h3⟩ := gp_spec _ _ _ _ h
  have hop : op < 4 ∧ kd < 6 := by
    have go : ∀ j, j ≤ 24 → (op, kd) ∈ gl j → op < 4 ∧ kd < 6 := by
      intro j
      induction j with
      | zero => intro _ hm; unfold gl at hm; cases hm
      | succ j ih =>
        intro hj hm
        unfold gl at hm
        rcases List.mem_cons.1 hm with z | z
        · cases z; omega
        · exact ih (by omega) z
    exact go 24 (by omega) h1
  unfold ew at h2
  cases he : eg D la n op kd with
  | none => rw [eterm_no he] at h2; omega
  | some y =>
    obtain ⟨n', a⟩ := y
    rw [eterm_yes he] at h2
    by_cases z : a + Ls D la n' = Ls D la n ∧ Ls D la n < 1000000
    · rw [if_pos z] at h2
      exact ⟨op, kd, n', a, left', h, hop.1, hop.2, he, z.1, z.2, h2, h3⟩
    · rw [if_neg z] at h2; omega
theorem Ws_pos {D : Nat → Nat} (hw : wfD D) (la : Nat) : ∀ f n, okn D n → pot D la n < f → Ls D la n < 1000000 → 0 < Ws D la n
  | 0, n, _, h, _ => absurd h (by omega)
  | f + 1, n, hn, hp, hl => by
    rw [Ws_eq hw hn, ← gsum_ew]
    rcases PP_cases (Ls_PP hl) with ⟨k1, k2⟩ | ⟨op, kd, n', a, y, k1, k2, k3, k4, k5⟩
    · unfold wbase; rw [if_pos ⟨k1, k2⟩]; omega
    · have e5 := Ls_le k4
      have e6 := Ls_le (PP_edge k1 k2 k3 (Ls_PP (show Ls D la n' < 1000000 by omega)))
      have ht : a + Ls D la n' = Ls D la n := by omega
      have hp' := pot_lt hw hn k2 k3 ht
      have := Ws_pos hw la f n' (eg_ok hw hn k2 k3).1 (by omega) (by omega)
      have he : ew D la n (op, kd) = Ws D la n' := by
        unfold ew
        rw [eterm_yes k3, if_pos ⟨ht, hl⟩]
      have hm : (op, kd) ∈ gl 24 := by
        rw [gl_24]
        unfold row
        have h1 : op = 0 ∨ op = 1 ∨ op = 2 ∨ op = 3 := by omega
        have h2 : kd = 0 ∨ kd = 1 ∨ kd = 2 ∨ kd = 3 ∨ kd = 4 ∨ kd = 5 := by omega
        rcases h1 with rfl | rfl | rfl | rfl <;> rcases h2 with rfl | rfl | rfl | rfl | rfl | rfl <;> simp
      have go : ∀ xs : List (Nat × Nat), (op, kd) ∈ xs → ew D la n (op, kd) ≤ gsum (ew D la n) xs := by
        intro xs
        induction xs with
        | nil => intro h; cases h
        | cons x xs ih =>
          intro h
          unfold gsum
          rcases List.mem_cons.1 h with z | z
          · rw [← z]; omega
          · have := ih z; omega
      have := go _ hm
      omega
/-- the moves at a node, as the class and as the model go through them -/
theorem pick_class {D : Nat → Nat} (hw : wfD D) {la p c left : Nat} (hc : c < 96) (hp : p ≤ D 56) : pick D la (96 * p + c) left = gp (ew D la (96 * p + c)) (cl (if p < D 56 then D (57 + p) else 0) (if la = 0 then 14 else 13)) left ∧ (la ≠ 0 → pick D la (96 * p + c) left = gp (ew D la (96 * p + c)) (gl 18) left) := by
  have h12 := hw.2.2.2.2.1
  have ht : (if p < D 56 then D (57 + p) else 0) < 6 := by
    split
    · exact hw.2.2.2.2.2 p (by omega)
    · omega
  have h2 : ∀ k, k ≠ (if p < D 56 then D (57 + p) else 0) → ew D la (96 * p + c) (2, k) = 0 := fun k hk => by
    unfold ew
    refine eterm_no ?_
    show eg D la (96 * p + c) 2 k = none
    rw [eg_2 hc]
    by_cases z : p < D 56
    · rw [if_pos z] at hk; rw [if_neg (fun y => hk y.2)]
    · rw [if_neg (fun y => z y.1)]
  unfold pick
  by_cases hla : la = 0
  · rw [if_pos hla]
    refine ⟨gp_class ht (fun k hk => ?_) h2, fun y => absurd hla y⟩
    unfold ew
    refine eterm_no ?_
    show eg D la (96 * p + c) 0 k = none
    rw [eg_0 hc]
    by_cases z : p < D 56
    · rw [if_pos z] at hk; rw [if_neg (fun y => hk y.2.2)]
    · rw [if_neg (fun y => z y.2.1)]
  · rw [if_neg hla]
    have h0 : ∀ k, ew D la (96 * p + c) (0, k) = 0 := fun k => by
      unfold ew
      refine eterm_no ?_
      show eg D la (96 * p + c) 0 k = none
      rw [eg_0 hc, if_neg (fun y => hla y.1)]
    exact ⟨(gp_class13 ht h0 h2).1, fun _ => (gp_class13 ht h0 h2).2⟩
