/-! the parser of both, as it were -/
noncomputable def chz {α : Type} (p : Prop) (a b : α) : α := @ite α p (Classical.propDecidable p) a b
theorem ch_t {α : Type} {p : Prop} {a b : α} (h : p) : chz p a b = a := if_pos h
theorem ch_f {α : Type} {p : Prop} {a b : α} (h : ¬ p) : chz p a b = b := if_neg h
abbrev Oc : Type := Sum Nat (Nat × (Nat → Nat))
noncomputable def aAcc (T : Nat → Nat) (len : Nat) (D : Nat → Nat) (s : Nat) : Oc := chz (isDg T len 0 (D 0 - 1) s) (.inr (nx T len s, dput D 1 (D 1 ||| 2 ^ (T s - 48)))) (.inl s)
noncomputable def aRu3 (T : Nat → Nat) (len : Nat) (D : Nat → Nat) (ty cell tg s : Nat) : Oc := if ty = 1 then .inr (s, dput D cell (100 * ty + 10 * tg)) else chz (isDg T len 0 1 s) (.inr (nx T len s, dput D cell (100 * ty + 10 * tg + (T s - 48)))) (.inl s)
noncomputable def aRu2 (T : Nat → Nat) (len : Nat) (D : Nat → Nat) (ty cell s : Nat) : Oc := chz (isDg T len 0 (D 0 - 1) s) (aRu3 T len D ty cell (T s - 48) (nx T len s)) (.inl s)
noncomputable def aRu1 (T : Nat → Nat) (len : Nat) (D : Nat → Nat) (ty st s : Nat) : Oc := chz (isKd T len s ∧ D (2 + (6 * st + (T s - 97))) = 0) (aRu2 T len D ty (2 + (6 * st + (T s - 97))) (nx T len s)) (.inl s)
noncomputable def aRul (T : Nat → Nat) (len : Nat) (D : Nat → Nat) (ty s : Nat) : Oc := chz (isDg T len 0 (D 0 - 1) s) (aRu1 T len D ty (T s - 48) (nx T len s)) (.inl s)
noncomputable def aCo (T : Nat → Nat) (len : Nat) (k : Nat) : Nat → (Nat → Nat) → Nat → Oc
  | 0, D, s => .inr (s, D)
  | n + 1, D, s => chz (isDg T len 1 9 s) (aCo T len k n (dput D (38 + 6 * (2 - n) + k) (T s - 48)) (nx T len s)) (.inl s)
noncomputable def aCst (T : Nat → Nat) (len : Nat) (D : Nat → Nat) (s : Nat) : Oc := chz (isKd T len s) (aCo T len (T s - 97) 3 D (nx T len s)) (.inl s)
noncomputable def aSem (T : Nat → Nat) (len : Nat) : Oc → Oc
  | .inl e => .inl e
  | .inr (s, D) => chz (isWd T len 1 s) (.inr (nx T len s, D)) (.inl s)
noncomputable def aBdy (T : Nat → Nat) (len : Nat) (D : Nat → Nat) (s : Nat) : Oc := chz (isWd T len 2 s) (aAcc T len D (nx T len s)) (chz (isWd T len 3 s) (aRul T len D 1 (nx T len s)) (chz (isWd T len 4 s) (aRul T len D 2 (nx T len s)) (chz (isWd T len 5 s) (aRul T len D 3 (nx T len s)) (chz (isWd T len 6 s) (aCst T len D (nx T len s)) (.inl s)))))
noncomputable def aStm (T : Nat → Nat) (len : Nat) (D : Nat → Nat) (s : Nat) : Oc := aSem T len (aBdy T len D s)
noncomputable def aHd (T : Nat → Nat) (len : Nat) (s : Nat) : Oc := chz (isWd T len 0 s) (chz (isDg T len 1 6 (nx T len s)) (.inr (nx T len (nx T len s), dput eD 0 (T (nx T len s) - 48))) (.inl (nx T len s))) (.inl s)
noncomputable def aRun (T : Nat → Nat) (len : Nat) : Nat → Nat → Nat → (Nat → Nat) → Oc
  | 0, _, _, _ => .inl 0
  | f + 1, n, s, D => if s = len then .inr (n, D) else match aStm T len D s with
    | .inl e => .inl e
    | .inr (s', D') => aRun T len f (n + 1) s' D'
noncomputable def aPar (T : Nat → Nat) (len : Nat) : Oc := match aSem T len (aHd T len (sk T len 0)) with
  | .inl e => .inl e
  | .inr (s, D) => aRun T len (len + 1) 1 s D
/-! what comes out is in order -/
def aOk (len s : Nat) (o : Oc) : Prop := (∀ e, o = .inl e → e ≤ len) ∧ ∀ s' D', o = .inr (s', D') → wfD D' ∧ s ≤ s' ∧ s' ≤ len
theorem aOk_l {len s e : Nat} (h : e ≤ len) : aOk len s (.inl e) := ⟨fun e' q => by cases q; exact h, fun s' D' q => by cases q⟩
theorem aOk_r {len s s' : Nat} {D : Nat → Nat} (h : wfD D) (h1 : s ≤ s') (h2 : s' ≤ len) : aOk len s (.inr (s', D)) := ⟨fun e q => (by cases q), fun s' D' q => by cases q; exact ⟨h, h1, h2⟩⟩
theorem aOk_c {len s : Nat} {p : Prop} {a b : Oc} (h1 : p → aOk len s a) (h2 : ¬ p → aOk len s b) : aOk len s (chz p a b) := by
  by_cases z : p
  · rw [ch_t z]; exact h1 z
  · rw [ch_f z]; exact h2 z
theorem aOk.lo {len s t : Nat} {o : Oc} (h : aOk len t o) (hs : s ≤ t) : aOk len s o := ⟨h.1, fun s' D' q => by have := h.2 s' D' q; exact ⟨this.1, by omega, this.2.2⟩⟩
theorem wf_acc {D : Nat → Nat} {q : Nat} (h : wfD D) (hq : q < 6) : wfD (dput D 1 (D 1 ||| 2 ^ q)) := by
  obtain ⟨a1, a2, a3, a4, a5, a6⟩ := h
  refine ⟨by rw [dput_k (by omega)]; exact a1, ?_, fun k hk => by rw [dput_k (by omega), dput_k (by omega)]; exact a3 k hk, fun k hk => by rw [dput_k (by omega)]; exact a4 k hk, by rw [dput_k (by omega)]; exact a5, fun i hi => by rw [dput_k (by omega)]; exact a6 i hi⟩
  rw [dput_s]
  have h1 : 2 ^ q < 2 ^ 6 := Nat.pow_lt_pow_right (by omega) hq
  exact Nat.or_lt_two_pow (n := 6) a2 h1
theorem wf_rul {D : Nat → Nat} {k v : Nat} (h : wfD D) (hk : k < 36) (hv : rok (D 0) v) : wfD (dput D (2 + k) v) := by
  obtain ⟨a1, a2, a3, a4, a5, a6⟩ := h
  refine ⟨by rw [dput_k (by omega)]; exact a1, by rw [dput_k (by omega)]; exact a2, fun j hj => ?_, fun j hj => by rw [dput_k (by omega)]; exact a4 j hj, by rw [dput_k (by omega)]; exact a5, fun i hi => by rw [dput_k (by omega)]; exact a6 i hi⟩
  rw [dput_k (show 0 ≠ 2 + k by omega)]
  by_cases z : 2 + j = 2 + k
  · rw [z, dput_s]; exact hv
  · rw [dput_k z]; exact a3 j hj
theorem wf_hd {n : Nat} (h1 : 1 ≤ n) (h2 : n ≤ 6) : wfD (dput eD 0 n) := by
  refine ⟨by rw [dput_s]; exact ⟨h1, h2⟩, by rw [dput_k (by omega)]; decide, fun k hk => Or.inl ?_, fun k hk => ?_, by rw [dput_k (by omega)]; decide, fun i hi => ?_⟩
  · rw [dput_k (by omega)]; unfold eD; rw [if_neg (by omega), if_neg (by omega)]
  · rw [dput_k (by omega)]; unfold eD; rw [if_neg (by omega), if_pos (by omega)]; omega
  · rw [dput_k (by omega)]; unfold eD; rw [if_neg (by omega), if_neg (by omega)]; omega
theorem dg_lt {T : Nat → Nat} {len lo hi s : Nat} (h : isDg T len lo hi s) : lo ≤ T s - 48 ∧ T s - 48 ≤ hi := by
  have := h.2.1
  have := h.2.2
  omega
theorem kd_lt6 {T : Nat → Nat} {len s : Nat} (h : isKd T len s) : T s - 97 < 6 := by
  have := h.2.1
  have := h.2.2
  omega
theorem aAcc_ok {T : Nat → Nat} {len s : Nat} {D : Nat → Nat} (hw : wfD D) (hs : s ≤ len) : aOk len s (aAcc T len D s) := by
  have hn := nx_le (T := T) hs
  have := hw.1
  exact aOk_c (fun z => aOk_r (wf_acc hw (by have := dg_lt z; omega)) hn.2.1 hn.1) (fun _ => aOk_l hs)
theorem aRul_ok {T : Nat → Nat} {len s ty : Nat} {D : Nat → Nat} (hw : wfD D) (hs : s ≤ len) (ht : 1 ≤ ty ∧ ty ≤ 3) : aOk len s (aRul T len D ty s) := by
  have hn := nx_le (T := T) hs
  have hn2 := nx_le (T := T) hn.1
  have hn3 := nx_le (T := T) hn2.1
  have hn4 := nx_le (T := T) hn3.1
  have h0 := hw.1
  refine aOk_c (fun z => aOk_c (fun z2 => aOk_c (fun z3 => ?_) (fun _ => aOk_l hn2.1)) (fun _ => aOk_l hn.1)) (fun _ => aOk_l hs)
  have g1 := dg_lt z
  have g2 := kd_lt6 z2.1
  have g3 := dg_lt z3
  unfold aRu3
  by_cases y : ty = 1
  · rw [if_pos y]
    exact aOk_r (wf_rul hw (by omega) (Or.inr ⟨ty, _, 0, ht.1, ht.2, by omega, by omega, rfl⟩)) (by omega) hn3.1
  · rw [if_neg y]
    refine aOk_c (fun z4 => ?_) (fun _ => aOk_l hn3.1)
    have g4 := dg_lt z4
    exact aOk_r (wf_rul hw (by omega) (Or.inr ⟨ty, _, _, ht.1, ht.2, by omega, g4.2, rfl⟩)) (by omega) hn4.1
theorem aCo_ok {T : Nat → Nat} {len k : Nat} (hk : k < 6) : ∀ n (D : Nat → Nat) s, n ≤ 3 → wfD D → s ≤ len → aOk len s (aCo T len k n D s)
  | 0, D, s, _, hw, hs => aOk_r hw (Nat.le_refl _) hs
  | n + 1, D, s, h3, hw, hs => by
    have hn := nx_le (T := T) hs
    refine aOk_c (fun z => ?_) (fun _ => aOk_l hs)
    have g := dg_lt z
    exact (aCo_ok hk n _ _ (by omega) (wfD_cost hw (by omega) (by omega) g.1 g.2) hn.1).lo hn.2.1
theorem aCst_ok {T : Nat → Nat} {len s : Nat} {D : Nat → Nat} (hw : wfD D) (hs : s ≤ len) : aOk len s (aCst T len D s) := by
  have hn := nx_le (T := T) hs
  exact aOk_c (fun z => (aCo_ok (kd_lt6 z) 3 D _ (by omega) hw hn.1).lo hn.2.1) (fun _ => aOk_l hs)
theorem aSem_ok {T : Nat → Nat} {len s : Nat} {o : Oc} (h : aOk len s o) : aOk len s (aSem T len o) := by
  match o, h with
  | .inl e, h => exact aOk_l (h.1 e rfl)
  | .inr (s', D'), h =>
    have g := h.2 s' D' rfl
    have hn := nx_le (T := T) g.2.2
    exact aOk_c (fun _ => aOk_r g.1 (by omega) hn.1) (fun _ => aOk_l g.2.2)
theorem wd_lt {T : Nat → Nat} {len s a : Nat} (hs : s ≤ len) (ha : a < 7) (h : isWd T len a s) : s < nx T len s := by
  have h1 := (wd_ok a ha).2.2.1
  have h2 := en_le (T := T) hs
  have h3 := h.1
  exact (nx_le (T := T) hs).2.2 (by omega)
theorem aBdy_ok {T : Nat → Nat} {len s : Nat} {D : Nat → Nat} (hw : wfD D) (hs : s ≤ len) : aOk len (s + 1) (aBdy T len D s) := by
  have hn := nx_le (T := T) hs
  exact aOk_c (fun z => (aAcc_ok hw hn.1).lo (wd_lt hs (by omega) z)) (fun _ => aOk_c (fun z => (aRul_ok hw hn.1 (by omega)).lo (wd_lt hs (by omega) z)) (fun _ => aOk_c (fun z => (aRul_ok hw hn.1 (by omega)).lo (wd_lt hs (by omega) z)) (fun _ => aOk_c (fun z => (aRul_ok hw hn.1 (by omega)).lo (wd_lt hs (by omega) z)) (fun _ => aOk_c (fun z => (aCst_ok hw hn.1).lo (wd_lt hs (by omega) z)) (fun _ => aOk_l hs)))))
theorem aHd_ok {T : Nat → Nat} {len s : Nat} (hs : s ≤ len) : aOk len (s + 1) (aHd T len s) := by
  have hn := nx_le (T := T) hs
  have hn2 := nx_le (T := T) hn.1
  refine aOk_c (fun z => aOk_c (fun z2 => ?_) (fun _ => aOk_l hn.1)) (fun _ => aOk_l hs)
  have g := dg_lt z2
  have := wd_lt hs (by omega) z
  exact aOk_r (wf_hd g.1 g.2) (by omega) hn2.1
