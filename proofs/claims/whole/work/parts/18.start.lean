theorem st_ne {args : Array Value} {s : State} (hs : ∀ c ∈ flatC (Jvm.Cond.and given_1 narrow_1), c.before args s = true) : ∀ i j, j < 7 → i < j → (Cond.not (Cond.eq (Term.string "SyntaxRepair$GrammarText" (ixS i)) (Term.string "SyntaxRepair$GrammarText" (ixS j)))).before args s = true := by
  intro i j hj hij
  have h1 : j = 1 ∨ j = 2 ∨ j = 3 ∨ j = 4 ∨ j = 5 ∨ j = 6 := by omega
  rcases h1 with rfl | rfl | rfl | rfl | rfl | rfl
  · have h2 : i = 0 := by omega
    rcases h2 with rfl
    · exact hs _ (by decide +kernel)
  · have h2 : i = 0 ∨ i = 1 := by omega
    rcases h2 with rfl | rfl
    · exact hs _ (by decide +kernel)
    · exact hs _ (by decide +kernel)
  · have h2 : i = 0 ∨ i = 1 ∨ i = 2 := by omega
    rcases h2 with rfl | rfl | rfl
    · exact hs _ (by decide +kernel)
    · exact hs _ (by decide +kernel)
    · exact hs _ (by decide +kernel)
  · have h2 : i = 0 ∨ i = 1 ∨ i = 2 ∨ i = 3 := by omega
    rcases h2 with rfl | rfl | rfl | rfl
    · exact hs _ (by decide +kernel)
    · exact hs _ (by decide +kernel)
    · exact hs _ (by decide +kernel)
    · exact hs _ (by decide +kernel)
  · have h2 : i = 0 ∨ i = 1 ∨ i = 2 ∨ i = 3 ∨ i = 4 := by omega
    rcases h2 with rfl | rfl | rfl | rfl | rfl
    · exact hs _ (by decide +kernel)
    · exact hs _ (by decide +kernel)
    · exact hs _ (by decide +kernel)
    · exact hs _ (by decide +kernel)
    · exact hs _ (by decide +kernel)
  · have h2 : i = 0 ∨ i = 1 ∨ i = 2 ∨ i = 3 ∨ i = 4 ∨ i = 5 := by omega
    rcases h2 with rfl | rfl | rfl | rfl | rfl | rfl
    · exact hs _ (by decide +kernel)
    · exact hs _ (by decide +kernel)
    · exact hs _ (by decide +kernel)
    · exact hs _ (by decide +kernel)
    · exact hs _ (by decide +kernel)
    · exact hs _ (by decide +kernel)
/-! what the Statement gives at the start: the constants, the static rows, the classes -/
theorem st_vk {args : Array Value} {s : State} (hs : ∀ c ∈ flatC (Jvm.Cond.and given_1 narrow_1), c.before args s = true) {A : Nat → Prop} (hA : ∀ a : Nat, a < s.heap.size → ¬ A a) :
    ∃ adK adV : Nat → Nat, vk_S 7 lenS bytS adK adV A s s.heap ∧ ∀ i, i < 7 → (Term.string "SyntaxRepair$GrammarText" (ixS i)).eval args s none [] s = some (.ref (adK i)) := by
  have c7 : ∀ {P : Nat → Prop}, P 0 → P 1 → P 2 → P 3 → P 4 → P 5 → P 6 → ∀ i, i < 7 → P i := fun h0 h1 h2 h3 h4 h5 h6 i hi => by
    have : i = 0 ∨ i = 1 ∨ i = 2 ∨ i = 3 ∨ i = 4 ∨ i = 5 ∨ i = 6 := by omega
    rcases this with rfl | rfl | rfl | rfl | rfl | rfl | rfl <;> assumption
  refine vk_Sof (tm := fun i => Term.string "SyntaxRepair$GrammarText" (ixS i)) (fun i hi => Nat.lt_trans (lenS_lt i hi) (by decide)) ?_ ?_ ?_ ?_ ?_ ?_ hA
  · exact c7 (hs _ (by decide +kernel)) (hs _ (by decide +kernel)) (hs _ (by decide +kernel)) (hs _ (by decide +kernel)) (hs _ (by decide +kernel)) (hs _ (by decide +kernel)) (hs _ (by decide +kernel))
  · exact c7 (hs _ (by decide +kernel)) (hs _ (by decide +kernel)) (hs _ (by decide +kernel)) (hs _ (by decide +kernel)) (hs _ (by decide +kernel)) (hs _ (by decide +kernel)) (hs _ (by decide +kernel))
  · exact c7 (hs _ (by decide +kernel)) (hs _ (by decide +kernel)) (hs _ (by decide +kernel)) (hs _ (by decide +kernel)) (hs _ (by decide +kernel)) (hs _ (by decide +kernel)) (hs _ (by decide +kernel))
  · exact c7 (hs _ (by decide +kernel)) (hs _ (by decide +kernel)) (hs _ (by decide +kernel)) (hs _ (by decide +kernel)) (hs _ (by decide +kernel)) (hs _ (by decide +kernel)) (hs _ (by decide +kernel))
  · intro i hi
    have : i = 0 ∨ i = 1 ∨ i = 2 ∨ i = 3 ∨ i = 4 ∨ i = 5 ∨ i = 6 := by omega
    rcases this with rfl | rfl | rfl | rfl | rfl | rfl | rfl
    · intro j hj
      have hj : j < 6 := hj
      have : j = 0 ∨ j = 1 ∨ j = 2 ∨ j = 3 ∨ j = 4 ∨ j = 5 := by omega
      rcases this with rfl | rfl | rfl | rfl | rfl | rfl
      · exact hs _ (by decide +kernel)
      · exact hs _ (by decide +kernel)
      · exact hs _ (by decide +kernel)
      · exact hs _ (by decide +kernel)
      · exact hs _ (by decide +kernel)
      · exact hs _ (by decide +kernel)
    · intro j hj
      have hj : j < 1 := hj
      have : j = 0 := by omega
      rcases this with rfl
      · exact hs _ (by decide +kernel)
    · intro j hj
      have hj : j < 6 := hj
      have : j = 0 ∨ j = 1 ∨ j = 2 ∨ j = 3 ∨ j = 4 ∨ j = 5 := by omega
      rcases this with rfl | rfl | rfl | rfl | rfl | rfl
      · exact hs _ (by decide +kernel)
      · exact hs _ (by decide +kernel)
      · exact hs _ (by decide +kernel)
      · exact hs _ (by decide +kernel)
      · exact hs _ (by decide +kernel)
      · exact hs _ (by decide +kernel)
    · intro j hj
      have hj : j < 5 := hj
      have : j = 0 ∨ j = 1 ∨ j = 2 ∨ j = 3 ∨ j = 4 := by omega
      rcases this with rfl | rfl | rfl | rfl | rfl
      · exact hs _ (by decide +kernel)
      · exact hs _ (by decide +kernel)
      · exact hs _ (by decide +kernel)
      · exact hs _ (by decide +kernel)
      · exact hs _ (by decide +kernel)
    · intro j hj
      have hj : j < 4 := hj
      have : j = 0 ∨ j = 1 ∨ j = 2 ∨ j = 3 := by omega
      rcases this with rfl | rfl | rfl | rfl
      · exact hs _ (by decide +kernel)
      · exact hs _ (by decide +kernel)
      · exact hs _ (by decide +kernel)
      · exact hs _ (by decide +kernel)
    · intro j hj
      have hj : j < 3 := hj
      have : j = 0 ∨ j = 1 ∨ j = 2 := by omega
      rcases this with rfl | rfl | rfl
      · exact hs _ (by decide +kernel)
      · exact hs _ (by decide +kernel)
      · exact hs _ (by decide +kernel)
    · intro j hj
      have hj : j < 4 := hj
      have : j = 0 ∨ j = 1 ∨ j = 2 ∨ j = 3 := by omega
      rcases this with rfl | rfl | rfl | rfl
      · exact hs _ (by decide +kernel)
      · exact hs _ (by decide +kernel)
      · exact hs _ (by decide +kernel)
      · exact hs _ (by decide +kernel)
  · intro i j hi hj hij
    rcases Nat.lt_or_gt_of_ne hij with q | q
    · left
      exact st_ne hs i j hj q
    · right
      exact st_ne hs j i hi q
theorem st_row {args : Array Value} {s : State} (hs : ∀ c ∈ flatC (Jvm.Cond.and given_1 narrow_1), c.before args s = true) (hts : ∀ c ∈ lw_tbl, c.before args s = true) {A : Nat → Prop} (hA : ∀ a : Nat, a < s.heap.size → ¬ A a) : ∀ i, ∃ t : Nat, i < 2 → va_Z "SyntaxRepair" (nmS i) "[I" (.ref t) A s s.heap ∧ va_T .int t 14 (fun j => .int (mv i j)) A s s.heap := by
  intro i
  by_cases hi : i < 2
  · have hi2 : i = 0 ∨ i = 1 := by omega
    rcases hi2 with rfl | rfl
    · obtain ⟨t, ht, hT⟩ := va_Tof (tm := Term.static "SyntaxRepair" "MOVE_OPERATIONS" "[I") (ty := .int) (N := 14) (f := fun j => .int (mv 0 j)) (A := A) (by decide) (hs _ (by decide +kernel)) (va_eqt (z := 14) (hs _ (by decide +kernel))) (fun j hj => by
        have : j = 0 ∨ j = 1 ∨ j = 2 ∨ j = 3 ∨ j = 4 ∨ j = 5 ∨ j = 6 ∨ j = 7 ∨ j = 8 ∨ j = 9 ∨ j = 10 ∨ j = 11 ∨ j = 12 ∨ j = 13 := by omega
        rcases this with rfl | rfl | rfl | rfl | rfl | rfl | rfl | rfl | rfl | rfl | rfl | rfl | rfl | rfl
        · exact va_eqt (hs _ (by decide +kernel))
        · exact va_eqt (hs _ (by decide +kernel))
        · exact va_eqt (hs _ (by decide +kernel))
        · exact va_eqt (hs _ (by decide +kernel))
        · exact va_eqt (hs _ (by decide +kernel))
        · exact va_eqt (hs _ (by decide +kernel))
        · exact va_eqt (hs _ (by decide +kernel))
        · exact va_eqt (hs _ (by decide +kernel))
        · exact va_eqt (hs _ (by decide +kernel))
        · exact va_eqt (hs _ (by decide +kernel))
        · exact va_eqt (hs _ (by decide +kernel))
        · exact va_eqt (hs _ (by decide +kernel))
        · exact va_eqt (hs _ (by decide +kernel))
        · exact va_eqt (hs _ (by decide +kernel))) hA
      exact ⟨t, fun _ => ⟨va_Zof (hts _ (List.mem_append_right _ (List.mem_of_getElem? (i := 733) (by decide +kernel)))) (hts _ (List.mem_append_right _ (List.mem_of_getElem? (i := 1) (by decide +kernel)))) ht hA, hT⟩⟩
    · obtain ⟨t, ht, hT⟩ := va_Tof (tm := Term.static "SyntaxRepair" "MOVE_KINDS" "[I") (ty := .int) (N := 14) (f := fun j => .int (mv 1 j)) (A := A) (by decide) (hs _ (by decide +kernel)) (va_eqt (z := 14) (hs _ (by decide +kernel))) (fun j hj => by
        have : j = 0 ∨ j = 1 ∨ j = 2 ∨ j = 3 ∨ j = 4 ∨ j = 5 ∨ j = 6 ∨ j = 7 ∨ j = 8 ∨ j = 9 ∨ j = 10 ∨ j = 11 ∨ j = 12 ∨ j = 13 := by omega
        rcases this with rfl | rfl | rfl | rfl | rfl | rfl | rfl | rfl | rfl | rfl | rfl | rfl | rfl | rfl
        · exact va_eqt (hs _ (by decide +kernel))
        · exact va_eqt (hs _ (by decide +kernel))
        · exact va_eqt (hs _ (by decide +kernel))
        · exact va_eqt (hs _ (by decide +kernel))
        · exact va_eqt (hs _ (by decide +kernel))
        · exact va_eqt (hs _ (by decide +kernel))
        · exact va_eqt (hs _ (by decide +kernel))
        · exact va_eqt (hs _ (by decide +kernel))
        · exact va_eqt (hs _ (by decide +kernel))
        · exact va_eqt (hs _ (by decide +kernel))
        · exact va_eqt (hs _ (by decide +kernel))
        · exact va_eqt (hs _ (by decide +kernel))
        · exact va_eqt (hs _ (by decide +kernel))
        · exact va_eqt (hs _ (by decide +kernel))) hA
      exact ⟨t, fun _ => ⟨va_Zof (hts _ (List.mem_append_right _ (List.mem_of_getElem? (i := 738) (by decide +kernel)))) (hts _ (List.mem_append_right _ (List.mem_of_getElem? (i := 1) (by decide +kernel)))) ht hA, hT⟩⟩
  · exact ⟨0, fun h => absurd h hi⟩
theorem st_K {args : Array Value} {s : State} (hts : ∀ c ∈ lw_tbl, c.before args s = true) : ∃ (D : va_G) (cA cQ : ClassId), va_K D vwCl [(cA, .int), (cQ, .object "SyntaxRepair$Situation")] s := by
  have hT : TB s := TB.of hts
  have hk : ∀ c ∈ Tk, c.before args s = true := hT.hts
  have key : ∀ k : Nat, ∃ (cC : ClassId) (iS : Nat → Nat), ∀ q : vw_C, vwCl[k]? = some q → u_Kn s q.1 q.2.1 q.2.2 cC iS := by
    intro k
    match k with
    | 0 =>
      obtain ⟨cC, iS, h⟩ := u_known (C := RX0) (T := TX0) (N := 5) (n := 5) hk iw_0 (hts _ (List.mem_append_right _ (List.mem_of_getElem? (i := 33) (by decide +kernel))))
      exact ⟨cC, iS, fun q hq => by cases hq; exact h⟩
    | 1 =>
      obtain ⟨cC, iS, h⟩ := u_known (C := RX1) (T := TX1) (N := 1) (n := 1) hk iw_1 (hts _ (List.mem_append_right _ (List.mem_of_getElem? (i := 58) (by decide +kernel))))
      exact ⟨cC, iS, fun q hq => by cases hq; exact h⟩
    | 2 =>
      obtain ⟨cC, iS, h⟩ := u_known (C := RX2) (T := TX2) (N := 2) (n := 2) hk iw_2 (hts _ (List.mem_append_right _ (List.mem_of_getElem? (i := 247) (by decide +kernel))))
      exact ⟨cC, iS, fun q hq => by cases hq; exact h⟩
    | 3 =>
      obtain ⟨cC, iS, h⟩ := u_known (C := RX3) (T := TX3) (N := 5) (n := 5) hk iw_3 (hts _ (List.mem_append_right _ (List.mem_of_getElem? (i := 139) (by decide +kernel))))
      exact ⟨cC, iS, fun q hq => by cases hq; exact h⟩
    | 4 =>
      obtain ⟨cC, iS, h⟩ := u_known (C := RX4) (T := TX4) (N := 3) (n := 3) hk iw_4 (hts _ (List.mem_append_right _ (List.mem_of_getElem? (i := 119) (by decide +kernel))))
      exact ⟨cC, iS, fun q hq => by cases hq; exact h⟩
    | 5 =>
      obtain ⟨cC, iS, h⟩ := u_known (C := RX5) (T := TX5) (N := 4) (n := 4) hk iw_5 (hts _ (List.mem_append_right _ (List.mem_of_getElem? (i := 173) (by decide +kernel))))
      exact ⟨cC, iS, fun q hq => by cases hq; exact h⟩
    | 6 =>
      obtain ⟨cC, iS, h⟩ := u_known (C := RX6) (T := TX6) (N := 3) (n := 3) hk iw_6 (hts _ (List.mem_append_right _ (List.mem_of_getElem? (i := 228) (by decide +kernel))))
      exact ⟨cC, iS, fun q hq => by cases hq; exact h⟩
    | 7 =>
      obtain ⟨cC, iS, h⟩ := u_known (C := RX7) (T := TX7) (N := 11) (n := 11) hk iw_7 (hts _ (List.mem_append_right _ (List.mem_of_getElem? (i := 165) (by decide +kernel))))
      exact ⟨cC, iS, fun q hq => by cases hq; exact h⟩
    | 8 =>
      obtain ⟨cC, iS, h⟩ := u_known (C := RX8) (T := TX8) (N := 3) (n := 3) hk iw_8 (hts _ (List.mem_append_right _ (List.mem_of_getElem? (i := 27) (by decide +kernel))))
      exact ⟨cC, iS, fun q hq => by cases hq; exact h⟩
    | 9 =>
      obtain ⟨cC, iS, h⟩ := u_known (C := RX9) (T := TX9) (N := 2) (n := 2) hk iw_9 (hts _ (List.mem_append_right _ (List.mem_of_getElem? (i := 82) (by decide +kernel))))
      exact ⟨cC, iS, fun q hq => by cases hq; exact h⟩
    | 10 =>
      obtain ⟨cC, iS, h⟩ := u_known (C := RX10) (T := TX10) (N := 7) (n := 7) hk iw_10 (hts _ (List.mem_append_right _ (List.mem_of_getElem? (i := 19) (by decide +kernel))))
      exact ⟨cC, iS, fun q hq => by cases hq; exact h⟩
    | 11 =>
      obtain ⟨cC, iS, h⟩ := u_known (C := RX11) (T := TX11) (N := 24) (n := 24) hk iw_11 (hts _ (List.mem_append_right _ (List.mem_of_getElem? (i := 809) (by decide +kernel))))
      exact ⟨cC, iS, fun q hq => by cases hq; exact h⟩
    | k + 12 => exact ⟨0, fun _ => 0, fun q hq => by simp [vwCl] at hq⟩
  have hD : ∃ (dC : Nat → ClassId) (dI : Nat → Nat → Nat), ∀ (k : Nat) (q : vw_C), vwCl[k]? = some q → u_Kn s q.1 q.2.1 q.2.2 (dC k) (dI k) :=
    ⟨fun k => Classical.choose (key k), fun k => Classical.choose (Classical.choose_spec (key k)), fun k => Classical.choose_spec (Classical.choose_spec (key k))⟩
  obtain ⟨dC, dI, hKc⟩ := hD
  obtain ⟨cA, kA, compA, a1, a2, a3⟩ := Cond.arrayClass_spec (type := .int) (hts _ (List.mem_append_right _ (List.mem_of_getElem? (i := 56) (by decide +kernel))))
  obtain ⟨comp, cQ, kQ, b1, -, b3, b4, b5⟩ := Cond.arrayOver_spec hT.2
  refine ⟨(dC, dI), cA, cQ, hKc, fun k q hq => ?_⟩
  match k, hq with
  | 0, hq => cases hq; exact ⟨fun n z => ⟨fun k h => (by cases h), kA, a2, compA, a3⟩, a1⟩
  | 1, hq => cases hq; exact ⟨fun n z => ⟨fun k h => (by cases h), kQ, b3, comp, b4⟩, kQ, comp, b3, b4, b1, b5⟩
  | k + 2, hq => simp at hq
theorem st_RO {args : Array Value} {s : State} (hgv : (Jvm.Cond.and given_1 narrow_1).before args s = true) (hts : ∀ c ∈ lw_tbl, c.before args s = true) : ∃ g : GX, g.1 = s.heap.size ∧ va_K g.2.1 vwCl (tyW g) s ∧ RO g s s.heap := by
  have hs := flat_of_before _ hgv
  have hA : ∀ a : Nat, a < s.heap.size → ¬ (fun q : Nat => s.heap.size ≤ q) a := fun a h => Nat.not_le.mpr h
  obtain ⟨D, cA, cQ, hK⟩ := st_K hts
  obtain ⟨adK, adV, hS, hev⟩ := st_vk hs hA
  have hr := st_row hs hts hA
  obtain ⟨ro, hro⟩ := Classical.axiomOfChoice hr
  refine ⟨(s.heap.size, D, cA, cQ, adK, adV, ro), rfl, hK, hS, fun i hi => ?_, fun i hi => hro i hi, ?_, ?_⟩
  · refine vk_R.of (A := args) ?_ (hev i hi)
    have : i = 0 ∨ i = 1 ∨ i = 2 ∨ i = 3 ∨ i = 4 ∨ i = 5 ∨ i = 6 := by omega
    rcases this with rfl | rfl | rfl | rfl | rfl | rfl | rfl
    · exact (hts _ (List.mem_append_right _ (List.mem_of_getElem? (i := 325) (by decide +kernel))))
    · exact (hts _ (List.mem_append_right _ (List.mem_of_getElem? (i := 392) (by decide +kernel))))
    · exact (hts _ (List.mem_append_right _ (List.mem_of_getElem? (i := 397) (by decide +kernel))))
    · exact (hts _ (List.mem_append_right _ (List.mem_of_getElem? (i := 403) (by decide +kernel))))
    · exact (hts _ (List.mem_append_right _ (List.mem_of_getElem? (i := 424) (by decide +kernel))))
    · exact (hts _ (List.mem_append_right _ (List.mem_of_getElem? (i := 425) (by decide +kernel))))
    · exact (hts _ (List.mem_append_right _ (List.mem_of_getElem? (i := 426) (by decide +kernel))))
  · exact va_Zof (hts _ (List.mem_append_right _ (List.mem_of_getElem? (i := 339) (by decide +kernel)))) (hts _ (List.mem_append_right _ (List.mem_of_getElem? (i := 13) (by decide +kernel)))) (va_eqt (hs _ (by decide +kernel))) hA
  · exact va_Zqof (hts _ (List.mem_append_right _ (List.mem_of_getElem? (i := 355) (by decide +kernel)))) (hts _ (List.mem_append_right _ (List.mem_of_getElem? (i := 15) (by decide +kernel)))) (hs _ (by decide +kernel)) hA
