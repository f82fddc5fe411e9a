/-! words, digits and kinds -/
def wdL : List (List Nat) := [[115, 116, 97, 116, 101, 115], [59], [97, 99, 99, 101, 112, 116], [115, 104, 105, 102, 116], [112, 117, 115, 104], [112, 111, 112], [99, 111, 115, 116]]
def wd (a x : Nat) : Nat := (wdL.getD a []).getD x 0
theorem wd_ok : ∀ a, a < 7 → lenS.getD a 0 = (wdL.getD a []).length ∧ lenS.getD a 0 ≤ 6 ∧ 1 ≤ lenS.getD a 0 ∧ ∀ x, x < lenS.getD a 0 → sch a x = nI (wd a x) ∧ wd a x < 256 := by decide +kernel
def isWd (T : Nat → Nat) (len a s : Nat) : Prop := exn T len s - s = lenS.getD a 0 ∧ ∀ x, x < lenS.getD a 0 → T (s + x) = wd a x
def isDg (T : Nat → Nat) (len lo hi s : Nat) : Prop := exn T len s - s = 1 ∧ 48 + lo ≤ T s ∧ T s ≤ 48 + hi
def isKd (T : Nat → Nat) (len s : Nat) : Prop := exn T len s - s = 1 ∧ 97 ≤ T s ∧ T s ≤ 102
def nx (T : Nat → Nat) (len s : Nat) : Nat := sk T len (exn T len s)
def LX (M : Mm) (len : Nat) (T : Nat → Nat) (s : Nat) : Prop := TxC M len T ∧ M 93 3 = nI s ∧ M 93 4 = nI (exn T len s) ∧ s ≤ len
theorem nx_le {T : Nat → Nat} {len s : Nat} (h : s ≤ len) : nx T len s ≤ len ∧ s ≤ nx T len s ∧ (s < len → s < nx T len s) := by
  have h1 := en_le (T := T) h
  have h2 := sk_le (T := T) h1.2.1
  unfold nx
  exact ⟨h2.2, by omega, fun z => by have := h1.2.2 z; omega⟩
theorem c_nextLX {fu : Nat} {post : Mm → Prop} {len s : Nat} {T : Nat → Nat} {M : Mm} (hf : 1300 ≤ fu) (hl : len ≤ 150) (hch : ∀ i, i < len → T i < 256) (hX : LX M len T s) (h : ∀ M', LX M' len T (nx T len s) → fr93 M M' → post M') : f_Gt_nextLexeme fu post 93 M := by
  obtain ⟨h1, h2, h3, h4⟩ := hX
  exact c_next hf hl hch h1 (en_le (T := T) h4).2.1 h3 (fun M' a1 a2 a3 => h M' ⟨h1.fr a3, a1, a2, (nx_le (T := T) h4).1⟩ a3)
theorem LX.ch {M : Mm} {len s : Nat} {T : Nat → Nat} (hX : LX M len T s) : M 93 4 - M 93 3 = nI (exn T len s - s) := by
  rw [hX.2.1, hX.2.2.1, pk_sub (en_le (T := T) hX.2.2.2).1]
theorem c_takeWord {fu : Nat} {post : Int32 → Mm → Prop} {len s a : Nat} {T : Nat → Nat} {M : Mm} (hf : 1300 ≤ fu) (hl : len ≤ 150) (hch : ∀ i, i < len → T i < 256) (hX : LX M len T s) (ha : a < 7) (h1 : isWd T len a s → ∀ M', LX M' len T (nx T len s) → fr93 M M' → post 1 M') (h0 : ¬ isWd T len a s → post 0 M) : f_Gt_takeWord fu post 93 a M := by
  obtain ⟨w1, w2, w2', w3⟩ := wd_ok a ha
  have he := en_le (T := T) hX.2.2.2
  unfold f_Gt_takeWord
  rw [hX.ch]
  refine pk_eq (exn T len s - s) (lenS.getD a 0) (fun z => ?_) (fun z => h0 (fun y => z y.1))
  have lp : ∀ kf x, 8 ≤ kf + x → x ≤ lenS.getD a 0 → (∀ j, j < x → T (s + j) = wd a j) → f_Gt_takeWord_20 fu post kf 93 a (nI x) M := by
    intro kf
    induction kf with
    | zero => intro x b1 b2; omega
    | succ kf ih =>
      intro x b1 b2 b3
      rw [f_Gt_takeWord_20]
      refine pk_le (lenS.getD a 0) x (fun z2 => ?_) (fun z2 => ?_)
      · exact c_nextLX hf hl hch hX (h1 ⟨z, fun j hj => b3 j (by omega)⟩)
      · rw [hX.2.1, nI_add]
        refine s_at (r := 93 + 1) (by rw [show 93 + 1 = 94 from rfl, ln_C.1]; omega) ?_
        obtain ⟨c1, c2⟩ := w3 x z2
        rw [show 93 + 1 = 94 from rfl, hX.1.2 (s + x) (by omega), nI_clamp (by omega), c1]
        have ht := hch (s + x) (by omega)
        refine ⟨vp_in_nI z2 (by omega), pk_eq (T (s + x)) (wd a x) (fun z3 y ey => ?_) (fun z3 => h0 (fun y => z3 (y.2 x z2)))⟩
        rw [ey, nI_1]
        refine ih (x + 1) (by omega) (by omega) (fun j hj => ?_)
        by_cases y : j = x
        · rw [y]; exact z3
        · exact b3 j (by omega)
  exact lp fu 0 (by omega) (by omega) (fun j hj => absurd hj (by omega))
theorem nI_neg {a b : Nat} (ha : a < 2 ^ 30) (hb : b < 2 ^ 30) (h : a < b) : nI a - nI b < 0 := by
  rw [Int32.lt_iff_toInt_lt]
  have e1 : (nI a).toInt = a := nI_toInt (by omega)
  have e2 : (nI b).toInt = b := nI_toInt (by omega)
  rw [Int32.toInt_sub, e1, e2]
  show Int.bmod ((a : Int) - b) (2 ^ 32) < 0
  rw [Int.bmod_eq_of_le (by omega) (by omega)]
  omega
theorem nI_lt0 {x : Int32} {k : Nat} (hk : k < 2 ^ 31) (h : x < 0) : x < nI k := Std.lt_of_lt_of_le h (nI_pos' hk)
theorem c_takeDigit {fu : Nat} {post : Int32 → Mm → Prop} {len s lo hi : Nat} {T : Nat → Nat} {M : Mm} (hf : 1300 ≤ fu) (hl : len ≤ 150) (hch : ∀ i, i < len → T i < 256) (hX : LX M len T s) (hlo : lo < 100) (hhi : hi < 100) (h1 : isDg T len lo hi s → ∀ M', LX M' len T (nx T len s) → fr93 M M' → post (nI (T s - 48)) M') (h0 : ¬ isDg T len lo hi s → post (-1) M) : f_Gt_takeDigit fu post 93 (nI lo) (nI hi) M := by
  have he := en_le (T := T) hX.2.2.2
  unfold f_Gt_takeDigit
  rw [hX.ch]
  refine pk_eq (exn T len s - s) 1 (fun z => ?_) (fun z => ?_)
  · rw [hX.2.1]
    refine s_at (r := 93 + 1) (by rw [show 93 + 1 = 94 from rfl, ln_C.1]; omega) ?_
    rw [show 93 + 1 = 94 from rfl, hX.1.2 s (by omega)]
    have ht := hch s (by omega)
    unfold f_Gt_takeDigit_31
    rw [show (48 : Int32) = nI 48 from rfl]
    by_cases q : T s < 48
    · exact br_t (nI_lt0 (by omega) (nI_neg (by omega) (by omega) q)) (h0 (fun y => by have := y.2.1; omega))
    · rw [pk_sub (by omega)]
      refine pk_lt (T s - 48) lo (fun z2 => h0 (fun y => by have := y.2.1; omega)) (fun z2 => pk_le (T s - 48) hi (fun z3 => ?_) (fun z3 => h0 (fun y => by have := y.2.2; omega)))
      exact c_nextLX hf hl hch hX (h1 ⟨z, by omega, by omega⟩)
  · unfold f_Gt_takeDigit_31
    exact br_t (nI_lt0 (by omega) (by decide)) (h0 (fun y => z y.1))
theorem c_kindHere {fu : Nat} {post : Int32 → Mm → Prop} {len s : Nat} {T : Nat → Nat} {M : Mm} (hl : len ≤ 150) (hch : ∀ i, i < len → T i < 256) (hX : LX M len T s) (h1 : isKd T len s → post (nI (T s - 97)) M) (h0 : ¬ isKd T len s → post (-1) M) : f_Gt_kindHere fu post 93 M := by
  have he := en_le (T := T) hX.2.2.2
  unfold f_Gt_kindHere
  rw [hX.ch]
  refine pk_eq (exn T len s - s) 1 (fun z => ?_) (fun z => ?_)
  · rw [hX.2.1]
    refine s_at (r := 93 + 1) (by rw [show 93 + 1 = 94 from rfl, ln_C.1]; omega) ?_
    rw [show 93 + 1 = 94 from rfl, hX.1.2 s (by omega)]
    have ht := hch s (by omega)
    unfold f_Gt_kindHere_31
    rw [show (97 : Int32) = nI 97 from rfl]
    by_cases q : T s < 97
    · refine s_isKind (fun k hk e => absurd (e ▸ nI_neg (a := T s) (b := 97) (by omega) (by omega) q) (nI_pos (by omega))) (fun _ => br_t rfl (h0 (fun y => by have := y.2.1; omega)))
    · rw [pk_sub (by omega)]
      refine s_isKind (fun k hk e => br_f (by decide) (h1 ⟨z, by omega, ?_⟩)) (fun y => br_t rfl (h0 (fun w => y ⟨T s - 97, by have := w.2.2; omega, rfl⟩)))
      have := (nI_eq (by omega) (by omega)).1 e
      omega
  · unfold f_Gt_kindHere_31
    exact s_isKind (fun k hk e => absurd (show (-1 : Int32) < 0 by decide) (e ▸ nI_pos (by omega))) (fun _ => br_t rfl (h0 (fun y => z y.1)))
/-! the same in the model's terms -/
theorem lx_cases {T : Nat → Nat} {len s : Nat} (hs : s ≤ len) : (s = len ∧ lxc T len s = 1000 ∧ exn T len s - s = 0) ∨ (s < len ∧ isL (T s) = true ∧ lxc T len s = 1001 ∧ exn T len s = lr T len s ∧ s < lr T len s) ∨ (s < len ∧ isL (T s) = false ∧ lxc T len s = T s ∧ exn T len s = s + 1) := by
  by_cases z : s = len
  · refine Or.inl ⟨z, by unfold lxc; rw [if_pos z], by rw [z, en_end]; omega⟩
  · cases hb : isL (T s) with
    | true =>
      obtain ⟨a1, a2⟩ := en_let (T := T) (len := len) (show s < len by omega) hb
      exact Or.inr (Or.inl ⟨by omega, rfl, by unfold lxc; rw [if_neg z, if_pos hb], a1, a2⟩)
    | false =>
      obtain ⟨a1, a2⟩ := en_one (T := T) (len := len) (show s < len by omega) hb
      exact Or.inr (Or.inr ⟨by omega, rfl, by unfold lxc; rw [if_neg z, if_neg (by rw [hb]; decide)], a2⟩)
theorem isL_f {c : Nat} (h : isL c = false) : ¬ (97 ≤ c ∧ c ≤ 122) := fun y => by rw [isL_iff.2 y] at h; cases h
theorem dg_iff {T : Nat → Nat} {len lo hi s : Nat} (hs : s ≤ len) (hhi : hi ≤ 9) : (isDg T len lo hi s ↔ 48 + lo ≤ lxc T len s ∧ lxc T len s ≤ 48 + hi) ∧ (isDg T len lo hi s → lxc T len s = T s) := by
  unfold isDg
  rcases lx_cases (T := T) hs with ⟨a1, a2, a3⟩ | ⟨a1, a2, a3, a4, a5⟩ | ⟨a1, a2, a3, a4⟩
  · rw [a2, a3]
    exact ⟨⟨fun y => by omega, fun y => by omega⟩, fun y => by omega⟩
  · have := isL_iff.1 a2
    rw [a3]
    exact ⟨⟨fun y => by omega, fun y => by omega⟩, fun y => by omega⟩
  · rw [a3]
    exact ⟨⟨fun y => y.2, fun y => ⟨by omega, y⟩⟩, fun _ => rfl⟩
theorem semi_iff {T : Nat → Nat} {len s : Nat} (hs : s ≤ len) : isWd T len 1 s ↔ lxc T len s = 59 := by
  unfold isWd
  rw [show lenS.getD 1 0 = 1 from rfl]
  have e : ∀ x, x < 1 → (T (s + x) = wd 1 x ↔ T s = 59) := fun x hx => by rw [show x = 0 by omega]; exact Iff.rfl
  rcases lx_cases (T := T) hs with ⟨a1, a2, a3⟩ | ⟨a1, a2, a3, a4, a5⟩ | ⟨a1, a2, a3, a4⟩
  · exact ⟨fun y => by omega, fun y => by omega⟩
  · have := isL_iff.1 a2
    exact ⟨fun y => by have := (e 0 (by omega)).1 (y.2 0 (by omega)); omega, fun y => by omega⟩
  · rw [a3]
    exact ⟨fun y => (e 0 (by omega)).1 (y.2 0 (by omega)), fun y => ⟨by omega, fun x hx => (e x hx).2 y⟩⟩
theorem wcf_pos {T : Nat → Nat} {n s : Nat} (h : isL (T s) = true) : 1 ≤ wcf T (n + 1) s := by
  have := isL_iff.1 h
  rw [wcf]; omega
theorem wcf_inj {T W : Nat → Nat} : ∀ n m s k, (∀ j, j < n → isL (T (s + j)) = true) → (∀ j, j < m → isL (W (k + j)) = true) → wcf T n s = wcf W m k → n = m ∧ ∀ j, j < n → T (s + j) = W (k + j)
  | 0, 0, _, _, _, _, _ => ⟨rfl, fun j hj => absurd hj (by omega)⟩
  | 0, m + 1, s, k, _, hW, e => by
    have h1 : 1 ≤ wcf W (m + 1) k := wcf_pos (hW 0 (by omega))
    have h2 : 0 = wcf W (m + 1) k := e
    omega
  | n + 1, 0, s, k, hT, _, e => by
    have h1 : 1 ≤ wcf T (n + 1) s := wcf_pos (hT 0 (by omega))
    have h2 : wcf T (n + 1) s = 0 := e
    omega
  | n + 1, m + 1, s, k, hT, hW, e => by
    have h1 := isL_iff.1 (hT 0 (by omega))
    have h2 := isL_iff.1 (hW 0 (by omega))
    rw [Nat.add_zero] at h1 h2
    rw [wcf, wcf] at e
    have e1 : T s = W k := by omega
    obtain ⟨g1, g2⟩ := wcf_inj n m (s + 1) (k + 1) (fun j hj => by rw [show s + 1 + j = s + (j + 1) by omega]; exact hT _ (by omega)) (fun j hj => by rw [show k + 1 + j = k + (j + 1) by omega]; exact hW _ (by omega)) (by omega)
    refine ⟨by omega, fun j hj => ?_⟩
    cases j with
    | zero => exact e1
    | succ j =>
      have := g2 j (by omega)
      rwa [show s + 1 + j = s + (j + 1) by omega, show k + 1 + j = k + (j + 1) by omega] at this
def cdL : List Nat := [643434131, 0, 688032865, 21177619, 282288, 16880, 675299]
theorem cd_ok : ∀ a, a < 7 → a ≠ 1 → wcf (wd a) (lenS.getD a 0) 0 = cdL.getD a 0 ∧ ∀ j, j < lenS.getD a 0 → isL (wd a (0 + j)) = true := by decide +kernel
theorem wd_iff {T : Nat → Nat} {len s a : Nat} (hs : s ≤ len) (ha : a < 7) (h1 : a ≠ 1) : isWd T len a s ↔ lxc T len s = 1001 ∧ wcd T len s = cdL.getD a 0 := by
  obtain ⟨w1, w2, w2', w3⟩ := wd_ok a ha
  obtain ⟨c1, c2⟩ := cd_ok a ha h1
  have hl := (lrn_le (T := T) (len := len) (len - s) s hs).2.2
  unfold isWd
  rcases lx_cases (T := T) hs with ⟨a1, a2, a3⟩ | ⟨a1, a2, a3, a4, a5⟩ | ⟨a1, a2, a3, a4⟩
  · rw [a2, a3]
    exact ⟨fun y => by omega, fun y => by omega⟩
  · rw [a3, a4]
    unfold wcd
    refine ⟨fun y => ⟨rfl, ?_⟩, fun y => ?_⟩
    · have y1 := y.1
      rw [if_pos ⟨a1, a2, by omega⟩, y.1, ← c1]
      have g : ∀ n s k, (∀ x, x < n → T (s + x) = wd a (k + x)) → wcf T n s = wcf (wd a) n k := by
        intro n
        induction n with
        | zero => intro _ _ _; rfl
        | succ n ih =>
          intro s k hx
          rw [wcf, wcf, ih (s + 1) (k + 1) (fun x hx2 => by rw [show s + 1 + x = s + (x + 1) by omega, show k + 1 + x = k + (x + 1) by omega]; exact hx _ (by omega))]
          have := hx 0 (by omega)
          rw [Nat.add_zero, Nat.add_zero] at this
          rw [this]
      exact g _ _ 0 (fun x hx => by rw [Nat.zero_add]; exact y.2 x hx)
    · have hc : 1 ≤ cdL.getD a 0 := by
        rw [← c1]
        obtain ⟨n, hn⟩ : ∃ n, lenS.getD a 0 = n + 1 := ⟨lenS.getD a 0 - 1, by omega⟩
        have := c2 0 (by omega)
        rw [hn]; exact wcf_pos this
      by_cases z : lr T len s - s < 8
      · rw [if_pos ⟨a1, a2, z⟩, ← c1] at y
        obtain ⟨g1, g2⟩ := wcf_inj _ _ _ _ (fun j hj => hl (s + j) (by omega) (show s + j < lr T len s by omega)) c2 y.2
        exact ⟨g1, fun x hx => by have := g2 x (by omega); rwa [Nat.zero_add] at this⟩
      · rw [if_neg (fun q => z q.2.2)] at y
        omega
  · rw [a3]
    have := isL_f a2
    refine ⟨fun y => ?_, fun y => ?_⟩
    · have e1 := y.2 0 (by omega)
      have e2 := c2 0 (by omega)
      rw [Nat.add_zero] at e1 e2
      exact absurd (isL_iff.1 e2) (by rw [← e1]; exact this)
    · exfalso
      have ey := y.2
      unfold wcd at ey
      rw [if_neg (fun q => by rw [a2] at q; cases q.2.1)] at ey
      have hc : 1 ≤ cdL.getD a 0 := by
        rw [← c1]
        obtain ⟨n, hn⟩ : ∃ n, lenS.getD a 0 = n + 1 := ⟨lenS.getD a 0 - 1, by omega⟩
        have := c2 0 (by omega)
        rw [hn]; exact wcf_pos this
      omega
theorem kd_iff {T : Nat → Nat} {len s : Nat} (hs : s ≤ len) : (isKd T len s ↔ lxc T len s = 1001 ∧ 0 < wcd T len s ∧ wcd T len s ≤ 6) ∧ (isKd T len s → wcd T len s = T s - 97 + 1) := by
  have hl := (lrn_le (T := T) (len := len) (len - s) s hs).2.2
  unfold isKd
  rcases lx_cases (T := T) hs with ⟨a1, a2, a3⟩ | ⟨a1, a2, a3, a4, a5⟩ | ⟨a1, a2, a3, a4⟩
  · rw [a2, a3]
    exact ⟨⟨fun y => by omega, fun y => by omega⟩, fun y => by omega⟩
  · rw [a3, a4]
    unfold wcd
    have hT := isL_iff.1 a2
    obtain ⟨n, hn⟩ : ∃ n, lr T len s - s = n + 1 := ⟨lr T len s - s - 1, by omega⟩
    rw [hn]
    cases n with
    | zero =>
      rw [if_pos ⟨a1, a2, by omega⟩, wcf, show wcf T 0 (s + 1) = 0 from rfl]
      exact ⟨⟨fun y => by omega, fun y => by omega⟩, fun y => by omega⟩
    | succ n =>
      have hp := wcf_pos (T := T) (n := n) (s := s + 1) (hl (s + 1) (by omega) (show s + 1 < lr T len s by omega))
      refine ⟨⟨fun y => by omega, fun y => ?_⟩, fun y => by omega⟩
      by_cases z : n + 1 + 1 < 8
      · rw [if_pos ⟨a1, a2, z⟩, wcf] at y
        omega
      · rw [if_neg (fun q => z q.2.2)] at y
        omega
  · have := isL_f a2
    have ez : wcd T len s = 0 := by unfold wcd; rw [if_neg (fun q => by rw [a2] at q; cases q.2.1)]
    rw [a3, ez]
    exact ⟨⟨fun y => by omega, fun y => by omega⟩, fun y => by omega⟩
