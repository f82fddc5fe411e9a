/-! lexemes of the text -/
def isL (c : Nat) : Bool := decide (97 ≤ c) && decide (c ≤ 122)
def skp (T : Nat → Nat) (len : Nat) : Nat → Nat → Nat
  | 0, i => i
  | f + 1, i => if i < len ∧ T i = 32 then skp T len f (i + 1) else i
def lrn (T : Nat → Nat) (len : Nat) : Nat → Nat → Nat
  | 0, i => i
  | f + 1, i => if i < len ∧ isL (T i) = true then lrn T len f (i + 1) else i
def sk (T : Nat → Nat) (len i : Nat) : Nat := skp T len (len - i) i
def lr (T : Nat → Nat) (len s : Nat) : Nat := lrn T len (len - s) s
def exn (T : Nat → Nat) (len s : Nat) : Nat := if lr T len s = s then (if s < len then s + 1 else s) else lr T len s
theorem skp_le {T : Nat → Nat} {len : Nat} : ∀ f i, i ≤ len → i ≤ skp T len f i ∧ skp T len f i ≤ len
  | 0, i, h => ⟨Nat.le_refl _, h⟩
  | f + 1, i, h => by
    unfold skp
    split
    · rename_i q
      have := skp_le (T := T) (len := len) f (i + 1) (by omega)
      omega
    · exact ⟨Nat.le_refl _, h⟩
theorem lrn_le {T : Nat → Nat} {len : Nat} : ∀ f i, i ≤ len → i ≤ lrn T len f i ∧ lrn T len f i ≤ len ∧ ∀ j, i ≤ j → j < lrn T len f i → isL (T j) = true
  | 0, i, h => ⟨Nat.le_refl _, h, fun j a b => absurd (show j < i from b) (by omega)⟩
  | f + 1, i, h => by
    unfold lrn
    by_cases q : i < len ∧ isL (T i) = true
    · rw [if_pos q]
      obtain ⟨h1, h2, h3⟩ := lrn_le (T := T) (len := len) f (i + 1) (by omega)
      refine ⟨by omega, h2, fun j a b => ?_⟩
      by_cases z : j = i
      · rw [z]; exact q.2
      · exact h3 j (by omega) b
    · rw [if_neg q]
      exact ⟨Nat.le_refl _, h, fun j a b => absurd b (by omega)⟩
theorem sk_le {T : Nat → Nat} {len i : Nat} (h : i ≤ len) : i ≤ sk T len i ∧ sk T len i ≤ len := skp_le _ _ h
theorem en_le {T : Nat → Nat} {len s : Nat} (h : s ≤ len) : s ≤ exn T len s ∧ exn T len s ≤ len ∧ (s < len → s < exn T len s) := by
  have h1 := lrn_le (T := T) (len := len) (len - s) s h
  unfold exn lr
  split
  · split <;> omega
  · omega
theorem en_one {T : Nat → Nat} {len s : Nat} (hs : s < len) (h : isL (T s) = false) : lr T len s = s ∧ exn T len s = s + 1 := by
  have e : lr T len s = s := by
    unfold lr
    obtain ⟨f, hf⟩ : ∃ f, len - s = f + 1 := ⟨len - s - 1, by omega⟩
    rw [hf, lrn, if_neg (fun q => by rw [h] at q; cases q.2)]
  refine ⟨e, ?_⟩
  unfold exn
  rw [if_pos e, if_pos hs]
theorem en_let {T : Nat → Nat} {len s : Nat} (hs : s < len) (h : isL (T s) = true) : exn T len s = lr T len s ∧ s < lr T len s := by
  have e : s < lr T len s := by
    unfold lr
    obtain ⟨f, hf⟩ : ∃ f, len - s = f + 1 := ⟨len - s - 1, by omega⟩
    rw [hf, lrn, if_pos ⟨hs, h⟩]
    have := lrn_le (T := T) (len := len) f (s + 1) (by omega)
    omega
  refine ⟨?_, e⟩
  unfold exn
  rw [if_neg (by omega)]
theorem en_end {T : Nat → Nat} {len : Nat} : exn T len len = len := by
  have := en_le (T := T) (Nat.le_refl len)
  omega
/-- the text in the class -/
def TxC (M : Mm) (len : Nat) (T : Nat → Nat) : Prop := M 93 2 = nI len ∧ ∀ i, i < len → M 94 i = nI (T i)
def TxM (M : Mm) (len : Nat) (T : Nat → Nat) : Prop := M 145 5 = nI len ∧ ∀ i, i < len → M 149 i = nI (T i)
theorem c_isLetter {fu : Nat} {post : Int32 → Mm → Prop} {c : Nat} {M : Mm} (hc : c < 256) (h : post (if isL c = true then 1 else 0) M) : f_Gt_isLetter fu post (nI c) M := by
  unfold isL at h
  unfold f_Gt_isLetter
  refine pk_lt c 97 (fun z => ?_) (fun z => pk_lt 122 c (fun z2 => ?_) (fun z2 => ?_))
  · have : ¬ 97 ≤ c := by omega
    simpa [this] using h
  · have : ¬ c ≤ 122 := by omega
    simpa [this] using h
  · simpa [z, z2] using h
def fr93 (M M' : Mm) : Prop := (∀ c, c ≠ 93 → M' c = M c) ∧ ∀ k, k ≠ 3 → k ≠ 4 → M' 93 k = M 93 k
theorem fr93.trans {M M1 M2 : Mm} (h : fr93 M M1) (h2 : fr93 M1 M2) : fr93 M M2 := ⟨fun c a => (h2.1 c a).trans (h.1 c a), fun k a b => (h2.2 k a b).trans (h.2 k a b)⟩
theorem TxC.fr {M M' : Mm} {len : Nat} {T : Nat → Nat} (h : TxC M len T) (k : fr93 M M') : TxC M' len T := ⟨by rw [k.2 2 (by omega) (by omega)]; exact h.1, fun i hi => by rw [k.1 94 (by omega)]; exact h.2 i hi⟩
theorem c_next_97 {fu : Nat} {post : Mm → Prop} {len s e : Nat} {T : Nat → Nat} {M : Mm} (hl : len ≤ 150) (hT : TxC M len T) (h3 : M 93 3 = nI s) (h4 : M 93 4 = nI e) (hs : s ≤ len) (he : e ≤ len)
    (h : ∀ M', M' 93 3 = nI s → M' 93 4 = nI (if e = s then (if s < len then s + 1 else s) else e) → fr93 M M' → post M') : f_Gt_nextLexeme_97 fu post 93 M := by
  unfold f_Gt_nextLexeme_97
  rw [h4, h3, hT.1]
  refine pk_eq e s (fun z => pk_le len e (fun z2 => ?_) (fun z2 M1 e1 => ?_)) (fun z => ?_)
  · refine h M h3 ?_ ⟨fun _ _ => rfl, fun _ _ _ => rfl⟩
    rw [if_pos z, if_neg (by omega), ← z]; exact h4
  · rw [nI_1] at e1
    refine h M1 (by rw [e1, up_k (by omega)]; exact h3) ?_ ⟨fun c hc => by rw [e1, up_c hc], fun k _ hk => by rw [e1, up_k hk]⟩
    rw [if_pos z, if_pos (by omega), e1, up_s, z]
  · refine h M h3 ?_ ⟨fun _ _ => rfl, fun _ _ _ => rfl⟩
    rw [if_neg z]; exact h4
theorem c_next {fu : Nat} {post : Mm → Prop} {len i : Nat} {T : Nat → Nat} {M : Mm} (hf : 1300 ≤ fu) (hl : len ≤ 150) (hch : ∀ i, i < len → T i < 256) (hT : TxC M len T) (hi : i ≤ len) (h4 : M 93 4 = nI i)
    (h : ∀ M', M' 93 3 = nI (sk T len i) → M' 93 4 = nI (exn T len (sk T len i)) → fr93 M M' → post M') : f_Gt_nextLexeme fu post 93 M := by
  have run : ∀ f kf s e (M1 : Mm), len - e ≤ f → f + 1 ≤ kf → s ≤ e → e ≤ len → M1 93 3 = nI s → M1 93 4 = nI e → fr93 M M1 → (∀ M', M' 93 3 = nI s → M' 93 4 = nI (if lrn T len f e = s then (if s < len then s + 1 else s) else lrn T len f e) → fr93 M M' → post M') → f_Gt_nextLexeme_56 fu post kf 93 M1 := by
    intro f
    induction f with
    | zero =>
      intro kf s e M1 a1 a2 a3 a4 b3 b4 fr hh
      obtain ⟨kf, rfl⟩ : ∃ k, kf = k + 1 := ⟨kf - 1, by omega⟩
      rw [f_Gt_nextLexeme_56]
      have hT1 := hT.fr fr
      rw [hT1.1, b4]
      refine pk_le len e (fun z => ?_) (fun z => by omega)
      exact c_next_97 hl hT1 b3 b4 (by omega) a4 (fun M' c3 c4 c5 => hh M' c3 c4 (fr.trans c5))
    | succ f ih =>
      intro kf s e M1 a1 a2 a3 a4 b3 b4 fr hh
      obtain ⟨kf, rfl⟩ : ∃ k, kf = k + 1 := ⟨kf - 1, by omega⟩
      rw [f_Gt_nextLexeme_56]
      have hT1 := hT.fr fr
      rw [hT1.1, b4]
      rw [lrn] at hh
      refine pk_le len e (fun z => ?_) (fun z => ?_)
      · rw [if_neg (show ¬ (e < len ∧ isL (T e) = true) from fun y => by omega)] at hh
        exact c_next_97 hl hT1 b3 b4 (by omega) a4 (fun M' c3 c4 c5 => hh M' c3 c4 (fr.trans c5))
      · refine s_at (r := 93 + 1) (by rw [show 93 + 1 = 94 from rfl, ln_C.1]; omega) ?_
        rw [show 93 + 1 = 94 from rfl, hT1.2 e z]
        refine c_isLetter (hch e z) ?_
        cases hb : isL (T e) with
        | false =>
          rw [if_neg (show ¬ (e < len ∧ isL (T e) = true) from fun y => by rw [hb] at y; cases y.2)] at hh
          rw [if_neg (by decide)]
          exact br_t (by rfl) (c_next_97 hl hT1 b3 b4 (by omega) a4 (fun M' c3 c4 c5 => hh M' c3 c4 (fr.trans c5)))
        | true =>
          rw [if_pos (show e < len ∧ isL (T e) = true from ⟨z, hb⟩)] at hh
          rw [if_pos rfl]
          refine br_f (by decide) (fun M5 e5 => ?_)
          rw [b4, nI_1] at e5
          exact ih kf s (e + 1) M5 (by omega) (by omega) (by omega) (by omega) (by rw [e5, up_k (by omega)]; exact b3) (by rw [e5, up_s]) (fr.trans ⟨fun c hc => by rw [e5, up_c hc], fun k _ hk => by rw [e5, up_k hk]⟩) hh
  have sp : ∀ f kf s (M1 : Mm), len - s ≤ f → f + 1 ≤ kf → s ≤ len → M1 93 3 = nI s → fr93 M M1 → (∀ M', M' 93 3 = nI (skp T len f s) → M' 93 4 = nI (exn T len (skp T len f s)) → fr93 M M' → post M') → f_Gt_nextLexeme_8 fu post kf 93 M1 := by
    have go : ∀ s (M1 : Mm), s ≤ len → M1 93 3 = nI s → fr93 M M1 → (∀ M', M' 93 3 = nI s → M' 93 4 = nI (exn T len s) → fr93 M M' → post M') → f_Gt_nextLexeme_48 fu post 93 M1 := fun s M1 a3 b3 fr hh => by
      unfold f_Gt_nextLexeme_48
      intro M2 e2
      rw [b3] at e2
      exact run (len - s) fu s s M2 (Nat.le_refl _) (by omega) (Nat.le_refl _) a3 (by rw [e2, up_k (by omega)]; exact b3) (by rw [e2, up_s]) (fr.trans ⟨fun c hc => by rw [e2, up_c hc], fun k _ hk => by rw [e2, up_k hk]⟩) hh
    intro f
    induction f with
    | zero =>
      intro kf s M1 a1 a2 a3 b3 fr hh
      obtain ⟨kf, rfl⟩ : ∃ k, kf = k + 1 := ⟨kf - 1, by omega⟩
      rw [f_Gt_nextLexeme_8]
      have hT1 := hT.fr fr
      rw [hT1.1, b3]
      exact pk_le len s (fun z => go s M1 a3 b3 fr hh) (fun z => by omega)
    | succ f ih =>
      intro kf s M1 a1 a2 a3 b3 fr hh
      obtain ⟨kf, rfl⟩ : ∃ k, kf = k + 1 := ⟨kf - 1, by omega⟩
      rw [f_Gt_nextLexeme_8]
      have hT1 := hT.fr fr
      rw [hT1.1, b3]
      rw [skp] at hh
      refine pk_le len s (fun z => ?_) (fun z => ?_)
      · rw [if_neg (show ¬ (s < len ∧ T s = 32) from fun y => by omega)] at hh
        exact go s M1 a3 b3 fr hh
      · refine s_at (r := 93 + 1) (by rw [show 93 + 1 = 94 from rfl, ln_C.1]; omega) ?_
        rw [show 93 + 1 = 94 from rfl, hT1.2 s z]
        refine pk_eq (T s) 32 (fun z2 M3 e3 => ?_) (fun z2 => ?_) rfl rfl (by have := hch s z; omega)
        · rw [if_pos (show s < len ∧ T s = 32 from ⟨z, z2⟩)] at hh
          rw [b3, nI_1] at e3
          exact ih kf (s + 1) M3 (by omega) (by omega) (by omega) (by rw [e3, up_s]) (fr.trans ⟨fun c hc => by rw [e3, up_c hc], fun k hk _ => by rw [e3, up_k hk]⟩) hh
        · rw [if_neg (show ¬ (s < len ∧ T s = 32) from fun y => z2 y.2)] at hh
          exact go s M1 a3 b3 fr hh
  unfold f_Gt_nextLexeme
  intro M1 e1
  rw [h4] at e1
  exact sp (len - i) fu i M1 (Nat.le_refl _) (by omega) hi (by rw [e1, up_s]) ⟨fun c hc => by rw [e1, up_c hc], fun k hk _ => by rw [e1, up_k hk]⟩ h
