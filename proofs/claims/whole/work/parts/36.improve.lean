/-! the model's edge, and its table of costs -/
def fr18 (M M' : Mm) : Prop := (∀ c, c ≠ 145 → M' c = M c) ∧ ∀ k, k ≠ 18 → M' 145 k = M 145 k
theorem fr18_refl (M : Mm) : fr18 M M := ⟨fun _ _ => rfl, fun _ _ => rfl⟩
theorem fr18_up {M : Mm} {v : Int32} : fr18 M (up M 145 18 v) := ⟨fun _ hc => up_c hc, fun _ hk => up_k hk⟩
theorem m_edge {fu : Nat} {post : Int32 → Mm → Prop} {D : Nat → Nat} {la p c op k : Nat} {M : Mm} (hw : wfD D) (hD : SitM M 146 0 D) (hp : p ≤ D 56) (hc : c < 96) (ho : op < 4) (hk : k < 6) (hla : op = 0 → la = 0)
    (h0 : eg D la (96 * p + c) op k = none → ∀ M', fr18 M M' → post (-9) M') (h1 : ∀ n' a, eg D la (96 * p + c) op k = some (n', a) → ∀ M', fr18 M M' → M' 145 18 = nI a → post (nI n') M') : f_Md_edge fu post 145 (nI (96 * p + c)) (nI op) (nI k) M := by
  have h12 := hw.2.2.2.2.1
  have v56 : vp_in 56 69 := vp_in_nI (n := 56) (by omega) (by omega)
  have q0 := eg_0 (D := D) (la := la) (p := p) (k := k) hc
  have q1 := eg_1 (D := D) (la := la) (p := p) (k := k) hc
  have q2 := eg_2 (D := D) (la := la) (p := p) (k := k) hc
  have q3 := eg_3 (D := D) (la := la) (p := p) (k := k) hc
  have ne : ∀ a b : Nat, a < 2 ^ 31 → b < 2 ^ 31 → a ≠ b → ¬ nI a = nI b := fun a b ha hb hab y => hab ((nI_eq ha hb).1 y)
  have no9 : ∀ c' : Nat, c' < 96 → ¬ nI c' = (-9 : Int32) := fun c' hc' y => nI_pos (n := c') (by omega) (by rw [y]; decide)
  -- consuming
  have con : ∀ x6 : Int32, ∀ lev cst : Nat, ((x6 = 0 ∧ lev = p) ∨ (x6 = 1 ∧ lev = p + 1)) → ((op = 3 ∧ cst = D (38 + k)) ∨ (op = 0 ∧ cst = 0) ∨ (op = 1 ∧ cst = D (50 + k))) → eg D la (96 * p + c) op k = (cns D c k).map (fun c' => (96 * lev + c', cst)) → f_Md_edge_129 fu post 145 (nI op) (nI k) (nI p) (nI c) x6 M := fun x6 lev cst hx hcs he => by
    unfold f_Md_edge_129 f_Md_edge_134
    refine br_f (by decide) (m_consume hD hw hc hk ?_)
    unfold f_Md_edge_153
    cases hq : cns D c k with
    | none =>
      rw [hq] at he
      exact br_t rfl (h0 he M (fr18_refl M))
    | some c' =>
      rw [hq] at he
      have fin1 : f_Md_edge_200 fu post (nI p) x6 (nI c') 145 (nI cst) M := by
        unfold f_Md_edge_200 f_Md_edge_219
        intro M1 e1
        have hh := h1 (96 * lev + c') cst he M1 (by rw [e1]; exact fr18_up) (by rw [e1, up_s])
        rcases hx with ⟨hx, hl⟩ | ⟨hx, hl⟩
        · rw [hl] at hh
          refine br_t hx ?_
          rw [show (96 : Int32) = nI 96 from rfl, pk_mul, nI_add]; exact hh
        · rw [hl] at hh
          refine br_f (by rw [hx]; decide) ?_
          rw [show (96 : Int32) = nI 96 from rfl, nI_1, pk_mul, nI_add]; exact hh
      refine br_f (no9 c' (cns_lt hw hc hk hq)) ?_
      simp only [Nat.reduceAdd]
      rcases hcs with ⟨ho, hcs⟩ | ⟨ho, hcs⟩ | ⟨ho, hcs⟩
      · subst ho
        rw [show (38 : Int32) = nI 38 from rfl, nI_add, ln_M.1, nI_clamp (by omega), hD.at (by omega), ← hcs]
        exact br_t rfl ⟨vp_in_nI (by omega) (by omega), fin1⟩
      · subst ho
        rw [hcs] at fin1
        exact br_f (by decide) (br_t rfl fin1)
      · subst ho
        refine br_f (by decide) (br_f (by decide) ?_)
        rw [show (50 : Int32) = nI 50 from rfl, nI_add, ln_M.1, nI_clamp (by omega), hD.at (by omega), ← hcs]
        exact ⟨vp_in_nI (by omega) (by omega), fin1⟩
  have nocon : ∀ x6 : Int32, eg D la (96 * p + c) op k = none → f_Md_edge_134 fu post 145 (nI op) (nI k) (nI p) (nI c) x6 0 M := fun x6 he => by
    unfold f_Md_edge_134 f_Md_edge_153
    exact br_t rfl (br_t rfl (h0 he M (fr18_refl M)))
  unfold f_Md_edge
  intro y1 e1 y2 e2
  rw [show (96 : Int32) = nI 96 from rfl, pk_div (by omega) (by omega) (by omega), show (96 * p + c) / 96 = p by omega] at e1
  rw [show (96 : Int32) = nI 96 from rfl, pk_rem (by omega) (by omega) (by omega), show (96 * p + c) % 96 = c by omega] at e2
  rw [e1, e2]
  have hop : op = 0 ∨ op = 1 ∨ op = 2 ∨ op = 3 := by omega
  by_cases z3 : op = 3
  · subst z3
    unfold f_Md_edge_22 f_Md_edge_44 f_Md_edge_64
    exact br_t rfl (br_t rfl (br_t rfl (br_f (by decide) (br_t rfl (con 0 p _ (Or.inl ⟨rfl, rfl⟩) (Or.inl ⟨rfl, rfl⟩) q3)))))
  · refine br_f (ne op 3 (by omega) (by omega) z3) ?_
    unfold f_Md_edge_22
    simp only [Nat.reduceAdd]
    rw [ln_M.1, hD.at (by omega)]
    refine br_f (by decide) ⟨v56, pk_eq p (D 56) (fun z => ?_) (fun z => ?_)⟩
    · refine h0 ?_ M (fr18_refl M)
      rcases hop with rfl | rfl | rfl | rfl
      · rw [q0, if_neg (fun y => by omega)]
      · rw [q1, if_neg (fun y => by omega)]
      · rw [q2, if_neg (fun y => by omega)]
      · exact absurd rfl z3
    · have hpl : p < D 56 := by omega
      have htk : D (57 + p) < 6 := hw.2.2.2.2.2 p (by omega)
      unfold f_Md_edge_44
      simp only [Nat.reduceAdd]
      rw [show (57 : Int32) = nI 57 from rfl, nI_add, ln_M.1, nI_clamp (by omega), hD.at (by omega)]
      refine br_f (by decide) ⟨vp_in_nI (by omega) (by omega), ?_⟩
      unfold f_Md_edge_64
      simp only [Nat.reduceAdd]
      by_cases z2 : op = 2
      · subst z2
        refine br_t rfl ?_
        rw [show (44 : Int32) = nI 44 from rfl, nI_add, ln_M.1, nI_clamp (by omega), hD.at (by omega)]
        refine ⟨vp_in_nI (by omega) (by omega), fun M4 e4 => pk_eq k (D (57 + p)) (fun z4 => ?_) (fun z4 => ?_)⟩
        · rw [if_pos ⟨hpl, z4⟩] at q2
          rw [show (96 : Int32) = nI 96 from rfl, nI_add, show 96 * p + c + 96 = 96 * (p + 1) + c by omega]
          exact h1 _ _ q2 M4 (by rw [e4]; exact fr18_up) (by rw [e4, up_s, z4])
        · rw [if_neg (fun y => z4 y.2)] at q2
          exact h0 q2 M4 (by rw [e4]; exact fr18_up)
      · refine br_f (ne op 2 (by omega) (by omega) z2) (br_f (ne op 3 (by omega) (by omega) z3) ?_)
        unfold f_Md_edge_115 f_Md_edge_126
        by_cases z0 : op = 0
        · subst z0
          have hla0 := hla rfl
          refine br_t rfl (pk_eq k (D (57 + p)) (fun z4 => br_t rfl ?_) (fun z4 => br_f (by decide) ?_))
          · rw [if_pos ⟨hla0, hpl, z4⟩] at q0
            exact con 1 (p + 1) 0 (Or.inr ⟨rfl, rfl⟩) (Or.inr (Or.inl ⟨rfl, rfl⟩)) q0
          · rw [if_neg (fun y => z4 y.2.2)] at q0
            exact nocon 1 q0
        · have z1 : op = 1 := by omega
          subst z1
          refine br_f (by decide) (pk_eq k (D (57 + p)) (fun z4 => br_f (by decide) ?_) (fun z4 => br_t rfl ?_))
          · rw [if_neg (fun y => y.2 z4)] at q1
            exact nocon 1 q1
          · rw [if_pos ⟨hpl, z4⟩] at q1
            exact con 1 (p + 1) _ (Or.inr ⟨rfl, rfl⟩) (Or.inr (Or.inr ⟨rfl, rfl⟩)) q1
theorem OL_no {D : Nat → Nat} {la : Nat} {l s : Nat → Nat} {n : Nat} {xs : List (Nat × Nat)} {op kd : Nat} (he : eg D la n op kd = none) : OL D la l s n ((op, kd) :: xs) = OL D la l s n xs := by
  funext x
  apply propext
  constructor
  · rintro (q | ⟨e, he2, q⟩)
    · exact Or.inl q
    · rcases List.mem_cons.1 he2 with z | z
      · obtain ⟨n', a, q1, q2⟩ := q
        rw [z] at q1
        rw [show eg D la n (op, kd).1 (op, kd).2 = eg D la n op kd from rfl, he] at q1
        cases q1
      · exact Or.inr ⟨e, z, q⟩
  · rintro (q | ⟨e, he2, q⟩)
    · exact Or.inl q
    · exact Or.inr ⟨e, List.mem_cons_of_mem _ he2, q⟩
theorem OL_yes {D : Nat → Nat} {la : Nat} {l s : Nat → Nat} {n : Nat} {xs : List (Nat × Nat)} {op kd n' a : Nat} (he : eg D la n op kd = some (n', a)) : OL D la l s n ((op, kd) :: xs) = offO (OL D la l s n xs) a (l n') (s n') := by
  funext x
  apply propext
  constructor
  · rintro (q | ⟨e, he2, q⟩)
    · exact Or.inl (Or.inl (Or.inl q))
    · rcases List.mem_cons.1 he2 with z | z
      · obtain ⟨n2, a2, q1, q2⟩ := q
        rw [z] at q1
        rw [show eg D la n (op, kd).1 (op, kd).2 = eg D la n op kd from rfl, he] at q1
        cases q1
        rcases q2 with q2 | q2
        · exact Or.inl (Or.inr q2)
        · exact Or.inr q2
      · exact Or.inl (Or.inl (Or.inr ⟨e, z, q⟩))
  · rintro (((q | ⟨e, he2, q⟩) | q) | q)
    · exact Or.inl q
    · exact Or.inr ⟨e, List.mem_cons_of_mem _ he2, q⟩
    · exact Or.inr ⟨(op, kd), List.mem_cons_self, n', a, he, Or.inl q⟩
    · exact Or.inr ⟨(op, kd), List.mem_cons_self, n', a, he, Or.inr q⟩
theorem m_offer {fu : Nat} {post : Mm → Prop} {x L S : Nat} {O : Nat → Prop} {M : Mm} (hx : x < 2 ^ 30) (hB : Best2 O L S) (m16 : M 145 16 = nI L) (m17 : M 145 17 = nI S)
    (h : ∀ M' L' S', Best2 (fun y => O y ∨ y = x) L' S' → M' 145 16 = nI L' → M' 145 17 = nI S' → (∀ c, c ≠ 145 → M' c = M c) → (∀ k, k ≠ 16 → k ≠ 17 → M' 145 k = M 145 k) → post M') : f_Md_offer fu post 145 (nI x) M := by
  have hL := hB.1
  have hS := hB.2.1
  unfold f_Md_offer
  refine pk_le L x (fun z1 => pk_le x L (fun z2 => ?_) (fun z2 => pk_le S x (fun z3 => ?_) (fun z3 M1 e1 => ?_) m17 rfl) rfl m16) (fun z1 M4 e4 M5 e5 => ?_) m16 rfl
  · exact h M L S (hB.same (Or.inl (by omega))) m16 m17 (fun _ _ => rfl) (fun _ _ _ => rfl)
  · exact h M L S (hB.same (Or.inr z3)) m16 m17 (fun _ _ => rfl) (fun _ _ _ => rfl)
  · exact h M1 L x (hB.mid z2 z3) (by rw [e1, up_k (by omega)]; exact m16) (by rw [e1, up_s]) (fun c hc => by rw [e1, up_c hc]) (fun k _ hk => by rw [e1, up_k hk])
  · exact h M5 x L (hB.lt z1) (by rw [e5, up_s]) (by rw [e5, up_k (by omega), e4, up_s]; exact m16) (fun c hc => by rw [e5, up_c hc, e4, up_c hc]) (fun k h1 h2 => by rw [e5, up_k h1, e4, up_k h2])
def mK (op : Nat) (base : List (Nat × Nat)) : Nat → List (Nat × Nat)
  | 0 => base
  | k + 1 => (op, k) :: mK op base k
def mO : Nat → List (Nat × Nat)
  | 0 => []
  | op + 1 => mK op (mO op) 6
theorem mK_base {op : Nat} {base : List (Nat × Nat)} {e : Nat × Nat} (h : e ∈ base) : ∀ k, e ∈ mK op base k
  | 0 => h
  | k + 1 => List.mem_cons_of_mem _ (mK_base h k)
theorem mK_mem {op kd : Nat} {base : List (Nat × Nat)} : ∀ k, kd < k → (op, kd) ∈ mK op base k
  | 0, h => absurd h (by omega)
  | k + 1, h => by
    unfold mK
    by_cases z : kd = k
    · subst z; exact List.mem_cons_self
    · exact List.mem_cons_of_mem _ (mK_mem (op := op) (kd := kd) k (by omega))
theorem mO_mem {op kd : Nat} : ∀ m, op < m → kd < 6 → (op, kd) ∈ mO m
  | 0, h, _ => absurd h (by omega)
  | m + 1, h, hk => by
    unfold mO
    by_cases z : op = m
    · subst z; exact mK_mem 6 hk
    · exact mK_base (mO_mem (op := op) (kd := kd) m (by omega) hk) 6
theorem mK_lt {op m : Nat} {base : List (Nat × Nat)} {e : Nat × Nat} (hb : e ∈ base → e.1 < m ∧ e.2 < 6) (ho : op < m) : ∀ k, k ≤ 6 → e ∈ mK op base k → e.1 < m ∧ e.2 < 6
  | 0, _, h => hb h
  | k + 1, hk, h => by
    unfold mK at h
    rcases List.mem_cons.1 h with z | z
    · rw [z]; exact ⟨ho, by show k < 6; omega⟩
    · exact mK_lt hb ho k (by omega) z
theorem mO_lt {e : Nat × Nat} : ∀ m, e ∈ mO m → e.1 < m ∧ e.2 < 6
  | 0, h => by unfold mO at h; cases h
  | m + 1, h => mK_lt (op := m) (base := mO m) (fun hb => by have := mO_lt m hb; omega) (by omega) 6 (by omega) h
theorem OL_all {D : Nat → Nat} {la : Nat} {l s : Nat → Nat} {n : Nat} : OL D la l s n (mO 4) = Off D la l s n := by
  funext x
  apply propext
  constructor
  · rintro (q | ⟨e, he2, n', a, q1, q2⟩)
    · exact Or.inl q
    · have := mO_lt 4 he2
      exact Or.inr ⟨e.1, e.2, n', a, this.1, this.2, q1, q2⟩
  · rintro (q | ⟨op, kd, n', a, k1, k2, q1, q2⟩)
    · exact Or.inl q
    · exact Or.inr ⟨(op, kd), mO_mem 4 k1 k2, n', a, q1, q2⟩
/-! the instance for the costs -/
def VC (D : Nat → Nat) (M : Mm) (σ : Nat → Nat × Nat) : Prop := SitM M 146 0 D ∧ ∀ n, n < 96 * (D 56 + 1) → M 150 n = nI (σ n).1 ∧ M 151 n = nI (σ n).2
def QC (D : Nat → Nat) (m n : Nat) (v : Nat × Nat) : Prop := SndV D 0 n v.1 v.2 ∧ (r1 D 0 n < m → v.1 = Ls D 0 n) ∧ (96 ≤ m → r2 D 0 n < m - 96 → v.2 = Ss D 0 n)
def FC (D : Nat → Nat) (σ : Nat → Nat × Nat) (n : Nat) (v : Nat × Nat) : Prop := Best2 (Off D 0 (fun k => (σ k).1) (fun k => (σ k).2) n) v.1 v.2
def frK (M M' : Mm) : Prop := (∀ c, c ≠ 145 → c ≠ 150 → c ≠ 151 → M' c = M c) ∧ ∀ k, k ≠ 16 → k ≠ 17 → k ≠ 18 → M' 145 k = M 145 k
def fr68 (M M' : Mm) : Prop := (∀ c, c ≠ 145 → M' c = M c) ∧ ∀ k, k ≠ 16 → k ≠ 17 → k ≠ 18 → M' 145 k = M 145 k
theorem fr68.trans {M M1 M2 : Mm} (h : fr68 M M1) (h2 : fr68 M1 M2) : fr68 M M2 := ⟨fun c a => (h2.1 c a).trans (h.1 c a), fun k a b d => (h2.2 k a b d).trans (h.2 k a b d)⟩
theorem fr18.w {M M1 : Mm} (h : fr18 M M1) : fr68 M M1 := ⟨h.1, fun k _ _ d => h.2 k d⟩
theorem QC_right {D : Nat → Nat} {n : Nat} {v : Nat × Nat} (h : QC D 192 n v) : v.1 = Ls D 0 n ∧ v.2 = Ss D 0 n := by
  have a1 := r1_lt96 D 0 n
  have a2 := r2_lt96 D 0 n
  exact ⟨h.2.1 (by omega), h.2.2 (by omega) (by omega)⟩
theorem VC.fr {D : Nat → Nat} {M M' : Mm} {σ : Nat → Nat × Nat} (h : VC D M σ) (k : fr68 M M') : VC D M' σ := by
  refine ⟨h.1.keep (fun _ _ => by rw [k.1 146 (by omega)]), fun n hn => ?_⟩
  rw [k.1 150 (by omega), k.1 151 (by omega)]
  exact h.2 n hn
theorem lev_of {D : Nat → Nat} {Q : Nat → Nat → Nat × Nat → Prop} (hw : wfD D) {la m p c op k n' a : Nat} {σ : Nat → Nat × Nat} (hQ : ∀ n v, Q 192 n v → Q m n v) (hp : p ≤ D 56) (hc : okc D c) (hk : k < 6) (h1 : ∀ c', okc D c' → Q m (96 * p + c') (σ (96 * p + c'))) (h2 : ∀ p' c', p < p' → p' ≤ D 56 → okc D c' → Q 192 (96 * p' + c') (σ (96 * p' + c')))
    (he : eg D la (96 * p + c) op k = some (n', a)) : n' < 96 * (D 56 + 1) ∧ Q m n' (σ n') ∧ (n' / 96 ≠ (96 * p + c) / 96 → Q 192 n' (σ n')) := by
  have hc96 := (okc_lt hw hc).2
  obtain ⟨p', c', e1, g1, g2, g3, g4⟩ := eg_G (okc_clo hw) hc hp hk he
  rw [e1]
  refine ⟨by omega, ?_, fun z => ?_⟩
  · rcases g4 with rfl | rfl
    · exact h1 c' g1
    · exact hQ _ _ (h2 _ c' (by omega) g3 g1)
  · rcases g4 with rfl | rfl
    · omega
    · exact h2 _ c' (by omega) g3 g1
theorem m_improve {fu : Nat} {post : Int32 → Mm → Prop} {D : Nat → Nat} {p c : Nat} {σ : Nat → Nat × Nat} {M : Mm} (hf : 1300 ≤ fu) (hw : wfD D) (hV : VC D M σ) (hp : p ≤ D 56) (hc : okc D c) (h1 : ∀ c', okc D c' → QC D 0 (96 * p + c') (σ (96 * p + c'))) (h2 : ∀ p' c', p < p' → p' ≤ D 56 → okc D c' → QC D 192 (96 * p' + c') (σ (96 * p' + c')))
    (h : ∀ M' v b, VC D M' (vput σ (96 * p + c) v) → FC D σ (96 * p + c) v → frK M M' → ((b = 1 ∧ v ≠ σ (96 * p + c)) ∨ (b = 0 ∧ v = σ (96 * p + c))) → post b M') : f_Md_improve fu post 145 (nI (96 * p + c)) M := by
  have h12 := hw.2.2.2.2.1
  have hc96 := (okc_lt hw hc).2
  have v56 : vp_in 56 69 := vp_in_nI (n := 56) (by omega) (by omega)
  have hQ : ∀ n v, QC D 192 n v → QC D 0 n v := fun n v q => ⟨q.1, fun y => absurd y (by omega), fun y => absurd y (by omega)⟩
  obtain ⟨L150, L151⟩ : ln 150 = 1248 ∧ ln 151 = 1248 := ⟨ln_M.2.2.2.2.1, ln_M.2.2.2.2.2.1⟩
  -- storing
  have store : ∀ (M1 : Mm) (L S : Nat) (kx : Int32), Best2 (OL D 0 (fun k => (σ k).1) (fun k => (σ k).2) (96 * p + c) (mO 4)) L S → M1 145 16 = nI L → M1 145 17 = nI S → fr68 M M1 → ((kx = 1 ∧ (L, S) ≠ σ (96 * p + c)) ∨ (kx = 0 ∧ (L, S) = σ (96 * p + c))) → f_Md_improve_126 fu post 145 (nI (96 * p + c)) kx M1 := fun M1 L S kx hB m16 m17 hfr hkx => by
    unfold f_Md_improve_126
    simp only [Nat.reduceAdd]
    rw [L150, L151, nI_clamp (by omega)]
    refine ⟨vp_in_nI (by omega) (by omega), fun M2 e2 => ⟨vp_in_nI (by omega) (by omega), fun M4 e4 => ?_⟩⟩
    rw [m16] at e2
    rw [e2, up_c (by omega), m17, ← e2] at e4
    rw [OL_all] at hB
    refine ⟨hkx.elim (fun y => Or.inr y.1) (fun y => Or.inl y.1), h M4 (L, S) kx ⟨(hV.fr hfr).1.keep (fun _ _ => by rw [e4, up_c (by omega), e2, up_c (by omega)]), fun n hn => ?_⟩ hB ⟨fun c a b d => by rw [e4, up_c d, e2, up_c b, hfr.1 c a], fun k a b d => by rw [e4, up_c (by omega), e2, up_c (by omega), hfr.2 k a b d]⟩ hkx⟩
    have hv := (hV.fr hfr).2 n hn
    by_cases z : n = 96 * p + c
    · rw [z, vput_s, e4, up_c (by omega), up_s, e2, up_s]; exact ⟨rfl, rfl⟩
    · rw [vput_k z, e4, up_c (show (150 : Nat) ≠ 151 by omega), up_k z, e2, up_k z, up_c (show (151 : Nat) ≠ 150 by omega)]; exact hv
  have last : ∀ (M1 : Mm) (L S : Nat), Best2 (OL D 0 (fun k => (σ k).1) (fun k => (σ k).2) (96 * p + c) (mO 4)) L S → M1 145 16 = nI L → M1 145 17 = nI S → fr68 M M1 → ∀ kf, f_Md_improve_44 fu post (kf + 1) 145 (nI (96 * p + c)) (nI 4) M1 := fun M1 L S hB m16 m17 hfr kf => by
    have hv := (hV.fr hfr).2 (96 * p + c) (by omega)
    have b1 := (h1 c hc).1
    have hBl := hB.1
    have hBs := hB.2.1
    rw [f_Md_improve_44]
    refine br_t (by decide) ?_
    simp only [Nat.reduceAdd]
    rw [L150, L151, nI_clamp (by omega), m16, m17, hv.1, hv.2]
    refine ⟨vp_in_nI (by omega) (by omega), pk_eq L (σ (96 * p + c)).1 (fun z1 => ⟨vp_in_nI (by omega) (by omega), pk_eq S (σ (96 * p + c)).2 (fun z2 => ?_) (fun z2 => ?_) rfl rfl (by omega) (by have := b1.2.1; omega)⟩) (fun z1 => ?_) rfl rfl (by omega) (by have := b1.1; omega)⟩
    · exact store M1 L S 0 hB m16 m17 hfr (Or.inr ⟨rfl, by rw [z1, z2]⟩)
    · exact store M1 L S 1 hB m16 m17 hfr (Or.inl ⟨rfl, fun y => z2 (by rw [← y])⟩)
    · exact store M1 L S 1 hB m16 m17 hfr (Or.inl ⟨rfl, fun y => z1 (by rw [← y])⟩)
  -- the operations from op on
  have ops : ∀ kf op (M1 : Mm) (L S : Nat), 5 ≤ kf + op → op ≤ 4 → Best2 (OL D 0 (fun k => (σ k).1) (fun k => (σ k).2) (96 * p + c) (mO op)) L S → M1 145 16 = nI L → M1 145 17 = nI S → fr68 M M1 → f_Md_improve_44 fu post kf 145 (nI (96 * p + c)) (nI op) M1 := by
    intro kf
    induction kf with
    | zero => intro op M1 L S a1 a2; omega
    | succ kf ih =>
      intro op M1 L S a1 a2 hB m16 m17 hfr
      by_cases z4 : op = 4
      · subst z4
        exact last M1 L S hB m16 m17 hfr kf
      · rw [f_Md_improve_44]
        refine br_f (by rw [show (3 : Int32) = nI 3 from rfl, nI_ltI (by omega) (by omega)]; omega) ?_
        have kinds : ∀ kg k (M2 : Mm) (L2 S2 : Nat), 7 ≤ kg + k → k ≤ 6 → Best2 (OL D 0 (fun k => (σ k).1) (fun k => (σ k).2) (96 * p + c) (mK op (mO op) k)) L2 S2 → M2 145 16 = nI L2 → M2 145 17 = nI S2 → fr68 M M2 → f_Md_improve_51 fu post (f_Md_improve_44 fu post kf) kg 145 (nI (96 * p + c)) (nI op) (nI k) M2 := by
          intro kg
          induction kg with
          | zero => intro k M2 L2 S2 b1 b2; omega
          | succ kg ihk =>
            intro k M2 L2 S2 b1 b2 hB2 n16 n17 hfr2
            rw [f_Md_improve_51]
            refine pk_le 6 k (fun z y ey => ?_) (fun z => ?_)
            · rw [ey, nI_1]
              have : k = 6 := by omega
              subst this
              exact ih (op + 1) M2 L2 S2 (by omega) (by omega) hB2 n16 n17 hfr2
            · refine m_edge (la := 0) hw (hV.fr hfr2).1 hp hc96 (by omega) z (fun _ => rfl) (fun he M3 f3 => ?_) (fun n' a he M3 f3 m18 => ?_)
              · refine br_t rfl (fun y ey => ?_)
                rw [ey, nI_1]
                refine ihk (k + 1) M3 L2 S2 (by omega) (by omega) ?_ (by rw [f3.2 16 (by omega)]; exact n16) (by rw [f3.2 17 (by omega)]; exact n17) (hfr2.trans f3.w)
                rw [mK, OL_no he]; exact hB2
              · obtain ⟨g1, g2, g3⟩ := lev_of hw hQ hp hc z h1 h2 he
                have ha := (eg_ok hw (n := 96 * p + c) (okn_of (okc_clo hw) hc hp) z he).2.1
                have sn := g2.1
                have sn1 := sn.1
                have sn2 := sn.2.1
                have vv := (hV.fr (hfr2.trans f3.w)).2 n' g1
                refine br_f (fun y => nI_pos (n := n') (by omega) (by rw [y]; decide)) ?_
                unfold f_Md_offerNode
                simp only [Nat.reduceAdd]
                rw [L150, L151, nI_clamp (by omega), vv.1, m18, nI_add]
                refine ⟨vp_in_nI (by omega) (by omega), ?_⟩
                refine m_offer (by omega) hB2 (by rw [f3.2 16 (by omega)]; exact n16) (by rw [f3.2 17 (by omega)]; exact n17) (fun M4 L4 S4 c1 c2 c3 c4 c5 => ⟨vp_in_nI (by omega) (by omega), ?_⟩)
                rw [c4 151 (by omega), vv.2, nI_add]
                refine m_offer (by omega) c1 c2 c3 (fun M5 L5 S5 d1 d2 d3 d4 d5 y ey => ?_)
                rw [ey, nI_1]
                have f5 : fr68 M M5 := (hfr2.trans f3.w).trans ⟨fun c hc => by rw [d4 c hc, c4 c hc], fun k x1 x2 _ => by rw [d5 k x1 x2, c5 k x1 x2]⟩
                refine ihk (k + 1) M5 L5 S5 (by omega) (by omega) ?_ d2 d3 f5
                rw [mK, OL_yes he]
                refine d1.congr (fun x => ?_)
                unfold offO
                rw [Nat.add_comm (σ n').1 a, Nat.add_comm (σ n').2 a]
        exact kinds fu 0 M1 L S (by omega) (by omega) hB m16 m17 hfr
  unfold f_Md_improve
  simp only [Nat.reduceAdd]
  intro M1 e1 M2 e2
  have f2 : fr68 M M2 := ⟨fun c hc => by rw [e2, up_c hc, e1, up_c hc], fun k x1 x2 _ => by rw [e2, up_k x2, e1, up_k x1]⟩
  have hD2 := (hV.fr f2).1
  have m16 : M2 145 16 = nI 1000000 := by rw [e2, up_k (by omega), e1, up_s]; rfl
  have m17 : M2 145 17 = nI 1000000 := by rw [e2, up_s]; rfl
  have tm : term D 0 (96 * p + c) = (decide (p = D 56) && isF D c) := by
    unfold term
    rw [if_pos rfl, show (96 * p + c) / 96 = p by omega, show (96 * p + c) % 96 = c by omega]
  have none0 : term D 0 (96 * p + c) = false → Best2 (OL D 0 (fun k => (σ k).1) (fun k => (σ k).2) (96 * p + c) (mO 0)) 1000000 1000000 := fun ht => by
    refine Best2.none (fun x hx => ?_)
    rcases hx with ⟨q, _⟩ | ⟨e, q, _⟩
    · rw [ht] at q; cases q
    · unfold mO at q; cases q
  rw [ln_M.1, hD2.at (by omega), show (96 : Int32) = nI 96 from rfl, pk_rem (by omega) (by omega) (by omega), pk_div (by omega) (by omega) (by omega), show (96 * p + c) / 96 = p by omega, show (96 * p + c) % 96 = c by omega]
  refine ⟨v56, pk_eq p (D 56) (fun z => m_isFinal hD2 hw hc96 ?_) (fun z => ?_)⟩
  · cases hb : isF D c
    · rw [hb] at tm
      exact br_t rfl (ops fu 0 M2 _ _ (by omega) (by omega) (none0 (by rw [tm]; simp)) m16 m17 f2)
    · rw [hb] at tm
      refine br_f (by decide) ?_
      have b0 := Best2.none (O := fun x => OL D 0 (fun k => (σ k).1) (fun k => (σ k).2) (96 * p + c) (mO 0) x ∧ False) (fun x hx => hx.2)
      refine m_offer (x := 0) (by omega) b0 m16 m17 (fun M3 L3 S3 c1 c2 c3 c4 c5 => ops fu 0 M3 L3 S3 (by omega) (by omega) (c1.congr (fun x => ?_)) c2 c3 (f2.trans ⟨c4, fun k x1 x2 _ => c5 k x1 x2⟩))
      constructor
      · rintro (q | q)
        · exact q.2.elim
        · exact Or.inl ⟨by rw [tm, z]; simp, q⟩
      · rintro (⟨_, q⟩ | ⟨e, q, _⟩)
        · exact Or.inr q
        · unfold mO at q; cases q
  · exact ops fu 0 M2 _ _ (by omega) (by omega) (none0 (by rw [tm]; simp [z])) m16 m17 f2
theorem gen_C {fu : Nat} {D : Nat → Nat} (hf : 1300 ≤ fu) (hw : wfD D) : GenOK D (fun P => f_Md_improve fu P) (VC D) (QC D) (FC D) frK := by
  refine ⟨fun M => ⟨fun _ _ _ _ => rfl, fun _ _ _ _ => rfl⟩, fun M M' M2 a b => ⟨fun c x y z => (b.1 c x y z).trans (a.1 c x y z), fun k x y z => (b.2 k x y z).trans (a.2 k x y z)⟩, fun M σ hV => hV.1.at (by omega), fun m m' n v hm q => ⟨q.1, fun y => q.2.1 (by omega), fun y1 y2 => q.2.2 (by omega) (by omega)⟩, fun m n v q => ⟨q.1, fun _ => (QC_right q).1, fun _ _ => (QC_right q).2⟩, fun n v v' q q' => ?_, fun σ m p c v hp hc h1 h2 hF => ?_, fun M σ p c post hV hp hc h1 h2 h => m_improve hf hw hV hp hc h1 h2 h⟩
  · obtain ⟨a1, a2⟩ := QC_right q
    obtain ⟨b1, b2⟩ := QC_right q'
    exact Prod.ext (by rw [a1, b1]) (by rw [a2, b2])
  · have hQ : ∀ n v, QC D 192 n v → QC D m n v := fun n v q => ⟨q.1, fun _ => (QC_right q).1, fun _ _ => (QC_right q).2⟩
    have hn := okn_of (okc_clo hw) hc hp
    have lev : ∀ op kd n' a, op < 4 → kd < 6 → eg D 0 (96 * p + c) op kd = some (n', a) → QC D m n' (σ n') ∧ (n' / 96 ≠ (96 * p + c) / 96 → QC D 192 n' (σ n')) := fun op kd n' a _ hk he => (lev_of hw hQ hp hc hk h1 h2 he).2
    have aL : ∀ op kd n' a, op < 4 → kd < 6 → eg D 0 (96 * p + c) op kd = some (n', a) → SndV D 0 n' (σ n').1 (σ n').2 ∧ (n' / 96 ≠ (96 * p + c) / 96 ∨ r1 D 0 n' < m → (σ n').1 = Ls D 0 n') := fun op kd n' a x1 x2 x3 => by
      obtain ⟨g1, g2⟩ := lev op kd n' a x1 x2 x3
      refine ⟨g1.1, fun y => ?_⟩
      rcases y with y | y
      · exact (QC_right (g2 y)).1
      · exact g1.2.1 y
    refine ⟨off_sound (fun op kd n' a x1 x2 x3 => (aL op kd n' a x1 x2 x3).1) hF, fun y => step_L hw hn aL hF y, fun y1 y2 => ?_⟩
    by_cases z : m = 95
    · omega
    · refine step_S hw hn (m := m - 96) (fun op kd n' a x1 x2 x3 => ⟨(aL op kd n' a x1 x2 x3).1, (aL op kd n' a x1 x2 x3).2 (Or.inr ?_), fun y => ?_⟩) hF (by omega)
      · have := r1_lt96 D 0 n'; omega
      · obtain ⟨g1, g2⟩ := lev op kd n' a x1 x2 x3
        rcases y with y | y
        · exact (QC_right (g2 y)).2
        · exact g1.2.2 (by omega) y
