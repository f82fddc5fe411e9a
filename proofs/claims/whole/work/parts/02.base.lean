/-! THE UNIFORM WORLD: all cells of the run, by their numbers in the order of making, at base + number; memory is a function of cell and slot -/
abbrev Mm : Type := Nat → Nat → Int32
def up (M : Mm) (c k : Nat) (v : Int32) : Mm := fun c' k' => if c' = c ∧ k' = k then v else M c' k'
theorem up_s {M : Mm} {c k : Nat} {v : Int32} : up M c k v c k = v := if_pos ⟨rfl, rfl⟩
theorem up_c {M : Mm} {c k : Nat} {v : Int32} {c' : Nat} (h : c' ≠ c) : up M c k v c' = M c' := funext fun _ => if_neg fun q => h q.1
theorem up_k {M : Mm} {c k : Nat} {v : Int32} {k' : Nat} (h : k' ≠ k) : up M c k v c k' = M c k' := if_neg fun q => h q.2
theorem up_e {M : Mm} {c k : Nat} {v : Int32} : up M c k v c = upd (M c) k v := funext fun j => by
  by_cases h : j = k
  · subst h; rw [up_s]; exact (pk_us).symm
  · rw [up_k h]; exact (pk_un h).symm
def loW (x : Int64) : Int32 := Int32.ofBitVec (x.toBitVec.extractLsb' 0 32)
def hiW (x : Int64) : Int32 := Int32.ofBitVec (x.toBitVec.extractLsb' 32 32)
def mkL (h l : Int32) : Int64 := Int64.ofBitVec (h.toBitVec ++ l.toBitVec)
theorem mkL_hl (x : Int64) : mkL (hiW x) (loW x) = x := by
  apply Int64.toBitVec_inj.mp
  show (x.toBitVec.extractLsb' 32 32 ++ x.toBitVec.extractLsb' 0 32 : BitVec 64) = x.toBitVec
  apply BitVec.eq_of_getLsbD_eq
  intro i hi
  rw [BitVec.getLsbD_append]
  by_cases h : i < 32
  · simp [h]
  · have e : 32 + (i - 32) = i := by omega
    have e2 : i - 32 < 32 := by omega
    simp [h, e, e2]
abbrev GX : Type := Nat × va_G × ClassId × ClassId × (Nat → Nat) × (Nat → Nat) × (Nat → Nat)
abbrev WX : Type := Nat × (Nat → Option va_E)
def sitL : List Nat := [8, 0, 20, 20, 20, 20, 1, 20, 9, 20]
def tabL : List Nat := [7] ++ sitL ++ [5, 20, 20, 20, 20, 20, 20]
def kdL : List Nat := [10] ++ sitL ++ [4, 21] ++ sitL ++ sitL ++ sitL ++ sitL ++ sitL ++ sitL ++ sitL ++ sitL ++ [3, 20] ++ sitL ++ tabL ++ tabL ++ [6, 20, 20, 2] ++ [11, 20, 20, 20, 20, 20, 20, 20, 20, 20, 20]
def kd (c : Nat) : Nat := kdL.getD c 99
def sitN : List Nat := [0, 0, 6, 36, 36, 36, 0, 24, 0, 12]
def tabN : List Nat := [0] ++ sitN ++ [0, 576, 96, 96, 1248, 1248, 1248]
def lnL : List Nat := [0] ++ sitN ++ [0, 8] ++ sitN ++ sitN ++ sitN ++ sitN ++ sitN ++ sitN ++ sitN ++ sitN ++ [0, 150] ++ sitN ++ tabN ++ tabN ++ [0, 1248, 1248, 0] ++ [0, 69, 69, 552, 150, 1248, 1248, 1248, 1248, 1248, 1248]
def ln (c : Nat) : Nat := lnL.getD c 0
def szL : List Nat := [5, 2, 1, 12, 82, 4, 3, 18, 10, 2, 145, 11, 0, 0, 0, 0, 0, 0, 0, 0, 1, 1]
def sz (K : Nat) : Nat := szL.getD K 0
/-- the reference to a cell -/
def ob (g : GX) (c : Nat) : Value := .ref (g.1 + c)
/-- what a cell is, by its kind and its slots' numbers -/
def ent (g : GX) (f : Nat → Int32) (c : Nat) : va_E := match kd c with
  | 0 => .inr (0, [ob g (c + 1), ob g (c + 2), ob g (c + 3), ob g (c + 4), .int (f 4)])
  | 1 => .inr (1, [ob g (c + 1)])
  | 2 => .inr (2, [.int (f 0), .int (f 1)])
  | 3 => .inr (3, [ob g (c + 1), ob g (c + 2), .int (f 2), .int (f 3), .int (f 4)])
  | 4 => .inr (4, [ob g (c + 1), .int (f 1), .int (f 2)])
  | 5 => .inr (5, [ob g (c + 1), ob g (c + 2), ob g (c + 3), .int (f 3)])
  | 6 => .inr (6, [ob g (c + 1), ob g (c + 2), .int (f 2)])
  | 7 => .inr (7, [ob g (c + 1), ob g (c + 11), ob g (c + 15), ob g (c + 16), ob g (c + 17), .int (f 5), .int (f 6), .int (f 7), .int (f 8), .int (f 9), .int (f 10)])
  | 8 => .inr (8, [ob g (c + 1), ob g (c + 6), ob g (c + 8)])
  | 9 => .inr (9, [ob g (c + 1), .int (f 1)])
  | 10 => .inr (10, [ob g (c + 1), ob g (c + 11), ob g (c + 93), ob g (c + 105), ob g (c + 123), ob g (c + 141), ob g (c + 144)])
  | 11 => .inr (11, [ob g (c + 1), ob g (c + 2), ob g (c + 3), .int (f 3), ob g (c + 4), .int (f 5), .int (f 6), .int (f 7), .int (f 8), .long (mkL (f 24) (f 9)), .int (f 10), .int (f 11), .int (f 12), ob g (c + 5), ob g (c + 6), ob g (c + 7), .int (f 16), .int (f 17), .int (f 18), ob g (c + 8), ob g (c + 9), .int (f 21), .int (f 22), ob g (c + 10)])
  | 20 => .inl (g.2.2.1, ln c, .inl f)
  | _ => .inl (g.2.2.2.1, ln c, .inr (.inr (.inr (.inr (fun k => some (g.1 + (c + 1 + 10 * k)))))))
def en (g : GX) (w : WX) (M : Mm) (c : Nat) : va_E := (w.2 c).getD (ent g (M c) c)
def wl (g : GX) (w : WX) (M : Mm) : va_W := (List.range w.1).map fun c => (g.1 + c, en g w M c)
def Af (g : GX) : Nat → Prop := fun q => g.1 ≤ q
def ok (w : WX) (t K : Nat) : Prop := kd t = K ∧ ∀ j, j < sz K → t + j < w.1 ∧ w.2 (t + j) = none
theorem wl_at {g : GX} {w : WX} {M : Mm} {c : Nat} (h : c < w.1) : (wl g w M)[c]? = some (g.1 + c, en g w M c) := by
  simp [wl, h]
theorem wl_len {g : GX} {w : WX} {M : Mm} : (wl g w M).length = w.1 := by simp [wl]
theorem wl_inv {g : GX} {w : WX} {M : Mm} {c : Nat} {q : Nat × va_E} (h : (wl g w M)[c]? = some q) : c < w.1 ∧ q = (g.1 + c, en g w M c) := by
  have hl : c < w.1 := by
    have := (List.getElem?_eq_some_iff.mp h).1
    rwa [wl_len] at this
  rw [wl_at hl] at h
  exact ⟨hl, (Option.some.inj h).symm⟩
theorem wl_D {g : GX} {w : WX} {M : Mm} : va_D (Af g) (wl g w M) := by
  refine ⟨fun i j p q hi hj hpq => ?_, fun k q hk => ?_⟩
  · obtain ⟨-, rfl⟩ := wl_inv hi
    obtain ⟨-, rfl⟩ := wl_inv hj
    have : g.1 + i = g.1 + j := hpq
    omega
  · obtain ⟨-, rfl⟩ := wl_inv hk
    exact Nat.le_add_right _ _
theorem wl_set {g : GX} {w : WX} {M M' : Mm} {c : Nat} {e : va_E} (h : c < w.1) (he : en g w M' c = e) (ho : ∀ c', c' ≠ c → M' c' = M c') : (wl g w M).set c (g.1 + c, e) = wl g w M' := by
  apply List.ext_getElem?
  intro i
  by_cases hi : i = c
  · subst hi
    rw [List.getElem?_set_self (by rw [wl_len]; exact h), wl_at h, he]
  · rw [List.getElem?_set_ne (fun q => hi q.symm)]
    by_cases hl : i < w.1
    · rw [wl_at hl, wl_at hl]
      simp only [en, ho i hi]
    · rw [List.getElem?_eq_none (by rw [wl_len]; omega), List.getElem?_eq_none (by rw [wl_len]; omega)]
theorem en_ok {g : GX} {w : WX} {M : Mm} {t K : Nat} (h : ok w t K) (hz : 0 < sz K) : t < w.1 ∧ en g w M t = ent g (M t) t ∧ kd t = K := by
  have h1 := h.2 0 hz
  rw [Nat.add_zero] at h1
  exact ⟨h1.1, by simp [en, h1.2], h.1⟩
/-! the tables' words that stay -/
def okw (c : Cond) : Bool := match c with
  | .fieldLinkNest .. => true
  | .methodLinkNest .. => true
  | c => goodWord c
def TB (U : State) : Prop := (∀ c ∈ lw_tbl, okw c = true → c.before #[] U = true) ∧ va_AO "SyntaxRepair$Situation" U
theorem okw_cases {c : Cond} (h : okw c = true) : goodWord c = true ∨ (∃ a i b n d h, c = .fieldLinkNest a i b n d h) ∨ ∃ a i x h, c = .methodLinkNest a i x h := by
  cases c <;> first | exact Or.inl h | exact Or.inr (Or.inl ⟨_, _, _, _, _, _, rfl⟩) | exact Or.inr (Or.inr ⟨_, _, _, _, rfl⟩)
theorem TB.warm {s U : State} (hW : s.WarmedH U.vm) (h : TB s) : TB U := by
  refine ⟨?_, va_AO.moved hW.alike h.2⟩
  intro c hc ho
  have h1 := h.1 c hc ho
  rcases okw_cases ho with q | ⟨a, i, b, n, d, h, rfl⟩ | ⟨a, i, x, h, rfl⟩
  · exact word_at hW (good_of_word q) h1
  · exact va_Nw.warmF hW h1
  · exact va_Nw.warmM hW h1
theorem TB.use {s : State} (h : TB s) {c : Cond} {A : Array Value} (hc : c ∈ lw_tbl) (ho : okw c = true) : c.before A s = true := by
  have h1 := h.1 c hc ho
  rcases okw_cases ho with q | ⟨a, i, b, n, d, h, rfl⟩ | ⟨a, i, x, h, rfl⟩
  · exact word_at (State.WarmedH.refl s) (good_of_word q) h1
  · exact va_Nw.use rfl h1
  · exact va_Nw.use rfl h1
theorem TB.of {s : State} {A : Array Value} (h : ∀ c ∈ lw_tbl, c.before A s = true) : TB s := by
  refine ⟨?_, va_AO.of (h (Cond.arrayOver (.object "SyntaxRepair$Situation")) (List.mem_append_right _ (List.mem_of_getElem? (i := 125) (by decide +kernel))))⟩
  intro c hc ho
  have h1 := h c hc
  rcases okw_cases ho with q | ⟨a, i, b, n, d, h, rfl⟩ | ⟨a, i, x, h, rfl⟩
  · exact word_at (State.WarmedH.refl s) (good_of_word q) h1
  · exact va_Nw.of rfl h1
  · exact va_Nw.of rfl h1
def Tk : List Cond := lw_tbl.filter okw
theorem TB.hts {s : State} {A : Array Value} (h : TB s) : ∀ c ∈ Tk, c.before A s = true := fun c hc => h.use (List.mem_filter.mp hc).1 (List.mem_filter.mp hc).2
theorem tk_of {c : Cond} (h : c ∈ lw_tbl) (ho : okw c = true) : c ∈ Tk := List.mem_filter.mpr ⟨h, ho⟩
theorem tk_at {c : Cond} (i : Nat) (h : tables_1[i]? = some c) (ho : okw c = true) : c ∈ Tk := tk_of (List.mem_append_right _ (List.mem_of_getElem? h)) ho
theorem tk_sel {c : Cond} (i : Nat) (h : (k2_sels lw_privs)[i]? = some c) (ho : okw c = true) : c ∈ Tk := tk_of (List.mem_append_left _ (List.mem_of_getElem? h)) ho
/-! what nobody writes: the String constants, the two static rows, two of the JDK's statics -/
def txS : Nat → String := fun i => match i with
  | 0 => "states" | 1 => ";" | 2 => "accept" | 3 => "shift" | 4 => "push" | 5 => "pop" | _ => "cost"
def ixS : Nat → Nat := fun i => match i with
  | 0 => 46 | 1 => 60 | 2 => 62 | 3 => 67 | 4 => 73 | 5 => 75 | _ => 77
def bytS : List (List Int32) := [[115, 116, 97, 116, 101, 115], [59], [97, 99, 99, 101, 112, 116], [115, 104, 105, 102, 116], [112, 117, 115, 104], [112, 111, 112], [99, 111, 115, 116]]
def lenS : List Nat := [6, 1, 6, 5, 4, 3, 4]
def mvL : List (List Int32) := [[0, 1, 1, 1, 1, 1, 1, 2, 3, 3, 3, 3, 3, 3], [-1, 0, 1, 2, 3, 4, 5, -1, 0, 1, 2, 3, 4, 5]]
def mv (i j : Nat) : Int32 := (mvL.getD i []).getD j 0
def nmS (i : Nat) : String := match i with
  | 0 => "MOVE_OPERATIONS"
  | _ => "MOVE_KINDS"
def RO (g : GX) (U : State) (H : Heap) : Prop := vk_S 7 lenS bytS g.2.2.2.2.1 g.2.2.2.2.2.1 (Af g) U H ∧ (∀ i, i < 7 → vk_R "SyntaxRepair$GrammarText" (ixS i) (txS i) (g.2.2.2.2.1 i) U) ∧
  (∀ i, i < 2 → va_Z "SyntaxRepair" (nmS i) "[I" (.ref (g.2.2.2.2.2.2 i)) (Af g) U H ∧ va_T .int (g.2.2.2.2.2.2 i) 14 (fun j => .int (mv i j)) (Af g) U H) ∧
  va_Z "java/lang/String" "COMPACT_STRINGS" "Z" (.int 1) (Af g) U H ∧ va_Zq "jdk/internal/util/Preconditions" "SIOOBE_FORMATTER" "Ljava/util/function/BiFunction;" (Af g) U H
theorem RO.kept {g : GX} {U : State} {H H1 : Heap} (h : RO g U H) (hq : ∀ a : Nat, a < H.size → ¬ Af g a → H1[a]? = H[a]?) : RO g U H1 :=
  ⟨h.1.kept hq, h.2.1, fun i hi => ⟨(h.2.2.1 i hi).1.kept hq, (h.2.2.1 i hi).2.kept hq⟩, h.2.2.2.1.kept hq, h.2.2.2.2.kept hq⟩
theorem RO.warm {g : GX} {s U : State} {H : Heap} (hW : s.WarmedH U.vm) (h : RO g s H) : RO g U H :=
  ⟨h.1.moved hW.alike, fun i hi => (h.2.1 i hi).warm hW, fun i hi => ⟨(h.2.2.1 i hi).1.moved hW.alike, (h.2.2.1 i hi).2.moved hW.alike⟩, h.2.2.2.1.moved hW.alike, h.2.2.2.2.moved hW.alike⟩
/-! the world of a method, and the judgement V -/
def tyW (g : GX) : List (ClassId × FieldType) := [(g.2.2.1, .int), (g.2.2.2.1, .object "SyntaxRepair$Situation")]
def Wb (g : GX) (w : WX) (M : Mm) (U : State) : Prop := TB U ∧ va_K g.2.1 vwCl (tyW g) U ∧ RO g U U.heap ∧ U.heap.size = g.1 + w.1 ∧ va_P g.2.1 vwCl (wl g w M) U.heap
abbrev CX : Type := Program × Launch × Env × Room × State × MethodId × Array Value × List Frame × Method × Code
def lvl (vs : List (Option Value)) : List (Nat × Value) := (List.range vs.length).filterMap fun i => (vs.getD i none).map fun v => (i, v)
theorem lvl_mem {vs : List (Option Value)} {i : Nat} {v : Value} : (i, v) ∈ lvl vs ↔ vs[i]? = some (some v) := by
  simp only [lvl, List.mem_filterMap, List.mem_range, Option.map_eq_some_iff, Prod.mk.injEq]
  constructor
  · rintro ⟨j, hj, w, hw, rfl, rfl⟩
    rw [List.getD_eq_getElem?_getD] at hw
    rw [List.getElem?_eq_getElem hj] at hw ⊢
    exact congrArg some hw
  · intro h
    have hl := (List.getElem?_eq_some_iff.mp h).1
    exact ⟨i, hl, v, by rw [List.getD_eq_getElem?_getD, h]; rfl, rfl, rfl⟩
def Lc (ls : Array Slot) (nL : Nat) (vs : List (Option Value)) : Prop := (∀ v, some v ∈ vs → v.category = 1) ∧ lv_has ls nL (lvl vs)
theorem Lc.at {ls : Array Slot} {nL : Nat} {vs : List (Option Value)} (h : Lc ls nL vs) {i : Nat} {v : Value} (hv : vs[i]? = some (some v)) : ls[i]? = some (.val v) := h.2.2.2 (i, v) (lvl_mem.mpr hv)
theorem Lc.size {ls : Array Slot} {nL : Nat} {vs : List (Option Value)} (h : Lc ls nL vs) : ls.size = nL := h.2.1
theorem Lc.put {ls ls' : Array Slot} {nL : Nat} {vs : List (Option Value)} (h : Lc ls nL vs) {i : Nat} {v : Value} (hv : v.category = 1) (h' : lv_has ls' nL ((i, v) :: (lvl vs).filter (fun q => !(q.1 == i) && !(q.1 + 1 == i && q.2.category == 2)))) : Lc ls' nL (vs.set i (some v)) := by
  refine ⟨fun u hu => ?_, h'.1, h'.2.1, fun q hq => h'.2.2 q ?_⟩
  · rcases List.mem_or_eq_of_mem_set hu with hu | hu
    · exact h.1 u hu
    · cases hu; exact hv
  · obtain ⟨j, u⟩ := q
    have hq := lvl_mem.mp hq
    by_cases hj : i = j
    · subst hj
      have hl : i < vs.length := by
        have := (List.getElem?_eq_some_iff.mp hq).1
        simpa using this
      rw [List.getElem?_set_self hl] at hq
      cases hq
      exact List.mem_cons_self
    · rw [List.getElem?_set_ne hj] at hq
      refine List.mem_cons_of_mem _ (List.mem_filter.mpr ⟨lvl_mem.mpr hq, ?_⟩)
      have hu : u.category = 1 := h.1 u (List.mem_of_getElem? hq)
      simp [hu]
      exact fun q => hj q.symm
def lsub : List (Option Value) → List (Option Value) → Prop
  | [], _ => True
  | none :: t, [] => lsub t []
  | none :: t, _ :: t' => lsub t t'
  | some _ :: _, [] => False
  | some v :: t, w :: t' => w = some v ∧ lsub t t'
theorem lsub_at : ∀ {a b : List (Option Value)}, lsub a b → ∀ {i : Nat} {v : Value}, a[i]? = some (some v) → b[i]? = some (some v)
  | [], _, _, i, v, hv => by simp at hv
  | none :: t, [], h, i, v, hv => by
    cases i with
    | zero => simp at hv
    | succ i => simpa using lsub_at (a := t) (b := []) h (i := i) (by simpa using hv)
  | none :: t, _ :: t', h, i, v, hv => by
    cases i with
    | zero => simp at hv
    | succ i => simpa using lsub_at (a := t) (b := t') h (i := i) (by simpa using hv)
  | some _ :: _, [], h, _, _, _ => absurd h id
  | some u :: t, w :: t', h, i, v, hv => by
    cases i with
    | zero =>
      have h1 : u = v := by simpa using hv
      subst h1
      simp [h.1]
    | succ i => simpa using lsub_at (a := t) (b := t') h.2 (i := i) (by simpa using hv)
theorem Lc.sub {ls : Array Slot} {nL : Nat} {a b : List (Option Value)} (h : Lc ls nL b) (hs : lsub a b) : Lc ls nL a := by
  refine ⟨fun v hv => ?_, h.2.1, h.2.2.1, fun q hq => ?_⟩
  · obtain ⟨i, hi⟩ := List.getElem?_of_mem hv
    exact h.1 v (List.mem_of_getElem? (lsub_at hs hi))
  · obtain ⟨i, v⟩ := q
    exact h.2.2.2 (i, v) (lvl_mem.mpr (lsub_at hs (lvl_mem.mp hq)))
/-- the machine, on the way to Q, at pc, with locals vs, stack st, memory M -/
def V (X : CX) (g : GX) (w : WX) (nL k ns : Nat) (Q : State → Prop) (pc : Nat) (vs : List (Option Value)) (st : List Value) (M : Mm) : Prop :=
  ∀ (H : Heap) (locs : List Loc) (ls : Array Slot), Lc ls nL vs → H.size = g.1 + w.1 → va_P g.2.1 vwCl (wl g w M) H → va_S (Af g) X.2.2.2.2.1.heap H locs →
    W X.1 X.2.1 X.2.2.1 X.2.2.2.1 X.2.2.2.2.1 X.2.2.2.2.2.1 X.2.2.2.2.2.2.1 X.2.2.2.2.2.2.2.1 X.2.2.2.2.2.2.2.2.1 X.2.2.2.2.2.2.2.2.2 H locs k ns Q (F0 X.2.2.2.2.2.1 pc ls st)
/-- what a method's walk has at hand -/
def Cx (X : CX) (g : GX) (cc : ByteArray) (nL : Nat) (own : String) (ret : Option FieldType) (d : Nat) : Prop :=
  X.1.tables.exec = Jvm.exec ∧ X.2.2.2.2.2.2.2.2.2.code = cc ∧ X.2.2.2.2.1.vm.findClass own = some X.2.2.2.2.2.1.cls ∧ X.2.2.2.2.2.2.2.2.1.sig.returnType = ret ∧ X.2.2.2.2.2.2.2.2.2.maxLocals = nL ∧ X.2.2.2.2.2.2.2.2.1.locks = false ∧
  TB X.2.2.2.2.1 ∧ va_K g.2.1 vwCl (tyW g) X.2.2.2.2.1 ∧ RO g X.2.2.2.2.1 X.2.2.2.2.1.heap ∧ (d ≤ X.2.2.2.1.frames ∧ 36 * d ≤ X.2.2.2.1.locals) ∧ g.1 ≤ X.2.2.2.2.1.heap.size
def rmD (d : Nat) : Room := { frames := d, cells := 0, slots := 0, locals := 36 * d }
def zb (r : Int32) : Prop := r = 0 ∨ r = 1
def QI (X : CX) (g : GX) (w : WX) (post : Int32 → Mm → Prop) (k ns : Nat) : State → Prop := MQ X.2.2.2.2.2.2.2.1 (va_Qi post (Wb g w) (Af g)) X.2.2.2.2.2.2.1 X.2.2.2.2.1 k ns (Af g)
def QV (X : CX) (g : GX) (w : WX) (post : Mm → Prop) (k ns : Nat) : State → Prop := MQ X.2.2.2.2.2.2.2.1 (va_Qv post (Wb g w) (Af g)) X.2.2.2.2.2.2.1 X.2.2.2.2.1 k ns (Af g)
def QO (X : CX) (g : GX) (w : WX) (post : Option Nat → Mm → Prop) (k ns : Nat) : State → Prop := MQ X.2.2.2.2.2.2.2.1 (va_Qq (fun r M => ∃ q : Option Nat, r = q.map (fun c => g.1 + c) ∧ post q M) (Wb g w) (Af g)) X.2.2.2.2.2.2.1 X.2.2.2.2.1 k ns (Af g)
theorem wb_of {X : CX} {g : GX} {w : WX} {M : Mm} {H : Heap} {locs : List Loc} {cc : ByteArray} {nL d : Nat} {own : String} {ret : Option FieldType} (hC : Cx X g cc nL own ret d) (hz : H.size = g.1 + w.1) (hP : va_P g.2.1 vwCl (wl g w M) H) (hS : va_S (Af g) X.2.2.2.2.1.heap H locs) {t : State} (ht : t.heap = H) (hW : X.2.2.2.2.1.WarmedH t.vm) : Wb g w M t := by
  obtain ⟨hx, hb, ho, hr, hm, hl, hT, hK, hR, -⟩ := hC
  refine ⟨hT.warm hW, va_K.moved hW.alike hK, ?_, by rw [ht]; exact hz, by rw [ht]; exact hP⟩
  rw [ht]
  exact (hR.kept (fun a h1 h2 => hS.2.1 a h1 h2)).warm hW
theorem wb_blind {g : GX} {w : WX} {M : Mm} {av : List Value} : FrameBlind (va_Pc av (Wb g w M)) := by
  intro a U gf mk h
  obtain ⟨h1, h2, h3, h4, h5, h6⟩ := h
  have hW : U.WarmedH (U.calling gf mk a).vm := State.WarmedH.refl U
  exact ⟨h1, h2.warm hW, va_K.moved hW.alike h3, h4.warm hW, h5, h6⟩
def evs (av : List Value) (nL : Nat) : List (Option Value) := av.map some ++ List.replicate (nL - av.length) none
theorem lv_args_mem : ∀ (av : List Value) (i0 : Nat), (∀ v ∈ av, v.category = 1) → ∀ {j : Nat} {v : Value}, av[j]? = some v → (i0 + j, v) ∈ lv_args i0 av
  | [], _, _, j, v, h => by simp at h
  | u :: t, i0, hc, j, v, h => by
    have h1 : ¬ u.category = 2 := by rw [hc u List.mem_cons_self]; decide
    rw [lv_args, if_neg h1]
    cases j with
    | zero =>
      have : u = v := by simpa using h
      subst this
      exact List.mem_cons_self
    | succ j =>
      have := lv_args_mem t (i0 + 1) (fun w hw => hc w (List.mem_cons_of_mem _ hw)) (j := j) (v := v) (by simpa using h)
      rw [show i0 + (j + 1) = i0 + 1 + j by omega]
      exact List.mem_cons_of_mem _ this
theorem Lc.entry {av : List Value} {nL : Nat} (hc : ∀ v ∈ av, v.category = 1) (hn : (lg_sl av).length ≤ nL) : Lc ((lg_sl av ++ List.replicate (nL - (lg_sl av).length) Slot.unset).toArray) nL (evs av nL) := by
  refine ⟨fun v hv => ?_, ?_⟩
  · rcases List.mem_append.mp hv with h | h
    · obtain ⟨u, hu, e⟩ := List.mem_map.mp h
      cases e
      exact hc _ hu
    · exact absurd (List.eq_of_mem_replicate h) (by simp)
  · have h0 := lv_entry av hn
    refine ⟨h0.1, h0.2.1, fun q hq => h0.2.2 q ?_⟩
    obtain ⟨i, v⟩ := q
    have h1 := lvl_mem.mp hq
    have h2 : av[i]? = some v := by
      rw [evs] at h1
      by_cases hi : i < (av.map some).length
      · rw [List.getElem?_append_left hi, List.getElem?_map] at h1
        cases ha : av[i]? with
        | none => rw [ha] at h1; simp at h1
        | some u => rw [ha] at h1; simpa using h1
      · rw [List.getElem?_append_right (by omega)] at h1
        have := List.mem_of_getElem? h1
        exact absurd (List.eq_of_mem_replicate this) (by simp)
    have h3 := lv_args_mem av 0 hc h2
    rwa [Nat.zero_add] at h3
