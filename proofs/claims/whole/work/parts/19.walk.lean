theorem tw_18 : Cond.classLink RL 7 RX10 ∈ Tk := tk_at 18 (by decide +kernel) rfl
theorem tw_19 : Cond.instantiable RX10 7 ∈ Tk := tk_at 19 (by decide +kernel) rfl
theorem tw_1 : Cond.initialized RX10 ∈ Tk := tk_at 1 (by decide +kernel) rfl
theorem tw_20 : Cond.methodLink RL 9 yX10_init ∈ Tk := tk_at 20 (by decide +kernel) rfl
theorem tw_808 : Cond.classLink RL 10 RX11 ∈ Tk := tk_at 808 (by decide +kernel) rfl
theorem tw_809 : Cond.instantiable RX11 24 ∈ Tk := tk_at 809 (by decide +kernel) rfl
theorem tw_12 : Cond.initialized RX11 ∈ Tk := tk_at 12 (by decide +kernel) rfl
theorem tw_810 : Cond.methodLink RL 12 yX11_init ∈ Tk := tk_at 810 (by decide +kernel) rfl
def lw_P (b : Addr) (xs : List Int32) (args : Array Value) (s : State) : Prop := args = #[.ref b] ∧ s.IntsAt b xs ∧ xs.length ≤ 1536 ∧ (Jvm.Cond.and given_1 narrow_1).before args s = true
def lw_Q (_ : Array Value) (s : State) (o : Outcome) (t : State) : Prop := o = .returned (some (.int 1)) ∧ Framed s o t [] 600000 7302249
def lw_Z (below : List Frame) (a : Array Value) (s : State) : State → Prop := fun t => ∃ o, t.status = .running ∧ Ended t below o ∧ lw_Q a s o t
/-- the law's own end, with 1 on the stack, nothing written that was there before, its room as the claim has it -/
theorem lw_ret {p : Program} {l : Launch} {e : Env} {s : State} {m : MethodId} {below : List Frame} {meth : Method} {c : Code} {b : Nat} (hx : p.tables.exec = Jvm.exec) (hb : c.code = code) (hr : meth.sig.returnType = ret) (hlocks : meth.locks = false) {pc : Nat} {H : Heap} {ls : Array Slot} (hdg : decode code pc = .ok (.ireturn, 1)) : W p l e room_1 s m #[Value.ref b] below meth c H [] 600000 7302249 (lw_Z below #[Value.ref b] s) (F0 m pc ls [.int 1]) := by
  intro T hT X
  obtain ⟨fs, hret, hrun, hended, hW, hframe⟩ := X.leave (v := some (.int 1)) (hlocks := hlocks) (fun h => by rw [hr] at h; cases h)
  have hmeth' : T.vm.method? m = some meth := X.method'
  refine ⟨T.setFrames fs, ?_, .returned (some (.int 1)), hrun, hended, rfl, ⟨_, rfl⟩, hW, hframe⟩
  jvm_step X.here [X.here.top, hx, hb, hdg, hmeth', hr, ret, narrow_b1]
  (try refine ⟨rfl, ?_⟩); (try refine ⟨rfl, ?_⟩)
  first | (intro acts; rw [hret _ acts rfl rfl rfl]) | rw [hret _ _ rfl rfl rfl]
  exact Steps.refl _
/-- what holds at the law's entry: the machine, the code, the tables' words (any of lw_tbl by 'hts w (by decide +kernel)'), the script of L ints xs at the cell b, what the Statement gives of the start (any of its parts by flat_of_before) -/
def lw_At (p : Program) (s : State) (m : MethodId) (meth : Method) (c : Code) (b L : Nat) (xs : Nat → Int32) : Prop :=
  p.tables.exec = Jvm.exec ∧ c.code = code ∧ meth.sig.returnType = ret ∧ c.maxLocals = 4 ∧ s.vm.findClass R_law = some m.cls ∧ (∀ w ∈ lw_tbl, w.before #[Value.ref b] s = true) ∧ va_X b L xs s s.heap ∧ b < s.heap.size ∧ meth.locks = false ∧ (Jvm.Cond.and given_1 narrow_1).before #[Value.ref b] s = true
/-- THE LAW'S WALK over a relation R that the two objects keep -/
theorem V_lend {p : Program} {l : Launch} {e : Env} {s : State} {m : MethodId} {below : List Frame} {meth : Method} {c : Code} {b : Nat} {g : GX} {w : WX} {vs : List (Option Value)} {M : Mm} (hg : g.1 = s.heap.size)
    (hC : Cx (p, l, e, room_1, s, m, #[Value.ref b], below, meth, c) g code 4 RL ret 11) : V (p, l, e, room_1, s, m, #[Value.ref b], below, meth, c) g w 4 156 22012 (lw_Z below #[Value.ref b] s) 868 vs [] M := by
  refine V_iconst (v := 1) hC (by decide) dL_law_868 ?_
  intro H locs ls hL hz hP hS
  refine W.widen (k := 600000) (n := 7302249) (Nat.le_of_ble_eq_true rfl) (Nat.le_of_ble_eq_true rfl) ?_
  refine va_forget (fun q hq => by have := hS.2.2 q hq; rw [← hg]; exact this) ?_
  exact lw_ret hC.1 hC.2.1 hC.2.2.2.1 hC.2.2.2.2.2.1 dL_law_869
set_option maxRecDepth 100000 in
set_option maxHeartbeats 4000000 in
theorem whole_over (fu : Nat) (R : Mm → Prop) (h0 : f_SR_init fu (fun M1 => f_Md_init fu R 145 M1) 0 (fun _ _ => 0)) (hop : op_all fu R)
    {p : Program} {e : Env} {s : State} {m : MethodId} {below : List Frame} {meth : Method} {c : Code} (l : Launch) {b L : Nat} {xs : Nat → Int32} (hL : L ≤ 1536) (C0 : lw_At p s m meth c b L xs) : W p l e room_1 s m #[Value.ref b] below meth c s.heap [] 0 0 (lw_Z below #[Value.ref b] s) (entryFrame m ([Value.ref b] : List Value).toArray 4) := by
  obtain ⟨hx, hb, hr, hml, hown, hts, hX, hbl, hlocks, hgv⟩ := id C0
  obtain ⟨g, hg, hK, hR⟩ := st_RO hgv hts
  have hC : Cx (p, l, e, room_1, s, m, #[Value.ref b], below, meth, c) g code 4 RL ret 11 := ⟨hx, hb, hown, hr, hml, hlocks, TB.of hts, hK, hR, ⟨Nat.le_refl _, Nat.le_refl _⟩, Nat.le_of_eq hg⟩
  have hbA : ¬ Af g b := by show ¬ g.1 ≤ b; rw [hg]; exact Nat.not_le.mpr hbl
  have h : V (p, l, e, room_1, s, m, #[Value.ref b], below, meth, c) g (0, fun _ => none) 4 0 0 (lw_Z below #[Value.ref b] s) 0 (evs [.ref b] 4) [] (fun _ _ => 0) := by
    refine V_sub (us := [some (.ref b), none, none, none]) ⟨rfl, trivial⟩ ?_
    refine V_new (ci := 10) (fs := [.null, .null, .null, .null, .null, .null, .null]) hC rfl iw_10 tyX10 tyX10_ok tw_18 tw_19 tw_1 dfl_10 ⟨Nat.le_of_ble_eq_true rfl, Nat.le_of_ble_eq_true rfl⟩ dL_law_0 ?_
    refine V_dup hC rfl dL_law_3 ?_
    refine V_icall hC (c_SR_init l g (fun _ => none) fu _ 0 (fun _ _ => 0) (by decide +kernel) (fun _ _ => rfl) h0) mw_X10_init (by decide) tw_20 (Nat.le_of_ble_eq_true rfl) ⟨Nat.le_of_ble_eq_true rfl, Nat.le_of_ble_eq_true rfl⟩ dL_law_4 (fun M1 h1 => ?_)
    refine V_w (w' := (145, fun _ => none)) rfl ?_
    refine V_astore_n hC (by decide) dL_law_7 ?_
    refine V_new (ci := 11) (fs := [.null, .null, .null, .int 0, .null, .int 0, .int 0, .int 0, .int 0, .long 0, .int 0, .int 0, .int 0, .null, .null, .null, .int 0, .int 0, .int 0, .null, .null, .int 0, .int 0, .null]) hC rfl iw_11 tyX11 tyX11_ok tw_808 tw_809 tw_12 dfl_11 ⟨Nat.le_of_ble_eq_true rfl, Nat.le_of_ble_eq_true rfl⟩ dL_law_8 ?_
    refine V_dup hC rfl dL_law_11 ?_
    refine V_icall hC (c_Md_init l g (fun _ => none) fu _ 145 M1 (by decide +kernel) (fun _ _ => rfl) h1) mw_X11_init (by decide) tw_810 (Nat.le_of_ble_eq_true rfl) ⟨Nat.le_of_ble_eq_true rfl, Nat.le_of_ble_eq_true rfl⟩ dL_law_12 (fun M2 h2 => ?_)
    refine V_w (w' := (156, fun _ => none)) rfl ?_
    refine V_astore_n hC (by decide) dL_law_15 ?_
    refine V_iconst (v := 0) hC (by decide) dL_law_16 ?_
    refine V_istore_n hC (by decide) dL_law_17 ?_
    refine V_sub (us := [some (.ref b), some (ob g 0), some (ob g 145), some (.int (nI 0))]) ⟨rfl, rfl, rfl, rfl, trivial⟩ ?_
    exact law_loop hC ⟨Nat.le_of_ble_eq_true rfl, Nat.le_of_ble_eq_true rfl⟩ hX hbl hbA hL hop (fun M i => V_lend hg hC) (L + 3) 0 M2 (by omega) (by omega) h2
  rw [lg_entry_eq]
  refine h s.heap [] _ (Lc.entry (av := [.ref b]) (nL := 4) (fun v hv => by rw [List.mem_singleton.mp hv]; rfl) (Nat.le_of_ble_eq_true rfl)) (by rw [hg]; rfl) (fun j q hq => by simp [wl] at hq) va_S.rf
