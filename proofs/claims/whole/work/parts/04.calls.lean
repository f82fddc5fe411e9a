/-! calls and entries -/
def MW (y : MethodName) (bytes : ByteArray) (maxL : Nat) (ret : Option FieldType) (n : Nat) : Prop :=
  Cond.code y bytes maxL ret ∈ Tk ∧ Cond.initialized y.cls ∈ Tk ∧ (y.cls ≠ "java/lang/invoke/MethodHandle" ∧ y.cls ≠ "java/lang/invoke/VarHandle") ∧ (parseMethodDescriptor y.desc).map (fun d => d.parameters.length) = some n ∧ maxL ≤ 17
def MI (y : MethodName) (bytes : ByteArray) (maxL : Nat) (ret : Option FieldType) (n : Nat) : Prop := MW y bytes maxL ret n ∧ Cond.instanceMethod y ∈ Tk ∧ Cond.selects y.cls y y ∈ Tk
def MS (y : MethodName) (bytes : ByteArray) (maxL : Nat) (ret : Option FieldType) (n : Nat) : Prop := MW y bytes maxL ret n ∧ Cond.static y ∈ Tk
def MC (y : MethodName) (bytes : ByteArray) (maxL n : Nat) : Prop := MW y bytes maxL none n ∧ Cond.instanceMethod y ∈ Tk ∧ y.name = "<init>"
theorem ent_obj {g : GX} {f : Nat → Int32} {t ci : Nat} (h : kd t = ci) (hc : ci ≤ 11) : ∃ fs, ent g f t = .inr (ci, fs) := by
  unfold ent
  rw [h]
  have : ci = 0 ∨ ci = 1 ∨ ci = 2 ∨ ci = 3 ∨ ci = 4 ∨ ci = 5 ∨ ci = 6 ∨ ci = 7 ∨ ci = 8 ∨ ci = 9 ∨ ci = 10 ∨ ci = 11 := by omega
  rcases this with rfl | rfl | rfl | rfl | rfl | rfl | rfl | rfl | rfl | rfl | rfl | rfl <;> exact ⟨_, rfl⟩
section CALLS
variable {X : CX} {g : GX} {w : WX} {cc : ByteArray} {nL k ns d : Nat} {own : String} {ret : Option FieldType} {Q : State → Prop} {pc : Nat} {vs : List (Option Value)} {st : List Value} {M : Mm}
variable {y : MethodName} {bytes : ByteArray} {maxL n d2 mc ms index : Nat} {ret2 : Option FieldType}
def rmC (d mc ms : Nat) : Room := { frames := d, cells := mc, slots := ms, locals := 36 * d }
theorem tk_word {s U : State} {a' : Array Value} (hT : TB s) {c : Cond} (hc : c ∈ Tk) (hW : s.WarmedH U.vm) : c.before a' U = true := (hT.warm hW).hts c hc
theorem cb_of (hC : Cx X g cc nL own ret d) (hm : MW y bytes maxL ret2 n) (hd : d2 < d) :
    (rmC d2 mc ms).cells = mc ∧ (rmC d2 mc ms).slots = ms ∧ (rmC d2 mc ms).frames + 1 ≤ X.2.2.2.1.frames ∧ 8 + (maxL + 11) + (rmC d2 mc ms).locals ≤ X.2.2.2.1.locals ∧ (∀ w ∈ [Cond.code y bytes maxL ret2], ∀ (a' : Array Value) (U : State), X.2.2.2.2.1.WarmedH U.vm → w.before a' U = true) ∧ Cond.code y bytes maxL ret2 ∈ [Cond.code y bytes maxL ret2] := by
  obtain ⟨h1, h2, h3, h4, h5⟩ := hm
  have hR := hC.2.2.2.2.2.2.2.2.2.1
  refine ⟨rfl, rfl, by show d2 + 1 ≤ _; omega, by show 8 + (maxL + 11) + 36 * d2 ≤ _; omega, fun w hw a' U hW => ?_, List.mem_cons_self⟩
  rw [List.mem_singleton.mp hw]
  exact tk_word hC.2.2.2.2.2.2.1 h1 hW
theorem np_of (hm : MW y bytes maxL ret2 n) : ∀ sig, parseMethodDescriptor y.desc = some sig → n = sig.parameters.length := fun sig h => by
  have h4 := hm.2.2.2.1
  rw [h] at h4
  exact (Option.some.inj h4).symm
theorem cbB (hC : Cx X g cc nL own ret d) (hm : MW y bytes maxL ret2 n) (hd : d2 < d) (hw : Cond.methodLink own index y ∈ Tk) : CallB X.2.2.2.1 X.2.2.2.2.1 X.2.2.2.2.2.2.1 own index y bytes maxL ret2 [Cond.code y bytes maxL ret2] (rmC d2 mc ms) mc ms n := by
  obtain ⟨a1, a2, a3, a4, a5, a6⟩ := cb_of (mc := mc) (ms := ms) hC hm hd
  have hts : ∀ c ∈ Tk, c.before X.2.2.2.2.2.2.1 X.2.2.2.2.1 = true := hC.2.2.2.2.2.2.1.hts
  exact ⟨a1, a2, a3, a4, a5, a6, hts _ hm.1, hts _ hm.2.1, hm.2.2.1, np_of hm, hts _ hw⟩
theorem cbN {host : String} (hC : Cx X g cc nL own ret d) (hm : MW y bytes maxL ret2 n) (hd : d2 < d) (hw : Cond.methodLinkNest own index y host ∈ Tk) : va_CN X.2.2.2.1 X.2.2.2.2.1 X.2.2.2.2.2.2.1 own index y host bytes maxL ret2 [Cond.code y bytes maxL ret2] (rmC d2 mc ms) mc ms n := by
  have hts : ∀ c ∈ Tk, c.before X.2.2.2.2.2.2.1 X.2.2.2.2.1 = true := hC.2.2.2.2.2.2.1.hts
  exact ⟨cb_of (mc := mc) (ms := ms) hC hm hd, hts _ hm.1, hts _ hm.2.1, hm.2.2.1, np_of hm, hts _ hw⟩
theorem fix_of (hC : Cx X g cc nL own ret d) : CallFix X.1 X.2.2.2.2.2.1 X.2.2.2.2.2.2.2.2.2 cc nL X.2.2.2.2.1 X.2.2.2.2.2.2.1 Tk own := ⟨hC.1, hC.2.1, hC.2.2.2.2.1, hC.2.2.1, hC.2.2.2.2.2.2.1.hts⟩
theorem preS_of (hC : Cx X g cc nL own ret d) {As : List Value} {H : Heap} {locs : List Loc} (hz : H.size = g.1 + w.1) (hP : va_P g.2.1 vwCl (wl g w M) H) (hS : va_S (Af g) X.2.2.2.2.1.heap H locs) : PreS X.2.2.2.2.1 H (va_Pc As (Wb g w M)) As :=
  ⟨wb_blind, fun U hU hW => ⟨rfl, wb_of hC hz hP hS hU hW⟩⟩
theorem preV_of (hC : Cx X g cc nL own ret d) {As : List Value} {H : Heap} {locs : List Loc} {t ci N : Nat} {T : u_T} (hk : ok w t ci) (h0 : 0 < sz ci) (hci : ci ≤ 11) (hc : vwCl[ci]? = some (y.cls, T, N)) (hz : H.size = g.1 + w.1) (hP : va_P g.2.1 vwCl (wl g w M) H) (hS : va_S (Af g) X.2.2.2.2.1.heap H locs) : PreV X.2.2.2.2.1 H y.cls (g.1 + t) (va_Pc (ob g t :: As) (Wb g w M)) As := by
  obtain ⟨h1, h2, h3⟩ := en_ok (g := g) (M := M) hk h0
  obtain ⟨fs, hfs⟩ := ent_obj (g := g) (f := M t) h3 hci
  exact ⟨wb_blind, va_recv hC.2.2.2.2.2.2.2.1 hP hc ((wl_at h1).trans (by rw [h2, hfs])), fun U hU hW => ⟨rfl, wb_of hC hz hP hS hU hW⟩⟩
/-- what a callee's end gives its caller -/
theorem behind_i {post : Int32 → Mm → Prop} {w' : WX} {H : Heap} {locs : List Loc} {ls : Array Slot} {st0 : List Value} {a : Array Value} (hL : Lc ls nL vs) (hS : va_S (Af g) X.2.2.2.2.1.heap H locs)
    (hr : va_Run X.1 X.2.1 X.2.2.1 X.2.2.2.1 X.2.2.2.2.1 X.2.2.2.2.2.1 X.2.2.2.2.2.2.1 X.2.2.2.2.2.2.2.1 X.2.2.2.2.2.2.2.2.1 X.2.2.2.2.2.2.2.2.2 H locs k ns mc ms (F0 X.2.2.2.2.2.1 pc ls st0) st (va_Qi post (Wb g w') (Af g) a) (Af g))
    (kk : ∀ r M', post r M' → V X g w' nL (k + mc) (ns + ms) Q (pc + 3) vs (.int r :: st) M') :
    W X.1 X.2.1 X.2.2.1 X.2.2.2.1 X.2.2.2.2.1 X.2.2.2.2.2.1 X.2.2.2.2.2.2.1 X.2.2.2.2.2.2.2.1 X.2.2.2.2.2.2.2.2.1 X.2.2.2.2.2.2.2.2.2 H locs k ns Q (F0 X.2.2.2.2.2.1 pc ls st0) :=
  va_calli hr hS (fun _ _ h => h) (fun _ h => h) (fun r u t H1 locs1 ht _ hp hB _ _ hS1 => kk r u hp H1 locs1 ls hL (by rw [← ht]; exact hB.2.2.2.1) (by rw [← ht]; exact hB.2.2.2.2) hS1)
theorem behind_v {post : Mm → Prop} {w' : WX} {H : Heap} {locs : List Loc} {ls : Array Slot} {st0 : List Value} {a : Array Value} (hL : Lc ls nL vs) (hS : va_S (Af g) X.2.2.2.2.1.heap H locs)
    (hr : va_Run X.1 X.2.1 X.2.2.1 X.2.2.2.1 X.2.2.2.2.1 X.2.2.2.2.2.1 X.2.2.2.2.2.2.1 X.2.2.2.2.2.2.2.1 X.2.2.2.2.2.2.2.2.1 X.2.2.2.2.2.2.2.2.2 H locs k ns mc ms (F0 X.2.2.2.2.2.1 pc ls st0) st (va_Qv post (Wb g w') (Af g) a) (Af g))
    (kk : ∀ M', post M' → V X g w' nL (k + mc) (ns + ms) Q (pc + 3) vs st M') :
    W X.1 X.2.1 X.2.2.1 X.2.2.2.1 X.2.2.2.2.1 X.2.2.2.2.2.1 X.2.2.2.2.2.2.1 X.2.2.2.2.2.2.2.1 X.2.2.2.2.2.2.2.2.1 X.2.2.2.2.2.2.2.2.2 H locs k ns Q (F0 X.2.2.2.2.2.1 pc ls st0) :=
  va_callv hr hS (fun _ _ h => h) (fun _ h => h) (fun u t H1 locs1 ht _ hp hB _ _ hS1 => kk u hp H1 locs1 ls hL (by rw [← ht]; exact hB.2.2.2.1) (by rw [← ht]; exact hB.2.2.2.2) hS1)
theorem behind_o {post : Option Nat → Mm → Prop} {w' : WX} {H : Heap} {locs : List Loc} {ls : Array Slot} {st0 : List Value} {a : Array Value} (hL : Lc ls nL vs) (hS : va_S (Af g) X.2.2.2.2.1.heap H locs)
    (hr : va_Run X.1 X.2.1 X.2.2.1 X.2.2.2.1 X.2.2.2.2.1 X.2.2.2.2.2.1 X.2.2.2.2.2.2.1 X.2.2.2.2.2.2.2.1 X.2.2.2.2.2.2.2.2.1 X.2.2.2.2.2.2.2.2.2 H locs k ns mc ms (F0 X.2.2.2.2.2.1 pc ls st0) st (va_Qq (fun r M => ∃ q : Option Nat, r = q.map (fun c => g.1 + c) ∧ post q M) (Wb g w') (Af g) a) (Af g))
    (kk : ∀ r M', post r M' → V X g w' nL (k + mc) (ns + ms) Q (pc + 3) vs (va_rf (r.map fun c => g.1 + c) :: st) M') :
    W X.1 X.2.1 X.2.2.1 X.2.2.2.1 X.2.2.2.2.1 X.2.2.2.2.2.1 X.2.2.2.2.2.2.1 X.2.2.2.2.2.2.2.1 X.2.2.2.2.2.2.2.2.1 X.2.2.2.2.2.2.2.2.2 H locs k ns Q (F0 X.2.2.2.2.2.1 pc ls st0) :=
  va_callq hr hS (fun _ _ h => h) (fun _ h => h) (fun r u t H1 locs1 ht _ hp hB _ _ hS1 => by
    obtain ⟨q, rfl, hq⟩ := hp
    exact kk q u hq H1 locs1 ls hL (by rw [← ht]; exact hB.2.2.2.1) (by rw [← ht]; exact hB.2.2.2.2) hS1)
theorem V_calli (hC : Cx X g cc nL own ret d) {post : Int32 → Mm → Prop} {t ci N : Nat} {T : u_T} {As : List Value} (hM : Met X.2.1 y [Cond.code y bytes maxL ret2] (rmC d2 0 0) (va_Pc (ob g t :: As) (Wb g w M)) (va_Qi post (Wb g w) (Af g)) 0 0 (Af g)) (hm : MI y bytes maxL ret2 n) (hd2 : d2 < d) (hw : Cond.methodLink own index y ∈ Tk) (hk : ok w t ci) (hci : 0 < sz ci ∧ ci ≤ 11) (hc : vwCl[ci]? = some (y.cls, T, N)) (hn : As.length = n) {stk : List Value} (hstk : stk = As.reverse ++ ob g t :: st) (hcat : (st.map fun v => v.category).sum ≤ 8) (hr : k ≤ X.2.2.2.1.cells ∧ ns ≤ X.2.2.2.1.slots) (hd : decode cc pc = .ok (.invokevirtual index, 3)) (kk : ∀ r M', post r M' → V X g w nL k ns Q (pc + 3) vs (.int r :: st) M') : V X g w nL k ns Q pc vs stk M :=
  fun H locs ls hL hz hP hS => by
    have hts : ∀ c ∈ Tk, c.before X.2.2.2.2.2.2.1 X.2.2.2.2.1 = true := hC.2.2.2.2.2.2.1.hts
    exact behind_i hL hS (va_runV (C := y.cls) (b := g.1 + t) (As := As) (rest := st) (fix_of hC) hM ⟨cbB hC hm.1 hd2 hw, hts _ hm.2.1, hts _ hm.2.2⟩ (preV_of hC hk hci.1 hci.2 hc hz hP hS) rfl hn hL.size hstk (lv_room hcat) hd hr) kk
theorem V_scalli (hC : Cx X g cc nL own ret d) {post : Int32 → Mm → Prop} {As : List Value} (hM : Met X.2.1 y [Cond.code y bytes maxL ret2] (rmC d2 0 0) (va_Pc As (Wb g w M)) (va_Qi post (Wb g w) (Af g)) 0 0 (Af g)) (hm : MS y bytes maxL ret2 n) (hd2 : d2 < d) (hw : Cond.methodLink own index y ∈ Tk) (hn : As.length = n) {stk : List Value} (hstk : stk = As.reverse ++ st) (hcat : (st.map fun v => v.category).sum ≤ 8) (hr : k ≤ X.2.2.2.1.cells ∧ ns ≤ X.2.2.2.1.slots) (hd : decode cc pc = .ok (.invokestatic index, 3)) (kk : ∀ r M', post r M' → V X g w nL k ns Q (pc + 3) vs (.int r :: st) M') : V X g w nL k ns Q pc vs stk M :=
  fun H locs ls hL hz hP hS => by
    have hts : ∀ c ∈ Tk, c.before X.2.2.2.2.2.2.1 X.2.2.2.2.1 = true := hC.2.2.2.2.2.2.1.hts
    exact behind_i hL hS (va_runS (As := As) (rest := st) (fix_of hC) hM ⟨cbB hC hm.1 hd2 hw, hts _ hm.2⟩ (preS_of hC hz hP hS) rfl hn hL.size hstk (lv_room hcat) hd hr) kk
theorem V_calliN (hC : Cx X g cc nL own ret d) {host : String} {post : Int32 → Mm → Prop} {t ci N : Nat} {T : u_T} {As : List Value} (hM : Met X.2.1 y [Cond.code y bytes maxL ret2] (rmC d2 0 0) (va_Pc (ob g t :: As) (Wb g w M)) (va_Qi post (Wb g w) (Af g)) 0 0 (Af g)) (hm : MI y bytes maxL ret2 n) (hd2 : d2 < d) (hw : Cond.methodLinkNest own index y host ∈ Tk) (hk : ok w t ci) (hci : 0 < sz ci ∧ ci ≤ 11) (hc : vwCl[ci]? = some (y.cls, T, N)) (hn : As.length = n) {stk : List Value} (hstk : stk = As.reverse ++ ob g t :: st) (hcat : (st.map fun v => v.category).sum ≤ 8) (hr : k ≤ X.2.2.2.1.cells ∧ ns ≤ X.2.2.2.1.slots) (hd : decode cc pc = .ok (.invokevirtual index, 3)) (kk : ∀ r M', post r M' → V X g w nL k ns Q (pc + 3) vs (.int r :: st) M') : V X g w nL k ns Q pc vs stk M :=
  fun H locs ls hL hz hP hS => by
    have hts : ∀ c ∈ Tk, c.before X.2.2.2.2.2.2.1 X.2.2.2.2.1 = true := hC.2.2.2.2.2.2.1.hts
    exact behind_i hL hS (va_runVN (C := y.cls) (b := g.1 + t) (As := As) (rest := st) (fix_of hC) hM ⟨cbN hC hm.1 hd2 hw, hts _ hm.2.1, hts _ hm.2.2⟩ (preV_of hC hk hci.1 hci.2 hc hz hP hS) rfl hn hL.size hstk (lv_room hcat) hd hr) kk
theorem V_scalliN (hC : Cx X g cc nL own ret d) {host : String} {post : Int32 → Mm → Prop} {As : List Value} (hM : Met X.2.1 y [Cond.code y bytes maxL ret2] (rmC d2 0 0) (va_Pc As (Wb g w M)) (va_Qi post (Wb g w) (Af g)) 0 0 (Af g)) (hm : MS y bytes maxL ret2 n) (hd2 : d2 < d) (hw : Cond.methodLinkNest own index y host ∈ Tk) (hn : As.length = n) {stk : List Value} (hstk : stk = As.reverse ++ st) (hcat : (st.map fun v => v.category).sum ≤ 8) (hr : k ≤ X.2.2.2.1.cells ∧ ns ≤ X.2.2.2.1.slots) (hd : decode cc pc = .ok (.invokestatic index, 3)) (kk : ∀ r M', post r M' → V X g w nL k ns Q (pc + 3) vs (.int r :: st) M') : V X g w nL k ns Q pc vs stk M :=
  fun H locs ls hL hz hP hS => by
    have hts : ∀ c ∈ Tk, c.before X.2.2.2.2.2.2.1 X.2.2.2.2.1 = true := hC.2.2.2.2.2.2.1.hts
    exact behind_i hL hS (va_runSN (As := As) (rest := st) (fix_of hC) hM ⟨cbN hC hm.1 hd2 hw, hts _ hm.2, trivial⟩ (preS_of hC hz hP hS) rfl hn hL.size hstk (lv_room hcat) hd hr) kk
theorem V_callv (hC : Cx X g cc nL own ret d) {post : Mm → Prop} {t ci N : Nat} {T : u_T} {As : List Value} (hM : Met X.2.1 y [Cond.code y bytes maxL ret2] (rmC d2 0 0) (va_Pc (ob g t :: As) (Wb g w M)) (va_Qv post (Wb g w) (Af g)) 0 0 (Af g)) (hm : MI y bytes maxL ret2 n) (hd2 : d2 < d) (hw : Cond.methodLink own index y ∈ Tk) (hk : ok w t ci) (hci : 0 < sz ci ∧ ci ≤ 11) (hc : vwCl[ci]? = some (y.cls, T, N)) (hn : As.length = n) {stk : List Value} (hstk : stk = As.reverse ++ ob g t :: st) (hcat : (st.map fun v => v.category).sum ≤ 8) (hr : k ≤ X.2.2.2.1.cells ∧ ns ≤ X.2.2.2.1.slots) (hd : decode cc pc = .ok (.invokevirtual index, 3)) (kk : ∀ M', post M' → V X g w nL k ns Q (pc + 3) vs st M') : V X g w nL k ns Q pc vs stk M :=
  fun H locs ls hL hz hP hS => by
    have hts : ∀ c ∈ Tk, c.before X.2.2.2.2.2.2.1 X.2.2.2.2.1 = true := hC.2.2.2.2.2.2.1.hts
    exact behind_v hL hS (va_runV (C := y.cls) (b := g.1 + t) (As := As) (rest := st) (fix_of hC) hM ⟨cbB hC hm.1 hd2 hw, hts _ hm.2.1, hts _ hm.2.2⟩ (preV_of hC hk hci.1 hci.2 hc hz hP hS) rfl hn hL.size hstk (lv_room hcat) hd hr) kk
theorem V_scallv (hC : Cx X g cc nL own ret d) {post : Mm → Prop} {As : List Value} (hM : Met X.2.1 y [Cond.code y bytes maxL ret2] (rmC d2 0 0) (va_Pc As (Wb g w M)) (va_Qv post (Wb g w) (Af g)) 0 0 (Af g)) (hm : MS y bytes maxL ret2 n) (hd2 : d2 < d) (hw : Cond.methodLink own index y ∈ Tk) (hn : As.length = n) {stk : List Value} (hstk : stk = As.reverse ++ st) (hcat : (st.map fun v => v.category).sum ≤ 8) (hr : k ≤ X.2.2.2.1.cells ∧ ns ≤ X.2.2.2.1.slots) (hd : decode cc pc = .ok (.invokestatic index, 3)) (kk : ∀ M', post M' → V X g w nL k ns Q (pc + 3) vs st M') : V X g w nL k ns Q pc vs stk M :=
  fun H locs ls hL hz hP hS => by
    have hts : ∀ c ∈ Tk, c.before X.2.2.2.2.2.2.1 X.2.2.2.2.1 = true := hC.2.2.2.2.2.2.1.hts
    exact behind_v hL hS (va_runS (As := As) (rest := st) (fix_of hC) hM ⟨cbB hC hm.1 hd2 hw, hts _ hm.2⟩ (preS_of hC hz hP hS) rfl hn hL.size hstk (lv_room hcat) hd hr) kk
theorem V_callvN (hC : Cx X g cc nL own ret d) {host : String} {post : Mm → Prop} {t ci N : Nat} {T : u_T} {As : List Value} (hM : Met X.2.1 y [Cond.code y bytes maxL ret2] (rmC d2 0 0) (va_Pc (ob g t :: As) (Wb g w M)) (va_Qv post (Wb g w) (Af g)) 0 0 (Af g)) (hm : MI y bytes maxL ret2 n) (hd2 : d2 < d) (hw : Cond.methodLinkNest own index y host ∈ Tk) (hk : ok w t ci) (hci : 0 < sz ci ∧ ci ≤ 11) (hc : vwCl[ci]? = some (y.cls, T, N)) (hn : As.length = n) {stk : List Value} (hstk : stk = As.reverse ++ ob g t :: st) (hcat : (st.map fun v => v.category).sum ≤ 8) (hr : k ≤ X.2.2.2.1.cells ∧ ns ≤ X.2.2.2.1.slots) (hd : decode cc pc = .ok (.invokevirtual index, 3)) (kk : ∀ M', post M' → V X g w nL k ns Q (pc + 3) vs st M') : V X g w nL k ns Q pc vs stk M :=
  fun H locs ls hL hz hP hS => by
    have hts : ∀ c ∈ Tk, c.before X.2.2.2.2.2.2.1 X.2.2.2.2.1 = true := hC.2.2.2.2.2.2.1.hts
    exact behind_v hL hS (va_runVN (C := y.cls) (b := g.1 + t) (As := As) (rest := st) (fix_of hC) hM ⟨cbN hC hm.1 hd2 hw, hts _ hm.2.1, hts _ hm.2.2⟩ (preV_of hC hk hci.1 hci.2 hc hz hP hS) rfl hn hL.size hstk (lv_room hcat) hd hr) kk
theorem V_scallvN (hC : Cx X g cc nL own ret d) {host : String} {post : Mm → Prop} {As : List Value} (hM : Met X.2.1 y [Cond.code y bytes maxL ret2] (rmC d2 0 0) (va_Pc As (Wb g w M)) (va_Qv post (Wb g w) (Af g)) 0 0 (Af g)) (hm : MS y bytes maxL ret2 n) (hd2 : d2 < d) (hw : Cond.methodLinkNest own index y host ∈ Tk) (hn : As.length = n) {stk : List Value} (hstk : stk = As.reverse ++ st) (hcat : (st.map fun v => v.category).sum ≤ 8) (hr : k ≤ X.2.2.2.1.cells ∧ ns ≤ X.2.2.2.1.slots) (hd : decode cc pc = .ok (.invokestatic index, 3)) (kk : ∀ M', post M' → V X g w nL k ns Q (pc + 3) vs st M') : V X g w nL k ns Q pc vs stk M :=
  fun H locs ls hL hz hP hS => by
    have hts : ∀ c ∈ Tk, c.before X.2.2.2.2.2.2.1 X.2.2.2.2.1 = true := hC.2.2.2.2.2.2.1.hts
    exact behind_v hL hS (va_runSN (As := As) (rest := st) (fix_of hC) hM ⟨cbN hC hm.1 hd2 hw, hts _ hm.2, trivial⟩ (preS_of hC hz hP hS) rfl hn hL.size hstk (lv_room hcat) hd hr) kk
theorem V_callo (hC : Cx X g cc nL own ret d) {post : Option Nat → Mm → Prop} {t ci N : Nat} {T : u_T} {As : List Value} (hM : Met X.2.1 y [Cond.code y bytes maxL ret2] (rmC d2 0 0) (va_Pc (ob g t :: As) (Wb g w M)) (va_Qq (fun r M => ∃ q : Option Nat, r = q.map (fun c => g.1 + c) ∧ post q M) (Wb g w) (Af g)) 0 0 (Af g)) (hm : MI y bytes maxL ret2 n) (hd2 : d2 < d) (hw : Cond.methodLink own index y ∈ Tk) (hk : ok w t ci) (hci : 0 < sz ci ∧ ci ≤ 11) (hc : vwCl[ci]? = some (y.cls, T, N)) (hn : As.length = n) {stk : List Value} (hstk : stk = As.reverse ++ ob g t :: st) (hcat : (st.map fun v => v.category).sum ≤ 8) (hr : k ≤ X.2.2.2.1.cells ∧ ns ≤ X.2.2.2.1.slots) (hd : decode cc pc = .ok (.invokevirtual index, 3)) (kk : ∀ r M', post r M' → V X g w nL k ns Q (pc + 3) vs (va_rf (r.map fun c => g.1 + c) :: st) M') : V X g w nL k ns Q pc vs stk M :=
  fun H locs ls hL hz hP hS => by
    have hts : ∀ c ∈ Tk, c.before X.2.2.2.2.2.2.1 X.2.2.2.2.1 = true := hC.2.2.2.2.2.2.1.hts
    exact behind_o hL hS (va_runV (C := y.cls) (b := g.1 + t) (As := As) (rest := st) (fix_of hC) hM ⟨cbB hC hm.1 hd2 hw, hts _ hm.2.1, hts _ hm.2.2⟩ (preV_of hC hk hci.1 hci.2 hc hz hP hS) rfl hn hL.size hstk (lv_room hcat) hd hr) kk
end CALLS
/-- from a walk of the body to the contract -/
theorem Ct_i {l : Launch} {g : GX} {w : WX} {y : MethodName} {cc : ByteArray} {nL d : Nat} {own : String} {ret : Option FieldType} {av : List Value} {M : Mm} {post : Int32 → Mm → Prop} (hy : plainName y.cls = true) (ho : y.cls = own) (hcat : ∀ v ∈ av, v.category = 1) (hn : (lg_sl av).length ≤ nL) (hsz : g.1 ≤ g.1)
    (body : ∀ X : CX, X.2.1 = l → X.2.2.2.2.2.2.1 = av.toArray → Cx X g cc nL own ret d → V X g w nL 0 0 (QI X g w post 0 0) 0 (evs av nL) [] M) :
    Met l y [Cond.code y cc nL ret] (rmC d 0 0) (va_Pc av (Wb g w M)) (va_Qi post (Wb g w) (Af g)) 0 0 (Af g) := by
  refine Met.ofW (cc := cc) (maxL := nL) (ret := ret) hy rfl ?_
  intro p e s m args below meth c s₁ B hml hv
  obtain ⟨rfl, hT, hK, hR, hz, hP⟩ := hv
  have hC : Cx (p, l, e, (headSpec [Cond.code y cc nL ret] (rmC d 0 0)).room, s, m, av.toArray, below, meth, c) g cc nL own ret d :=
    ⟨B.exec, B.bytes, ho ▸ findClass_of_methodNamed B.named, B.returns, hml, B.notSynchronized, hT, hK, hR, ⟨Nat.le_refl d, Nat.le_refl (36 * d)⟩, by show g.1 ≤ s.heap.size; omega⟩
  have h0 := body _ rfl rfl hC s.heap [] _ (Lc.entry hcat hn) hz hP va_S.rf
  rw [lg_entry_eq]
  exact h0
/-- from a walk of the body to the contract -/
theorem Ct_v {l : Launch} {g : GX} {w : WX} {y : MethodName} {cc : ByteArray} {nL d : Nat} {own : String} {ret : Option FieldType} {av : List Value} {M : Mm} {post : Mm → Prop} (hy : plainName y.cls = true) (ho : y.cls = own) (hcat : ∀ v ∈ av, v.category = 1) (hn : (lg_sl av).length ≤ nL) (hsz : g.1 ≤ g.1)
    (body : ∀ X : CX, X.2.1 = l → X.2.2.2.2.2.2.1 = av.toArray → Cx X g cc nL own ret d → V X g w nL 0 0 (QV X g w post 0 0) 0 (evs av nL) [] M) :
    Met l y [Cond.code y cc nL ret] (rmC d 0 0) (va_Pc av (Wb g w M)) (va_Qv post (Wb g w) (Af g)) 0 0 (Af g) := by
  refine Met.ofW (cc := cc) (maxL := nL) (ret := ret) hy rfl ?_
  intro p e s m args below meth c s₁ B hml hv
  obtain ⟨rfl, hT, hK, hR, hz, hP⟩ := hv
  have hC : Cx (p, l, e, (headSpec [Cond.code y cc nL ret] (rmC d 0 0)).room, s, m, av.toArray, below, meth, c) g cc nL own ret d :=
    ⟨B.exec, B.bytes, ho ▸ findClass_of_methodNamed B.named, B.returns, hml, B.notSynchronized, hT, hK, hR, ⟨Nat.le_refl d, Nat.le_refl (36 * d)⟩, by show g.1 ≤ s.heap.size; omega⟩
  have h0 := body _ rfl rfl hC s.heap [] _ (Lc.entry hcat hn) hz hP va_S.rf
  rw [lg_entry_eq]
  exact h0
/-- from a walk of the body to the contract -/
theorem Ct_o {l : Launch} {g : GX} {w : WX} {y : MethodName} {cc : ByteArray} {nL d : Nat} {own : String} {ret : Option FieldType} {av : List Value} {M : Mm} {post : Option Nat → Mm → Prop} (hy : plainName y.cls = true) (ho : y.cls = own) (hcat : ∀ v ∈ av, v.category = 1) (hn : (lg_sl av).length ≤ nL) (hsz : g.1 ≤ g.1)
    (body : ∀ X : CX, X.2.1 = l → X.2.2.2.2.2.2.1 = av.toArray → Cx X g cc nL own ret d → V X g w nL 0 0 (QO X g w post 0 0) 0 (evs av nL) [] M) :
    Met l y [Cond.code y cc nL ret] (rmC d 0 0) (va_Pc av (Wb g w M)) (va_Qq (fun r M => ∃ q : Option Nat, r = q.map (fun c => g.1 + c) ∧ post q M) (Wb g w) (Af g)) 0 0 (Af g) := by
  refine Met.ofW (cc := cc) (maxL := nL) (ret := ret) hy rfl ?_
  intro p e s m args below meth c s₁ B hml hv
  obtain ⟨rfl, hT, hK, hR, hz, hP⟩ := hv
  have hC : Cx (p, l, e, (headSpec [Cond.code y cc nL ret] (rmC d 0 0)).room, s, m, av.toArray, below, meth, c) g cc nL own ret d :=
    ⟨B.exec, B.bytes, ho ▸ findClass_of_methodNamed B.named, B.returns, hml, B.notSynchronized, hT, hK, hR, ⟨Nat.le_refl d, Nat.le_refl (36 * d)⟩, by show g.1 ≤ s.heap.size; omega⟩
  have h0 := body _ rfl rfl hC s.heap [] _ (Lc.entry hcat hn) hz hP va_S.rf
  rw [lg_entry_eq]
  exact h0
