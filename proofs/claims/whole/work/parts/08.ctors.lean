/-! constructors: cells under construction stand in O; the cells that come next hold zeros in M -/
theorem up_va {α : Type} {f : Nat → α} {k j : Nat} {v : α} (h : j ≠ k) : va_up f k v j = f j := if_neg h
theorem up_vs {α : Type} {f : Nat → α} {k : Nat} {v : α} : va_up f k v k = v := if_pos rfl
theorem wl_push {g : GX} {N : Nat} {O O' : Nat → Option va_E} {M : Mm} {e : va_E} (ho : ∀ c, c < N → O' c = O c) (he : en g (N + 1, O') M N = e) : wl g (N + 1, O') M = wl g (N, O) M ++ [(g.1 + N, e)] := by
  simp only [wl]
  rw [List.range_succ, List.map_append]
  congr 1
  · refine List.map_congr_left fun c hc => ?_
    have hc := List.mem_range.mp hc
    simp only [en, ho c hc]
  · simp only [List.map_cons, List.map_nil, he]
section CT
variable {X : CX} {g : GX} {w : WX} {cc : ByteArray} {nL k ns d : Nat} {own : String} {ret : Option FieldType} {Q : State → Prop} {pc : Nat} {vs : List (Option Value)} {st : List Value} {M : Mm} {O : Nat → Option va_E} {N t : Nat}
theorem V_objInit (hC : Cx X g cc nL own ret d) {x index : Nat} (h1 : Cond.methodLink own index Lib.objectInit ∈ Tk) (h2 : Cond.instanceMethod Lib.objectInit ∈ Tk) (h3 : Cond.code Lib.objectInit ⟨#[0xb1]⟩ 1 none ∈ Tk) (hd1 : 1 ≤ d) (hcat : (st.map fun v => v.category).sum ≤ 8) (hd : decode cc pc = .ok (.invokespecial index, 3)) (kk : V X g w nL k ns Q (pc + 3) vs st M) : V X g w nL k ns Q pc vs (.ref x :: st) M :=
  fun H locs ls hL hz hP hS => by
    have hts : ∀ c ∈ Tk, c.before X.2.2.2.2.2.2.1 X.2.2.2.2.1 = true := hC.2.2.2.2.2.2.1.hts
    have hR := hC.2.2.2.2.2.2.2.2.2.1
    exact W.objInit hC.1 hC.2.1 hC.2.2.1 (hts _ h1) (hts _ h2) (hts _ h3) rfl (hL.size.trans hC.2.2.2.2.1.symm) rfl hd (by omega) (by show 2 * 0 + _ + 12 ≤ _; omega) (kk H locs ls hL hz hP hS)
theorem V_new (hC : Cx X g cc nL own ret d) {ci nf index : Nat} {C : String} {T : u_T} (hc : vwCl[ci]? = some (C, T, nf)) (hin : ∀ x ∈ u_ws C T nf, x ∈ Tk) (ty : Nat → FieldType) (hty : ∀ k, k < nf → parseFieldDescriptor (T k).2.2.1 = some (ty k)) (h1 : Cond.classLink own index C ∈ Tk) (h2 : Cond.instantiable C nf ∈ Tk) (h3 : Cond.initialized C ∈ Tk) {fs : List Value} (hfs : ∀ j, j < nf → defaultValue (ty j) = vp_V fs j) (hr : k + 1 ≤ X.2.2.2.1.cells ∧ ns + nf ≤ X.2.2.2.1.slots) (hd : decode cc pc = .ok (.new index, 3))
    (kk : V X g (N + 1, va_up O N (some (.inr (ci, fs)))) nL (k + 1) (ns + nf) Q (pc + 3) vs (ob g N :: st) M) : V X g (N, O) nL k ns Q pc vs st M :=
  fun H locs ls hL hz hP hS => by
    have hts : ∀ c ∈ Tk, c.before X.2.2.2.2.2.2.1 X.2.2.2.2.1 = true := hC.2.2.2.2.2.2.1.hts
    have hKn := hC.2.2.2.2.2.2.2.1.1 ci _ hc
    have hz : H.size = g.1 + N := hz
    refine W.newcK hC.1 hC.2.1 hC.2.2.1 (hts _ h1) (hts _ h2) (hts _ h3) rfl hd hr.1 hr.2 hKn.2.1 hz fun H1 kC hkC e1 z1 o1 => ?_
    have o1' : ∀ q, q < H.size → H1[q]? = H[q]? := fun q hq => o1 q (hz ▸ hq)
    have hk : ∀ (k : Nat) (x : Nat × va_E), (wl g (N, O) M)[k]? = some x → H1[x.1]? = H[x.1]? := fun k x hx => o1' x.1 ((hP k x hx).lt)
    refine kk H1 locs ls hL z1 ?_ ⟨by have := hS.1; omega, fun x q1 q2 => (o1' x (Nat.lt_of_lt_of_le q1 hS.1)).trans (hS.2.1 x q1 q2), hS.2.2⟩
    rw [wl_push (g := g) (O := O) (e := .inr (ci, fs)) (fun c hc => up_va (Nat.ne_of_lt hc)) (by simp only [en, up_vs]; rfl)]
    refine (hP.kept hk).app (fun j x hx => ?_)
    have hj : j < 1 := (List.getElem?_eq_some_iff.mp hx).1
    rw [show j = 0 by omega] at hx
    cases hx
    exact ⟨_, hc, (u_born ty hts hin hKn hkC e1 hty).to hfs⟩
theorem V_newa (hC : Cx X g cc nL own ret d) {x : Int32} {L : Nat} (h1 : Cond.arrayClass .int ∈ Tk) (hx : ¬ x < 0) (hxL : x.toNatClampNeg = L) (hL4 : L ≤ 10000) (hN : kd N = 20) (hln : ln N = L) (hO : O N = none) (hM : ∀ j, M N j = 0) (hr : k + 1 ≤ X.2.2.2.1.cells ∧ ns + L ≤ X.2.2.2.1.slots) (hd : decode cc pc = .ok (.newarray .int, 2))
    (kk : V X g (N + 1, O) nL (k + 1) (ns + L) Q (pc + 2) vs (ob g N :: st) M) : V X g (N, O) nL k ns Q pc vs (.int x :: st) M :=
  fun H locs ls hL hz hP hS => by
    have hts : ∀ c ∈ Tk, c.before X.2.2.2.2.2.2.1 X.2.2.2.2.1 = true := hC.2.2.2.2.2.2.1.hts
    have hz : H.size = g.1 + N := hz
    refine va_newaK (atype := .int) hC.1 hC.2.1 (hts _ h1) rfl hd rfl hx hxL (by show L * 4 ≤ _; omega) hr.1 hr.2 hz fun H1 cA e1 z1 o1 hAr hNm => ?_
    have hcA : cA = g.2.2.1 := by
      have h5 : X.2.2.2.2.1.vm.findClass "[I" = some g.2.2.1 := (hC.2.2.2.2.2.2.2.1.2 0 _ rfl).2
      have h6 : X.2.2.2.2.1.vm.findClass "[I" = some cA := hNm
      exact Option.some.inj (h6.symm.trans h5)
    have o1' : ∀ q, q < H.size → H1[q]? = H[q]? := fun q hq => o1 q (hz ▸ hq)
    have hk : ∀ (k : Nat) (x : Nat × va_E), (wl g (N, O) M)[k]? = some x → H1[x.1]? = H[x.1]? := fun k x hx => o1' x.1 ((hP k x hx).lt)
    refine kk H1 locs ls hL z1 ?_ ⟨by have := hS.1; omega, fun x q1 q2 => (o1' x (Nat.lt_of_lt_of_le q1 hS.1)).trans (hS.2.1 x q1 q2), hS.2.2⟩
    rw [wl_push (g := g) (O := O) (e := .inl (g.2.2.1, L, .inl (fun _ => 0))) (fun c hc => rfl) (by simp only [en, hO, Option.getD_none]; rw [ent_20 hN, hln, show M N = fun _ => 0 from funext hM])]
    refine (hP.kept hk).app (fun j x hx => ?_)
    have hj : j < 1 := (List.getElem?_eq_some_iff.mp hx).1
    rw [show j = 0 by omega] at hx
    cases hx
    show H1[g.1 + N]? = some (vp_cell _ _)
    rw [e1, hcA]
    rfl
theorem V_newq (hC : Cx X g cc nL own ret d) {x : Int32} {L index : Nat} (h1 : Cond.classLink own index "SyntaxRepair$Situation" ∈ Tk) (hx : ¬ x < 0) (hxL : x.toNatClampNeg = L) (hL4 : L ≤ 10000) (hr : k + 1 ≤ X.2.2.2.1.cells ∧ ns + L ≤ X.2.2.2.1.slots) (hd : decode cc pc = .ok (.anewarray index, 3))
    (kk : V X g (N + 1, va_up O N (some (.inl (g.2.2.2.1, L, .inr (.inr (.inr (.inr (fun _ => none)))))))) nL (k + 1) (ns + L) Q (pc + 3) vs (ob g N :: st) M) : V X g (N, O) nL k ns Q pc vs (.int x :: st) M :=
  fun H locs ls hL hz hP hS => by
    have hts : ∀ c ∈ Tk, c.before X.2.2.2.2.2.2.1 X.2.2.2.2.1 = true := hC.2.2.2.2.2.2.1.hts
    have hz : H.size = g.1 + N := hz
    subst hxL
    refine W.anew hC.1 hC.2.1 hC.2.2.1 (hts _ h1) (va_AO.use hC.2.2.2.2.2.2.1.2) rfl hd rfl hx (by omega) hr.1 hr.2 fun cA kA comp f1 f2 f3 f4 => ?_
    have hcA : cA = g.2.2.2.1 := by
      obtain ⟨_, _, -, -, -, h5⟩ := (hC.2.2.2.2.2.2.2.1.2 1 _ rfl).2
      exact Option.some.inj (f1.symm.trans h5)
    subst hcA
    generalize hH1 : H.push ({ cls := g.2.2.2.1, slots := Array.replicate x.toNatClampNeg .null, vm := .none } : Cell) = H1
    have z1 : H1.size = H.size + 1 := by rw [← hH1, Array.size_push]
    have e1 : H1[H.size]? = some (arrV g.2.2.2.1 x.toNatClampNeg (fun _ => .null)) := by rw [← hH1, Array.getElem?_push_size, ← arrV_new]
    have o1' : ∀ q : Nat, q < H.size → H1[q]? = H[q]? := fun q hq => by rw [← hH1, Array.getElem?_push, if_neg (Nat.ne_of_lt hq)]
    have hk : ∀ (k : Nat) (x : Nat × va_E), (wl g (N, O) M)[k]? = some x → H1[x.1]? = H[x.1]? := fun k x hx => o1' x.1 ((hP k x hx).lt)
    rw [show Value.ref H.size = ob g N by rw [hz]; rfl]
    refine kk H1 locs ls hL (by rw [z1, hz]; rfl) ?_ ⟨by have := hS.1; omega, fun x q1 q2 => (o1' x (Nat.lt_of_lt_of_le q1 hS.1)).trans (hS.2.1 x q1 q2), hS.2.2⟩
    rw [wl_push (g := g) (O := O) (e := .inl (g.2.2.2.1, x.toNatClampNeg, .inr (.inr (.inr (.inr (fun _ => none)))))) (fun c hc => up_va (Nat.ne_of_lt hc)) (by simp only [en, up_vs]; rfl)]
    refine (hP.kept hk).app (fun j x hx => ?_)
    have hj : j < 1 := (List.getElem?_eq_some_iff.mp hx).1
    rw [show j = 0 by omega] at hx
    cases hx
    show H1[g.1 + N]? = some (vp_cell _ _)
    rw [← hz, e1]
    rfl
theorem en_up {e : va_E} : en g (N, va_up O t (some e)) M t = e := by simp only [en, up_vs]; rfl
theorem wl_over {e e' : va_E} (ht : t < N) : (wl g (N, va_up O t (some e)) M).set t (g.1 + t, e') = wl g (N, va_up O t (some e')) M := by
  apply List.ext_getElem?
  intro i
  by_cases hi : i = t
  · subst hi
    rw [List.getElem?_set_self (by rw [wl_len]; exact ht), wl_at (w := (N, va_up O i (some e'))) ht, en_up]
  · rw [List.getElem?_set_ne (fun q => hi q.symm)]
    by_cases hl : i < N
    · rw [wl_at (w := (N, va_up O t (some e))) hl, wl_at (w := (N, va_up O t (some e'))) hl]
      simp only [en, up_va hi]
    · rw [List.getElem?_eq_none (by rw [wl_len]; exact Nat.not_lt.mp hl), List.getElem?_eq_none (by rw [wl_len]; exact Nat.not_lt.mp hl)]
/-- a final field of the object under construction -/
theorem V_putO (hC : Cx X g cc nL own ret d) (hname : X.2.2.2.2.2.2.2.2.1.name = "<init>") {ci nf : Nat} {T : u_T} (ht : t < N) (hc : vwCl[ci]? = some (own, T, nf)) (hin : ∀ x ∈ u_ws own T nf, x ∈ Tk) (ty0 : Nat → FieldType) (hty : ∀ k, k < nf → parseFieldDescriptor (T k).2.2.1 = some (ty0 k)) (hnm : ∀ a, a < nf → ∀ b, b < nf → a ≠ b → (T a).2.1 ≠ (T b).2.1) {fs : List Value} {x : Nat} (j : Nat) (hj : j < nf) (hfin : (T j).2.2.2 = true) (hdecl : (T j).1 = own) {ty : FieldType} (hpd : parseFieldDescriptor (T j).2.2.1 = some ty) (hn : narrow ty (.ref x) = .ref x) (hfit : fits ty (.ref x) = true) (hl : j < fs.length) {index : Nat} (hw : Cond.fieldLink own index (T j).1 (T j).2.1 (T j).2.2.1 ∈ Tk) (hd : decode cc pc = .ok (.putfield index, 3))
    (kk : V X g (N, va_up O t (some (.inr (ci, fs.set j (.ref x))))) nL k ns Q (pc + 3) vs st M) : V X g (N, va_up O t (some (.inr (ci, fs)))) nL k ns Q pc vs (.ref x :: ob g t :: st) M :=
  fun H locs ls hL hz hP hS => by
    have hts : ∀ c ∈ Tk, c.before X.2.2.2.2.2.2.1 X.2.2.2.2.1 = true := hC.2.2.2.2.2.2.1.hts
    have hK := hC.2.2.2.2.2.2.2.1
    have hown := hC.2.2.1
    have hlink := hts _ hw
    have hee : (wl g (N, va_up O t (some (.inr (ci, fs)))) M)[t]? = some (g.1 + t, .inr (ci, fs)) := (wl_at (w := (N, va_up O t (some (.inr (ci, fs))))) ht).trans (by rw [en_up])
    have hap := va_apart (own := own) hts hin ty0 hty hnm hK hc
    obtain ⟨r, h7, cell, q1, q2, q3, q4⟩ := hP t _ hee
    have hr : r = (own, T, nf) := Option.some.inj (h7.symm.trans hc)
    subst hr
    obtain ⟨hSl, hfc, kC, hkC, hkind⟩ := hK.1 ci _ hc
    obtain ⟨cf, kf, fi, f, hi, hsl⟩ := hSl j hj
    have hlay := hts _ (hin _ (u_in_lay hj))
    unfold u_lay at hlay
    rw [if_pos hfin] at hlay
    have hst := (u_facts hfc hkC (u_lays hts hin hj) hi).1
    have hcf : X.2.2.2.2.2.1.cls = cf := by
      obtain ⟨_, _, c', _, _, _, -, -, hf', -, -, -, hown2, -⟩ := Cond.laysFinal_spec hlay
      have e1 : c' = cf := by have := hi.symm.trans hf'; simp at this; exact this.1.symm
      rw [hdecl] at hown2
      rw [← e1]; exact Option.some.inj (hown.symm.trans hown2)
    have h6 := u_fits hfc hkC hkind (Or.inr hlay) hi hpd hn hfit
    refine W.putFinK hC.1 hC.2.1 hown hlink hi hst hcf hname (by rw [q2]; exact h6) q1 q3 (by rw [hsl]; exact k2_hasslot (q4 j hj)) rfl rfl hd fun H' e1 e2 e3 => ?_
    rw [hsl] at e1 ⊢
    refine kk H' _ ls hL (e2.trans hz) ?_ (hS.put e2 e3 (Nat.le_add_right _ _))
    rw [← wl_over (e := .inr (ci, fs)) ht]
    exact hP.set wl_D hee ⟨_, hc, t_OB.to (V := updV (vp_V fs) j (.ref x)) ⟨_, e1, q2, q3, t_set q4 hap hj (.ref x)⟩ (fun j' _ => vp_updV_set hl (.ref x) j')⟩ e3
theorem V_getO (hC : Cx X g cc nL own ret d) {ci nf : Nat} {C : String} {T : u_T} {fs : List Value} {v : Value} (ht : t < N) (hOt : O t = some (.inr (ci, fs))) (hc : vwCl[ci]? = some (C, T, nf)) (hin : ∀ x ∈ u_ws C T nf, x ∈ Tk) (j : Nat) (hj : j < nf) (hv : fs[j]? = some v) {index : Nat} (hw : Cond.fieldLink own index (T j).1 (T j).2.1 (T j).2.2.1 ∈ Tk) (hd : decode cc pc = .ok (.getfield index, 3)) (kk : V X g (N, O) nL k ns Q (pc + 3) vs (v :: st) M) : V X g (N, O) nL k ns Q pc vs (ob g t :: st) M :=
  fun H locs ls hL hz hP hS => by
    have hee : (wl g (N, O) M)[t]? = some (g.1 + t, .inr (ci, fs)) := (wl_at (w := (N, O)) ht).trans (by simp only [en, hOt]; rfl)
    exact va_get hC.1 hC.2.1 hC.2.2.2.2.2.2.1.hts hin hC.2.2.1 hC.2.2.2.2.2.2.2.1 hP t hee hc j hj (hC.2.2.2.2.2.2.1.hts _ hw) (fun _ h => h) hv hd (kk H locs ls hL hz hP hS)
theorem V_qlenO (hC : Cx X g cc nL own ret d) {L : Nat} {f : Nat → Option Nat} (ht : t < N) (hOt : O t = some (.inl (g.2.2.2.1, L, .inr (.inr (.inr (.inr f)))))) {v : Int32} (hv : Int32.ofNat L = v) (hd : decode cc pc = .ok (.arraylength, 1)) (kk : V X g (N, O) nL k ns Q (pc + 1) vs (.int v :: st) M) : V X g (N, O) nL k ns Q pc vs (ob g t :: st) M :=
  fun H locs ls hL hz hP hS => by
    have hee : (wl g (N, O) M)[t]? = some (g.1 + t, .inl (g.2.2.2.1, L, .inr (.inr (.inr (.inr f))))) := (wl_at (w := (N, O)) ht).trans (by simp only [en, hOt]; rfl)
    exact va_alen hC.1 hC.2.1 hC.2.2.2.2.2.2.2.1 hP t 1 hee rfl (v := v) hv hd (kk H locs ls hL hz hP hS)
theorem V_astO (hC : Cx X g cc nL own ret d) {L c : Nat} {f : Nat → Option Nat} {i : Int32} (ht : t < N) (hcN : c < N) (hct : c ≠ t) (hck : kd c = 8) (hOc : O c = none) (hin : vp_in i L) (hd : decode cc pc = .ok (.aastore, 1))
    (kk : V X g (N, va_up O t (some (.inl (g.2.2.2.1, L, .inr (.inr (.inr (.inr (va_up f i.toNatClampNeg (some (g.1 + c))))))))) ) nL k ns Q (pc + 1) vs st M) : V X g (N, va_up O t (some (.inl (g.2.2.2.1, L, .inr (.inr (.inr (.inr f))))))) nL k ns Q pc vs (ob g c :: .int i :: ob g t :: st) M :=
  fun H locs ls hL hz hP hS => by
    have hlt : i.toNatClampNeg < L := Nat.not_le.mp fun q => hin (Or.inr q)
    have h0 : ¬ i < 0 := fun q => hin (Or.inl q)
    have hK := hC.2.2.2.2.2.2.2.1
    have ha : (wl g (N, va_up O t (some (.inl (g.2.2.2.1, L, .inr (.inr (.inr (.inr f))))))) M)[t]? = some (g.1 + t, .inl (g.2.2.2.1, L, .inr (.inr (.inr (.inr f))))) := (wl_at (w := (N, va_up O t (some (.inl (g.2.2.2.1, L, .inr (.inr (.inr (.inr f)))))))) ht).trans (by rw [en_up])
    have hv : (wl g (N, va_up O t (some (.inl (g.2.2.2.1, L, .inr (.inr (.inr (.inr f))))))) M)[c]? = some (g.1 + c, .inr (8, [ob g (c + 1), ob g (c + 6), ob g (c + 8)])) := (wl_at (w := (N, va_up O t (some (.inl (g.2.2.2.1, L, .inr (.inr (.inr (.inr f)))))))) hcN).trans (by simp only [en, up_va hct, hOc, Option.getD_none]; rw [ent_8 hck])
    have hc : vwCl[8]? = some (RX8, TX8, 3) := rfl
    have htt : (tyW g)[1]? = some (g.2.2.2.1, .object "SyntaxRepair$Situation") := rfl
    obtain ⟨r', hr', cellV, g1, g2, g3, -⟩ := hP c _ hv
    have hcls := (hK.1 8 _ hc).2
    obtain ⟨kA, comp, k1, k2, k3, -⟩ := (hK.2 1 _ htt).2
    have hcomp : comp = g.2.1.1 8 := Option.some.inj (k3.symm.trans hcls.1)
    subst hcomp
    obtain ⟨kC, hkC, -⟩ := hcls.2
    refine W.aast hC.1 hC.2.1 (hP t _ ha) (fun q h => by cases h) (fun h => by cases h) k1 k2 rfl hkC ⟨h0, by show _ < (arrV _ _ _).slots.size; rw [arrV_size]; exact hlt⟩ g1 (fun q h => by rw [g3] at h; cases h) (by rw [g2]; exact hkC) (by rw [g2]; exact va_assign hcls) rfl rfl hd fun H1 e z oq => ?_
    refine kk H1 _ ls hL (z.trans hz) ?_ (hS.put z oq (Nat.le_add_right _ _))
    rw [← wl_over (e := .inl (g.2.2.2.1, L, .inr (.inr (.inr (.inr f))))) ht]
    refine hP.set wl_D ha ?_ oq
    show H1[g.1 + t]? = some (vp_cell _ _)
    rw [e, vp_cell_q, vp_cell_q, arrV_store]
    congr 2
    funext q
    by_cases hq : q = i.toNatClampNeg
    · subst hq
      simp [updV, va_up, va_rf]
    · simp [updV, va_up, hq]
/-- what stood under construction is done -/
theorem V_fin {e : va_E} (hO : O t = none) (he : ∀ H, va_at g.2.1 vwCl (g.1 + t, e) H → va_at g.2.1 vwCl (g.1 + t, ent g (M t) t) H) (kk : V X g (N, O) nL k ns Q pc vs st M) : V X g (N, va_up O t (some e)) nL k ns Q pc vs st M :=
  fun H locs ls hL hz hP hS => kk H locs ls hL hz (fun j q hq => by
    obtain ⟨hl, rfl⟩ := wl_inv hq
    have h1 := hP j _ (wl_at (w := (N, va_up O t (some e))) hl)
    by_cases hj : j = t
    · subst hj
      rw [en_up] at h1
      simp only [en, hO, Option.getD_none]
      exact he H h1
    · simpa only [en, up_va hj] using h1) hS
theorem fin_eq {e e' : va_E} {q : Nat} (h : e = e') : ∀ H, va_at g.2.1 vwCl (q, e) H → va_at g.2.1 vwCl (q, e') H := fun H h1 => h ▸ h1
theorem fin_q {cA : ClassId} {L q : Nat} {f f' : Nat → Option Nat} (h : ∀ j, j < L → f j = f' j) : ∀ H, va_at g.2.1 vwCl (q, .inl (cA, L, .inr (.inr (.inr (.inr f))))) H → va_at g.2.1 vwCl (q, .inl (cA, L, .inr (.inr (.inr (.inr f'))))) H := by
  intro H h1
  have h1 : H[q]? = some (arrV cA L (fun j => va_rf (f j))) := h1
  show H[q]? = some (arrV cA L (fun j => va_rf (f' j)))
  rw [h1]
  congr 1
  unfold arrV
  congr 1
  apply Array.ext
  · simp
  · intro i h2 h3
    have hi : i < L := by simpa using h2
    simp [h i hi]
theorem V_w {w' : WX} (h : w' = w) (kk : V X g w' nL k ns Q pc vs st M) : V X g w nL k ns Q pc vs st M := h ▸ kk
theorem ok_new {N t K : Nat} (hk : kd t = K) (hN : N = t + sz K) (hO : ∀ c, t ≤ c → O c = none) : ok (N, O) t K := ⟨hk, fun j hj => ⟨by show t + j < N; omega, hO _ (Nat.le_add_right _ _)⟩⟩
/-- a constructor's call -/
theorem V_icall (hC : Cx X g cc nL own ret d) {w' : WX} {post : Mm → Prop} {y : MethodName} {bytes : ByteArray} {maxL d2 mc ms index c : Nat} (hM : Met X.2.1 y [Cond.code y bytes maxL none] (rmC d2 mc ms) (va_Pc [ob g c] (Wb g w M)) (va_Qv post (Wb g w') (Af g)) mc ms (Af g)) (hm : MC y bytes maxL 0) (hd2 : d2 < d) (hw : Cond.methodLink own index y ∈ Tk) (hcat : (st.map fun v => v.category).sum ≤ 8) (hr : k + mc ≤ X.2.2.2.1.cells ∧ ns + ms ≤ X.2.2.2.1.slots) (hd : decode cc pc = .ok (.invokespecial index, 3)) (kk : ∀ M', post M' → V X g w' nL (k + mc) (ns + ms) Q (pc + 3) vs st M') : V X g w nL k ns Q pc vs (ob g c :: st) M :=
  fun H locs ls hL hz hP hS => by
    have hts : ∀ c ∈ Tk, c.before X.2.2.2.2.2.2.1 X.2.2.2.2.1 = true := hC.2.2.2.2.2.2.1.hts
    exact behind_v hL hS (va_runI (b := g.1 + c) (As := []) (rest := st) (fix_of hC) hM ⟨cbB hC hm.1 hd2 hw, hm.2.2, hts _ hm.2.1⟩ (preS_of hC hz hP hS) rfl rfl hL.size rfl (lv_room hcat) hd hr) kk
theorem V_icallN (hC : Cx X g cc nL own ret d) {w' : WX} {post : Mm → Prop} {y : MethodName} {host : String} {bytes : ByteArray} {maxL d2 mc ms index c : Nat} (hM : Met X.2.1 y [Cond.code y bytes maxL none] (rmC d2 mc ms) (va_Pc [ob g c] (Wb g w M)) (va_Qv post (Wb g w') (Af g)) mc ms (Af g)) (hm : MC y bytes maxL 0) (hd2 : d2 < d) (hw : Cond.methodLinkNest own index y host ∈ Tk) (hcat : (st.map fun v => v.category).sum ≤ 8) (hr : k + mc ≤ X.2.2.2.1.cells ∧ ns + ms ≤ X.2.2.2.1.slots) (hd : decode cc pc = .ok (.invokespecial index, 3)) (kk : ∀ M', post M' → V X g w' nL (k + mc) (ns + ms) Q (pc + 3) vs st M') : V X g w nL k ns Q pc vs (ob g c :: st) M :=
  fun H locs ls hL hz hP hS => by
    have hts : ∀ c ∈ Tk, c.before X.2.2.2.2.2.2.1 X.2.2.2.2.1 = true := hC.2.2.2.2.2.2.1.hts
    exact behind_v hL hS (va_runIN (b := g.1 + c) (As := []) (rest := st) (fix_of hC) hM ⟨cbN hC hm.1 hd2 hw, hm.2.2, hts _ hm.2.1⟩ (preS_of hC hz hP hS) rfl rfl hL.size rfl (lv_room hcat) hd hr) kk
end CT
theorem Ct_c {l : Launch} {g : GX} {w w' : WX} {y : MethodName} {cc : ByteArray} {nL d mc ms : Nat} {own : String} {t : Nat} {M : Mm} {post : Mm → Prop} (hy : plainName y.cls = true) (ho : y.cls = own) (hin : y.name = "<init>") (hn : 1 ≤ nL)
    (body : ∀ X : CX, X.2.1 = l → Cx X g cc nL own none d → X.2.2.2.2.2.2.2.2.1.name = "<init>" → X.2.2.2.1.cells = mc ∧ X.2.2.2.1.slots = ms → V X g w nL 0 0 (QV X g w' post mc ms) 0 (evs [ob g t] nL) [] M) :
    Met l y [Cond.code y cc nL none] (rmC d mc ms) (va_Pc [ob g t] (Wb g w M)) (va_Qv post (Wb g w') (Af g)) mc ms (Af g) := by
  refine Met.ofW (cc := cc) (maxL := nL) (ret := none) hy rfl ?_
  intro p e s m args below meth c s₁ B hml hv
  obtain ⟨rfl, hT, hK, hR, hz, hP⟩ := hv
  have hC : Cx (p, l, e, (headSpec [Cond.code y cc nL none] (rmC d mc ms)).room, s, m, [ob g t].toArray, below, meth, c) g cc nL own none d :=
    ⟨B.exec, B.bytes, ho ▸ findClass_of_methodNamed B.named, B.returns, hml, B.notSynchronized, hT, hK, hR, ⟨Nat.le_refl d, Nat.le_refl (36 * d)⟩, by show g.1 ≤ s.heap.size; omega⟩
  have h0 := body _ rfl hC ((name_of_methodNamed B.named B.method).1.trans hin) ⟨rfl, rfl⟩ s.heap [] _ (Lc.entry (av := [ob g t]) (fun v hv => by rw [List.mem_singleton.mp hv]; rfl) hn) hz hP va_S.rf
  rw [lg_entry_eq]
  exact h0
