/-! String.length() and String.charAt(int) of the String constants, over the JDK's own bytecode -/
section STRS
variable {X : CX} {g : GX} {w : WX} {cc : ByteArray} {nL k ns d : Nat} {own : String} {ret : Option FieldType} {Q : State → Prop} {pc : Nat} {vs : List (Option Value)} {st : List Value} {M : Mm}
theorem V_nret {ty : FieldType} (hC : Cx X g cc nL own (some ty) d) {post : Int32 → Mm → Prop} {r : Int32} (hn : narrow ty (.int r) = .int r) (h : post r M) (hd : decode cc pc = .ok (.ireturn, 1)) : V X g w nL k ns (QI X g w post k ns) pc vs [.int r] M :=
  fun H locs ls hL hz hP hS => W.zret hC.1 hC.2.1 hC.2.2.2.1 hn (fun t ht hW => ⟨⟨r, M, rfl, h, wb_of hC hz hP hS ht hW⟩, hS.F ht⟩) hS.2.2 hd hC.2.2.2.2.2.1
theorem V_pop (hC : Cx X g cc nL own ret d) {v : Value} (hv : v.category = 1) (hd : decode cc pc = .ok (.pop, 1)) (kk : V X g w nL k ns Q (pc + 1) vs st M) : V X g w nL k ns Q pc vs (v :: st) M :=
  fun H locs ls hL hz hP hS => lv_pop hC.1 hC.2.1 hd hv (kk H locs ls hL hz hP hS)
theorem V_i2c (hC : Cx X g cc nL own ret d) {x v : Int32} (hv : (x.toUInt32 % 65536).toInt32 = v) (hd : decode cc pc = .ok (.i2c, 1)) (kk : V X g w nL k ns Q (pc + 1) vs (.int v :: st) M) : V X g w nL k ns Q pc vs (.int x :: st) M :=
  fun H locs ls hL hz hP hS => lv_i2c hC.1 hC.2.1 hd hv (kk H locs ls hL hz hP hS)
theorem V_gcs (hC : Cx X g cc nL own ret d) {index : Nat} (hw : Cond.fieldLink own index "java/lang/String" "COMPACT_STRINGS" "Z" ∈ Tk) (hd : decode cc pc = .ok (.getstatic index, 3)) (kk : V X g w nL k ns Q (pc + 3) vs (.int 1 :: st) M) : V X g w nL k ns Q pc vs st M :=
  fun H locs ls hL hz hP hS => va_gets hC.1 hC.2.1 hC.2.2.2.2.2.2.2.2.1.2.2.2.1 hS hC.2.2.1 (hC.2.2.2.2.2.2.1.hts _ hw) (fun _ h => h) hd (kk H locs ls hL hz hP hS)
theorem V_gfm (hC : Cx X g cc nL own ret d) {index : Nat} (hw : Cond.fieldLink own index "jdk/internal/util/Preconditions" "SIOOBE_FORMATTER" "Ljava/util/function/BiFunction;" ∈ Tk) (hd : decode cc pc = .ok (.getstatic index, 3)) (kk : ∀ v : Value, v.category = 1 → V X g w nL k ns Q (pc + 3) vs (v :: st) M) : V X g w nL k ns Q pc vs st M := by
  rcases hC.2.2.2.2.2.2.2.2.1.2.2.2.2 with h | ⟨t, h⟩
  · exact fun H locs ls hL hz hP hS => va_gets hC.1 hC.2.1 h hS hC.2.2.1 (hC.2.2.2.2.2.2.1.hts _ hw) (fun _ h => h) hd (kk _ rfl H locs ls hL hz hP hS)
  · exact fun H locs ls hL hz hP hS => va_gets hC.1 hC.2.1 h hS hC.2.2.1 (hC.2.2.2.2.2.2.1.hts _ hw) (fun _ h => h) hd (kk _ rfl H locs ls hL hz hP hS)
theorem V_gsc (hC : Cx X g cc nL own ret d) {i : Nat} (hi : i < 7) {index : Nat} (hw : Cond.fieldLink own index "java/lang/String" "coder" "B" ∈ Tk) (hd : decode cc pc = .ok (.getfield index, 3)) (kk : V X g w nL k ns Q (pc + 3) vs (.int 0 :: st) M) : V X g w nL k ns Q pc vs (.ref (g.2.2.2.2.1 i) :: st) M :=
  fun H locs ls hL hz hP hS => vk_getf hC.1 hC.2.1 (hC.2.2.2.2.2.2.2.2.1.1.1 i hi).2.1 hS hC.2.2.1 (hC.2.2.2.2.2.2.1.hts _ hw) (fun _ h => h) hd (kk H locs ls hL hz hP hS)
theorem V_gsv (hC : Cx X g cc nL own ret d) {i : Nat} (hi : i < 7) {index : Nat} (hw : Cond.fieldLink own index "java/lang/String" "value" "[B" ∈ Tk) (hd : decode cc pc = .ok (.getfield index, 3)) (kk : V X g w nL k ns Q (pc + 3) vs (.ref (g.2.2.2.2.2.1 i) :: st) M) : V X g w nL k ns Q pc vs (.ref (g.2.2.2.2.1 i) :: st) M :=
  fun H locs ls hL hz hP hS => vk_getf hC.1 hC.2.1 (hC.2.2.2.2.2.2.2.2.1.1.1 i hi).2.2.1 hS hC.2.2.1 (hC.2.2.2.2.2.2.1.hts _ hw) (fun _ h => h) hd (kk H locs ls hL hz hP hS)
theorem V_svl (hC : Cx X g cc nL own ret d) {i : Nat} (hi : i < 7) (hd : decode cc pc = .ok (.arraylength, 1)) (kk : V X g w nL k ns Q (pc + 1) vs (.int (nI (lenS.getD i 0)) :: st) M) : V X g w nL k ns Q pc vs (.ref (g.2.2.2.2.2.1 i) :: st) M :=
  fun H locs ls hL hz hP hS => va_tlen hC.1 hC.2.1 (hC.2.2.2.2.2.2.2.2.1.1.1 i hi).2.2.2 hS rfl hd (kk H locs ls hL hz hP hS)
theorem V_svb (hC : Cx X g cc nL own ret d) {i : Nat} (hi : i < 7) {x : Int32} (hx : vp_in x (lenS.getD i 0)) (hd : decode cc pc = .ok (.baload, 1)) (kk : V X g w nL k ns Q (pc + 1) vs (.int ((bytS.getD i []).getD x.toNatClampNeg 0) :: st) M) : V X g w nL k ns Q pc vs (.int x :: .ref (g.2.2.2.2.2.1 i) :: st) M :=
  fun H locs ls hL hz hP hS => va_tb hC.1 hC.2.1 (hC.2.2.2.2.2.2.2.2.1.1.1 i hi).2.2.2 hS hx rfl hd (kk H locs ls hL hz hP hS)
theorem V_callS (hC : Cx X g cc nL own ret d) {post : Int32 → Mm → Prop} {i : Nat} (hi : i < 7) {y : MethodName} {bytes : ByteArray} {maxL n d2 index : Nat} {ret2 : Option FieldType} {As : List Value} (hM : Met X.2.1 y [Cond.code y bytes maxL ret2] (rmC d2 0 0) (va_Pc (.ref (g.2.2.2.2.1 i) :: As) (Wb g w M)) (va_Qi post (Wb g w) (Af g)) 0 0 (Af g)) (hm : MI y bytes maxL ret2 n) (hy : y.cls = "java/lang/String") (hd2 : d2 < d) (hw : Cond.methodLink own index y ∈ Tk) (hn : As.length = n) {stk : List Value} (hstk : stk = As.reverse ++ .ref (g.2.2.2.2.1 i) :: st) (hcat : (st.map fun v => v.category).sum ≤ 8) (hr : k ≤ X.2.2.2.1.cells ∧ ns ≤ X.2.2.2.1.slots) (hd : decode cc pc = .ok (.invokevirtual index, 3)) (kk : ∀ r M', post r M' → V X g w nL k ns Q (pc + 3) vs (.int r :: st) M') : V X g w nL k ns Q pc vs stk M :=
  fun H locs ls hL hz hP hS => by
    have hts : ∀ c ∈ Tk, c.before X.2.2.2.2.2.2.1 X.2.2.2.2.1 = true := hC.2.2.2.2.2.2.1.hts
    exact behind_i hL hS (va_runV (C := y.cls) (b := g.2.2.2.2.1 i) (As := As) (rest := st) (fix_of hC) hM ⟨cbB hC hm.1 hd2 hw, hts _ hm.2.1, hts _ hm.2.2⟩ ⟨wb_blind, by rw [hy]; exact vk_recv hC.2.2.2.2.2.2.2.2.1.1 hi hS, fun U hU hW => ⟨rfl, wb_of hC hz hP hS hU hW⟩⟩ rfl hn hL.size hstk (lv_room hcat) hd hr) kk
theorem V_icmp_ltT (hC : Cx X g cc nL own ret d) {x y : Int32} (h : x < y) {off : Int} {tgt : Nat} (hd : decode cc pc = .ok (.if_icmp .lt off, 3)) (ht : (pc : Int) + off = (tgt : Int)) (kt : V X g w nL k ns Q tgt vs st M) : V X g w nL k ns Q pc vs (.int y :: .int x :: st) M := V_icmp_lt hC hd ht (fun _ => kt) (fun q => absurd h q)
end STRS
theorem mw_J0_length : MI yJ0_length_8abf5 cJ0_length_8abf5 1 (some .int) 0 := ⟨⟨tk_at 333 (by decide +kernel) rfl, tk_at 13 (by decide +kernel) rfl, ⟨by decide +kernel, by decide +kernel⟩, by decide +kernel, by decide⟩, tk_at 331 (by decide +kernel) rfl, tk_at 332 (by decide +kernel) rfl⟩
theorem mw_J0_coder : MI yJ0_coder_7d493 cJ0_coder_7d493 1 (some .byte) 0 := ⟨⟨tk_at 337 (by decide +kernel) rfl, tk_at 13 (by decide +kernel) rfl, ⟨by decide +kernel, by decide +kernel⟩, by decide +kernel, by decide⟩, tk_at 335 (by decide +kernel) rfl, tk_at 336 (by decide +kernel) rfl⟩
theorem mw_J0_charAt : MI yJ0_charAt_5068e cJ0_charAt_5068e 2 (some .char) 1 := ⟨⟨tk_at 343 (by decide +kernel) rfl, tk_at 13 (by decide +kernel) rfl, ⟨by decide +kernel, by decide +kernel⟩, by decide +kernel, by decide⟩, tk_at 341 (by decide +kernel) rfl, tk_at 342 (by decide +kernel) rfl⟩
theorem mw_J0_isLatin1 : MI yJ0_isLatin1_aae02 cJ0_isLatin1_aae02 1 (some .boolean) 0 := ⟨⟨tk_at 347 (by decide +kernel) rfl, tk_at 13 (by decide +kernel) rfl, ⟨by decide +kernel, by decide +kernel⟩, by decide +kernel, by decide⟩, tk_at 345 (by decide +kernel) rfl, tk_at 346 (by decide +kernel) rfl⟩
theorem mw_J1_charAt : MS yJ1_charAt_3b067 cJ1_charAt_3b067 2 (some .char) 2 := ⟨⟨tk_at 350 (by decide +kernel) rfl, tk_at 14 (by decide +kernel) rfl, ⟨by decide +kernel, by decide +kernel⟩, by decide +kernel, by decide⟩, tk_at 349 (by decide +kernel) rfl⟩
theorem mw_J0_checkIndex : MS yJ0_checkIndex_df160 cJ0_checkIndex_df160 2 none 2 := ⟨⟨tk_at 353 (by decide +kernel) rfl, tk_at 13 (by decide +kernel) rfl, ⟨by decide +kernel, by decide +kernel⟩, by decide +kernel, by decide⟩, tk_at 352 (by decide +kernel) rfl⟩
theorem mw_J3_checkIndex : MS yJ3_checkIndex_8e157 cJ3_checkIndex_8e157 3 (some .int) 3 := ⟨⟨tk_at 358 (by decide +kernel) rfl, tk_at 15 (by decide +kernel) rfl, ⟨by decide +kernel, by decide +kernel⟩, by decide +kernel, by decide⟩, tk_at 357 (by decide +kernel) rfl⟩
theorem tw_334 : Cond.methodLink RJ0 335 yJ0_coder_7d493 ∈ Tk := tk_at 334 (by decide +kernel) rfl
theorem tw_338 : Cond.fieldLink RJ0 38 "java/lang/String" "COMPACT_STRINGS" "Z" ∈ Tk := tk_at 338 (by decide +kernel) rfl
theorem tw_344 : Cond.methodLink RJ0 492 yJ0_isLatin1_aae02 ∈ Tk := tk_at 344 (by decide +kernel) rfl
theorem tw_348 : Cond.methodLink RJ0 495 yJ1_charAt_3b067 ∈ Tk := tk_at 348 (by decide +kernel) rfl
theorem tw_351 : Cond.methodLink RJ1 9 yJ0_checkIndex_df160 ∈ Tk := tk_at 351 (by decide +kernel) rfl
theorem tw_354 : Cond.fieldLink RJ0 1053 "jdk/internal/util/Preconditions" "SIOOBE_FORMATTER" "Ljava/util/function/BiFunction;" ∈ Tk := tk_at 354 (by decide +kernel) rfl
theorem tw_356 : Cond.methodLink RJ0 1059 yJ3_checkIndex_8e157 ∈ Tk := tk_at 356 (by decide +kernel) rfl
theorem tw_1200 : Cond.fieldLink RJ0 9 "java/lang/String" "value" "[B" ∈ Tk := tk_at 1200 (by decide +kernel) rfl
theorem tw_1201 : Cond.fieldLink RJ0 15 "java/lang/String" "coder" "B" ∈ Tk := tk_at 1201 (by decide +kernel) rfl
theorem cat3 {a b c : Value} (ha : a.category = 1) (hb : b.category = 1) (hc : c.category = 1) : ∀ v ∈ [a, b, c], v.category = 1 := fun v hv => by
  simp only [List.mem_cons, List.not_mem_nil, or_false] at hv
  rcases hv with rfl | rfl | rfl <;> assumption
theorem c_J3_checkIndex (l : Launch) (g : GX) (w : WX) (M : Mm) {x L : Int32} {fv : Value} (hfv : fv.category = 1) (h0 : ¬ x < 0) (h1 : x < L) : Met l yJ3_checkIndex_8e157 [Cond.code yJ3_checkIndex_8e157 cJ3_checkIndex_8e157 3 (some .int)] (rmC 0 0 0) (va_Pc [.int x, .int L, fv] (Wb g w M)) (va_Qi (fun r M' => r = x ∧ M' = M) (Wb g w) (Af g)) 0 0 (Af g) := by
  refine Ct_i (by decide) rfl (cat3 rfl rfl hfv) (by simp only [lg_sl, List.flatMap_cons, List.flatMap_nil, hfv]; exact Nat.le_of_ble_eq_true rfl) (Nat.le_refl _) ?_
  intro X hX _ hC
  refine V_sub (us := [some (.int x), some (.int L), none]) ⟨rfl, rfl, trivial⟩ ?_
  refine V_iload_n hC rfl dJ3_checkIndex_8e157_0 ?_
  refine V_if_lt (tgt := 9) hC dJ3_checkIndex_8e157_1 (by decide) (fun q => absurd q h0) (fun _ => ?_)
  refine V_iload_n hC rfl dJ3_checkIndex_8e157_4 ?_
  refine V_iload_n hC rfl dJ3_checkIndex_8e157_5 ?_
  refine V_icmp_ltT (tgt := 16) hC h1 dJ3_checkIndex_8e157_6 (by decide) ?_
  refine V_iload_n hC rfl dJ3_checkIndex_8e157_16 ?_
  exact V_iret hC ⟨rfl, rfl⟩ dJ3_checkIndex_8e157_17
theorem c_J0_checkIndex (l : Launch) (g : GX) (w : WX) (M : Mm) {x L : Int32} (h0 : ¬ x < 0) (h1 : x < L) : Met l yJ0_checkIndex_df160 [Cond.code yJ0_checkIndex_df160 cJ0_checkIndex_df160 2 none] (rmC 1 0 0) (va_Pc [.int x, .int L] (Wb g w M)) (va_Qv (fun M' => M' = M) (Wb g w) (Af g)) 0 0 (Af g) := by
  refine Ct_v (by decide) rfl (fun v hv => by simp only [List.mem_cons, List.not_mem_nil, or_false] at hv; rcases hv with rfl | rfl <;> rfl) (Nat.le_of_ble_eq_true rfl) (Nat.le_refl _) ?_
  intro X hX _ hC
  refine V_sub (us := [some (.int x), some (.int L)]) ⟨rfl, rfl, trivial⟩ ?_
  refine V_iload_n hC rfl dJ0_checkIndex_df160_0 ?_
  refine V_iload_n hC rfl dJ0_checkIndex_df160_1 ?_
  refine V_gfm hC tw_354 dJ0_checkIndex_df160_2 (fun v hv => ?_)
  refine V_scalli (As := [.int x, .int L, v]) hC (c_J3_checkIndex X.2.1 g w M hv h0 h1) mw_J3_checkIndex (by decide) tw_356 rfl rfl (Nat.le_of_ble_eq_true rfl) ⟨Nat.zero_le _, Nat.zero_le _⟩ dJ0_checkIndex_df160_5 (fun r M' hp => ?_)
  obtain ⟨rfl, rfl⟩ := hp
  refine V_pop hC rfl dJ0_checkIndex_df160_8 ?_
  exact V_vret hC rfl dJ0_checkIndex_df160_9
theorem sch_255 : ∀ i, i < 7 → ∀ j, j < lenS.getD i 0 → sch i j &&& 255 = sch i j := by decide +kernel
theorem lenS_lt : ∀ i, i < 7 → lenS.getD i 0 < 100 := by decide +kernel
theorem in_len {x : Int32} {n : Nat} (h : vp_in x n) (hn : n < 100) : ¬ x < 0 ∧ x < nI n := by
  obtain ⟨j, hj, rfl⟩ := vp_in_of h (by omega)
  exact ⟨nI_pos (by omega), nI_lt hj (by omega)⟩
theorem c_J1_charAt (l : Launch) (g : GX) (w : WX) (M : Mm) {i : Nat} (hi : i < 7) {x : Int32} (hx : vp_in x (lenS.getD i 0)) : Met l yJ1_charAt_3b067 [Cond.code yJ1_charAt_3b067 cJ1_charAt_3b067 2 (some .char)] (rmC 2 0 0) (va_Pc [.ref (g.2.2.2.2.2.1 i), .int x] (Wb g w M)) (va_Qi (fun r M' => r = sch i x.toNatClampNeg ∧ M' = M) (Wb g w) (Af g)) 0 0 (Af g) := by
  refine Ct_i (by decide) rfl (fun v hv => by simp only [List.mem_cons, List.not_mem_nil, or_false] at hv; rcases hv with rfl | rfl <;> rfl) (Nat.le_of_ble_eq_true rfl) (Nat.le_refl _) ?_
  intro X hX _ hC
  have hb := in_len hx (lenS_lt i hi)
  have hlt : x.toNatClampNeg < lenS.getD i 0 := Nat.not_le.mp fun q => hx (Or.inr q)
  refine V_sub (us := [some (.ref (g.2.2.2.2.2.1 i)), some (.int x)]) ⟨rfl, rfl, trivial⟩ ?_
  refine V_iload_n hC rfl dJ1_charAt_3b067_0 ?_
  refine V_aload_n hC rfl dJ1_charAt_3b067_1 ?_
  refine V_svl hC hi dJ1_charAt_3b067_2 ?_
  refine V_scallv (As := [.int x, .int (nI (lenS.getD i 0))]) hC (c_J0_checkIndex X.2.1 g w M hb.1 hb.2) mw_J0_checkIndex (by decide) tw_351 rfl rfl (Nat.le_of_ble_eq_true rfl) ⟨Nat.zero_le _, Nat.zero_le _⟩ dJ1_charAt_3b067_3 (fun M' hp => ?_)
  subst hp
  refine V_aload_n hC rfl dJ1_charAt_3b067_6 ?_
  refine V_iload_n hC rfl dJ1_charAt_3b067_7 ?_
  refine V_svb hC hi hx dJ1_charAt_3b067_8 ?_
  refine V_sipush (v := 255) hC (by decide) dJ1_charAt_3b067_9 ?_
  refine V_iand hC dJ1_charAt_3b067_12 ?_
  refine V_i2c hC (sc_c2 _) dJ1_charAt_3b067_13 ?_
  exact V_nret hC (sc_nar _) ⟨sch_255 i hi _ hlt, rfl⟩ dJ1_charAt_3b067_14
theorem c_J0_coder (l : Launch) (g : GX) (w : WX) (M : Mm) {i : Nat} (hi : i < 7) : Met l yJ0_coder_7d493 [Cond.code yJ0_coder_7d493 cJ0_coder_7d493 1 (some .byte)] (rmC 0 0 0) (va_Pc [.ref (g.2.2.2.2.1 i)] (Wb g w M)) (va_Qi (fun r M' => r = 0 ∧ M' = M) (Wb g w) (Af g)) 0 0 (Af g) := by
  refine Ct_i (by decide) rfl (fun v hv => by simp only [List.mem_cons, List.not_mem_nil, or_false] at hv; rcases hv with rfl <;> rfl) (Nat.le_of_ble_eq_true rfl) (Nat.le_refl _) ?_
  intro X hX _ hC
  refine V_sub (us := [some (.ref (g.2.2.2.2.1 i))]) ⟨rfl, trivial⟩ ?_
  refine V_gcs hC tw_338 dJ0_coder_7d493_0 ?_
  refine V_if_eq (tgt := 13) hC dJ0_coder_7d493_3 (by decide) (fun q => absurd q (by decide)) (fun _ => ?_)
  refine V_aload_n hC rfl dJ0_coder_7d493_6 ?_
  refine V_gsc hC hi tw_1201 dJ0_coder_7d493_7 ?_
  refine V_goto (tgt := 14) hC (by decide) dJ0_coder_7d493_10 ?_
  exact V_nret hC rfl ⟨rfl, rfl⟩ dJ0_coder_7d493_14
theorem c_J0_isLatin1 (l : Launch) (g : GX) (w : WX) (M : Mm) {i : Nat} (hi : i < 7) : Met l yJ0_isLatin1_aae02 [Cond.code yJ0_isLatin1_aae02 cJ0_isLatin1_aae02 1 (some .boolean)] (rmC 0 0 0) (va_Pc [.ref (g.2.2.2.2.1 i)] (Wb g w M)) (va_Qi (fun r M' => r = 1 ∧ M' = M) (Wb g w) (Af g)) 0 0 (Af g) := by
  refine Ct_i (by decide) rfl (fun v hv => by simp only [List.mem_cons, List.not_mem_nil, or_false] at hv; rcases hv with rfl <;> rfl) (Nat.le_of_ble_eq_true rfl) (Nat.le_refl _) ?_
  intro X hX _ hC
  refine V_sub (us := [some (.ref (g.2.2.2.2.1 i))]) ⟨rfl, trivial⟩ ?_
  refine V_gcs hC tw_338 dJ0_isLatin1_aae02_0 ?_
  refine V_if_eq (tgt := 17) hC dJ0_isLatin1_aae02_3 (by decide) (fun q => absurd q (by decide)) (fun _ => ?_)
  refine V_aload_n hC rfl dJ0_isLatin1_aae02_6 ?_
  refine V_gsc hC hi tw_1201 dJ0_isLatin1_aae02_7 ?_
  refine V_if_ne (tgt := 17) hC dJ0_isLatin1_aae02_10 (by decide) (fun q => absurd rfl q) (fun _ => ?_)
  refine V_iconst (v := 1) hC (by decide) dJ0_isLatin1_aae02_13 ?_
  refine V_goto (tgt := 18) hC (by decide) dJ0_isLatin1_aae02_14 ?_
  exact V_nret hC rfl ⟨rfl, rfl⟩ dJ0_isLatin1_aae02_18
theorem c_J0_length (l : Launch) (g : GX) (w : WX) (M : Mm) {i : Nat} (hi : i < 7) : Met l yJ0_length_8abf5 [Cond.code yJ0_length_8abf5 cJ0_length_8abf5 1 (some .int)] (rmC 1 0 0) (va_Pc [.ref (g.2.2.2.2.1 i)] (Wb g w M)) (va_Qi (fun r M' => r = nI (lenS.getD i 0) ∧ M' = M) (Wb g w) (Af g)) 0 0 (Af g) := by
  refine Ct_i (by decide) rfl (fun v hv => by simp only [List.mem_cons, List.not_mem_nil, or_false] at hv; rcases hv with rfl <;> rfl) (Nat.le_of_ble_eq_true rfl) (Nat.le_refl _) ?_
  intro X hX _ hC
  refine V_sub (us := [some (.ref (g.2.2.2.2.1 i))]) ⟨rfl, trivial⟩ ?_
  refine V_aload_n hC rfl dJ0_length_8abf5_0 ?_
  refine V_gsv hC hi tw_1200 dJ0_length_8abf5_1 ?_
  refine V_svl hC hi dJ0_length_8abf5_4 ?_
  refine V_aload_n hC rfl dJ0_length_8abf5_5 ?_
  refine V_callS (As := []) hC hi (c_J0_coder X.2.1 g w M hi) mw_J0_coder rfl (by decide) tw_334 rfl rfl (Nat.le_of_ble_eq_true rfl) ⟨Nat.zero_le _, Nat.zero_le _⟩ dJ0_length_8abf5_6 (fun r M' hp => ?_)
  obtain ⟨rfl, rfl⟩ := hp
  refine V_ishr hC dJ0_length_8abf5_9 ?_
  have := lenS_lt i hi
  exact V_iret hC ⟨sc_shr0 (by omega), rfl⟩ dJ0_length_8abf5_10
theorem c_J0_charAt (l : Launch) (g : GX) (w : WX) (M : Mm) {i : Nat} (hi : i < 7) {x : Int32} (hx : vp_in x (lenS.getD i 0)) : Met l yJ0_charAt_5068e [Cond.code yJ0_charAt_5068e cJ0_charAt_5068e 2 (some .char)] (rmC 3 0 0) (va_Pc [.ref (g.2.2.2.2.1 i), .int x] (Wb g w M)) (va_Qi (fun r M' => r = sch i x.toNatClampNeg ∧ M' = M) (Wb g w) (Af g)) 0 0 (Af g) := by
  refine Ct_i (by decide) rfl (fun v hv => by simp only [List.mem_cons, List.not_mem_nil, or_false] at hv; rcases hv with rfl | rfl <;> rfl) (Nat.le_of_ble_eq_true rfl) (Nat.le_refl _) ?_
  intro X hX _ hC
  have hlt : x.toNatClampNeg < lenS.getD i 0 := Nat.not_le.mp fun q => hx (Or.inr q)
  refine V_sub (us := [some (.ref (g.2.2.2.2.1 i)), some (.int x)]) ⟨rfl, rfl, trivial⟩ ?_
  refine V_aload_n hC rfl dJ0_charAt_5068e_0 ?_
  refine V_callS (As := []) hC hi (c_J0_isLatin1 X.2.1 g w M hi) mw_J0_isLatin1 rfl (by decide) tw_344 rfl rfl (Nat.le_of_ble_eq_true rfl) ⟨Nat.zero_le _, Nat.zero_le _⟩ dJ0_charAt_5068e_1 (fun r M' hp => ?_)
  obtain ⟨rfl, rfl⟩ := hp
  refine V_if_eq (tgt := 16) hC dJ0_charAt_5068e_4 (by decide) (fun q => absurd q (by decide)) (fun _ => ?_)
  refine V_aload_n hC rfl dJ0_charAt_5068e_7 ?_
  refine V_gsv hC hi tw_1200 dJ0_charAt_5068e_8 ?_
  refine V_iload_n hC rfl dJ0_charAt_5068e_11 ?_
  refine V_scalli (As := [.ref (g.2.2.2.2.2.1 i), .int x]) hC (c_J1_charAt X.2.1 g w M' hi hx) mw_J1_charAt (by decide) tw_348 rfl rfl (Nat.le_of_ble_eq_true rfl) ⟨Nat.zero_le _, Nat.zero_le _⟩ dJ0_charAt_5068e_12 (fun r M2 hp => ?_)
  obtain ⟨rfl, rfl⟩ := hp
  have h255 := sch_255 i hi _ hlt
  exact V_nret hC (by rw [← h255]; exact sc_nar _) ⟨rfl, rfl⟩ dJ0_charAt_5068e_15
section STR2
variable {X : CX} {g : GX} {w : WX} {cc : ByteArray} {nL k ns d : Nat} {own : String} {ret : Option FieldType} {Q : State → Prop} {pc : Nat} {vs : List (Option Value)} {st : List Value} {M : Mm}
theorem V_slen (hC : Cx X g cc nL own ret d) {i : Nat} (hi : i < 7) {index : Nat} (hw : Cond.methodLink own index yJ0_length_8abf5 ∈ Tk) (hd2 : 2 ≤ d) (hcat : (st.map fun v => v.category).sum ≤ 8) (hr : k ≤ X.2.2.2.1.cells ∧ ns ≤ X.2.2.2.1.slots) (hd : decode cc pc = .ok (.invokevirtual index, 3)) (kk : V X g w nL k ns Q (pc + 3) vs (.int (nI (lenS.getD i 0)) :: st) M) : V X g w nL k ns Q pc vs (.ref (g.2.2.2.2.1 i) :: st) M :=
  V_callS (As := []) hC hi (c_J0_length X.2.1 g w M hi) mw_J0_length rfl hd2 hw rfl rfl hcat hr hd (fun r M' hp => by obtain ⟨rfl, rfl⟩ := hp; exact kk)
theorem V_scha (hC : Cx X g cc nL own ret d) {i : Nat} (hi : i < 7) {x : Int32} (hx : vp_in x (lenS.getD i 0)) {index : Nat} (hw : Cond.methodLink own index yJ0_charAt_5068e ∈ Tk) (hd2 : 4 ≤ d) (hcat : (st.map fun v => v.category).sum ≤ 8) (hr : k ≤ X.2.2.2.1.cells ∧ ns ≤ X.2.2.2.1.slots) (hd : decode cc pc = .ok (.invokevirtual index, 3)) (kk : V X g w nL k ns Q (pc + 3) vs (.int (sch i x.toNatClampNeg) :: st) M) : V X g w nL k ns Q pc vs (.int x :: .ref (g.2.2.2.2.1 i) :: st) M :=
  V_callS (As := [.int x]) hC hi (c_J0_charAt X.2.1 g w M hi hx) mw_J0_charAt rfl hd2 hw rfl rfl hcat hr hd (fun r M' hp => by obtain ⟨rfl, rfl⟩ := hp; exact kk)
end STR2
