/-! loadGrammar -/
theorem aRun_ok {T : Nat → Nat} {len : Nat} : ∀ (f n s : Nat) (D : Nat → Nat), s ≤ len → wfD D → (∀ e, aRun T len f n s D = .inl e → e ≤ len) ∧ ∀ n' D', aRun T len f n s D = .inr (n', D') → wfD D' ∧ n' ≤ n + (len - s)
  | 0, n, s, D, _, _ => ⟨fun e q => by rw [aRun] at q; cases q; omega, fun n' D' q => by rw [aRun] at q; cases q⟩
  | f + 1, n, s, D, hs, hw => by
    have ok := aSem_ok (T := T) (aBdy_ok (T := T) hw hs)
    rw [aRun]
    by_cases z : s = len
    · rw [if_pos z]
      exact ⟨fun e q => (by cases q), fun n' D' q => by cases q; exact ⟨hw, by omega⟩⟩
    · rw [if_neg z]
      have e0 : aStm T len D s = aSem T len (aBdy T len D s) := rfl
      match hq : aSem T len (aBdy T len D s), ok with
      | .inl e, ok =>
        simp only [e0, hq]
        exact ⟨fun e' q => by cases q; exact ok.1 e rfl, fun n' D' q => by cases q⟩
      | .inr (s', D'), ok =>
        have g := ok.2 s' D' rfl
        have ih := aRun_ok (T := T) f (n + 1) s' D' g.2.2 g.1
        simp only [e0, hq]
        exact ⟨ih.1, fun n' D'' q => by have := ih.2 n' D'' q; exact ⟨this.1, by omega⟩⟩
theorem aPar_ok {T : Nat → Nat} {len : Nat} : (∀ e, aPar T len = .inl e → e ≤ len) ∧ ∀ n' D', aPar T len = .inr (n', D') → wfD D' ∧ n' ≤ 1 + len := by
  have ok := aSem_ok (T := T) (aHd_ok (T := T) (sk_le (T := T) (len := len) (i := 0) (by omega)).2)
  unfold aPar
  match hq : aSem T len (aHd T len (sk T len 0)), ok with
  | .inl e, ok => exact ⟨fun e' q => by cases q; exact ok.1 e rfl, fun n' D' q => by cases q⟩
  | .inr (s', D'), ok =>
    have g := ok.2 s' D' rfl
    have h := aRun_ok (T := T) (len + 1) 1 s' D' g.2.2 g.1
    exact ⟨h.1, fun n' D'' q => by have := h.2 n' D'' q; exact ⟨this.1, by omega⟩⟩
theorem neg_10 : ∀ e, e < 151 → ¬ (0 : Int32) ≤ (-10) - nI e ∧ ¬ nI e = (-9 : Int32) := by decide +kernel
theorem op_k2 {fu : Nat} (hf : 1300 ≤ fu) : op_2 fu JR := by
  rintro M ⟨D, cnt, H, len, T, hW, hC, hM⟩ _
  have hl := hW.2.2.2.1
  have hch := hW.2.2.2.2
  obtain ⟨ok0, ok1⟩ := aPar_ok (T := T) (len := len)
  have tC : ∀ M1, kC M M1 → JC M1 D cnt H len T := fun M1 a => hC.keep (fun c c1 c2 c3 _ => a.1 c c2 (by omega)) a.2 (by rw [a.1 105 (by omega) (by omega)]; exact ⟨rfl, rfl⟩) (by rw [a.1 123 (by omega) (by omega)]; exact ⟨rfl, rfl⟩)
  have tM : ∀ M1 M2, JM M1 D cnt H len T → kP M1 M2 → JM M2 D cnt H len T := fun M1 M2 h b => h.keep (b.1 146 (by omega) (by omega)) (b.1 148 (by omega) (by omega)) (b.1 149 (by omega) (by omega)) ⟨b.2 3 (by omega) (by omega) (by omega) (by omega) (by omega) (by omega) (by omega), b.2 5 (by omega) (by omega) (by omega) (by omega) (by omega) (by omega) (by omega)⟩
  unfold f_SR_loadGrammar
  simp only [Nat.reduceAdd]
  refine c_read hf hl hch ⟨hC.2.2.1, hC.2.2.2.1⟩ (fun e q M1 a1 => ?_) (fun n' D' q M1 a1 a2 => ?_)
  · have he := ok0 e q
    refine br_f (neg_10 e (by omega)).1 ?_
    have hM1 : JM M1 D cnt H len T := hM.frC (fun c hc => a1.1 c (by omega) (by omega))
    unfold f_Md_loadGrammar
    refine m_parse hf hl hch ⟨hM1.2.2.1, hM1.2.2.2⟩ (fun e2 q2 M2 b1 => ?_) (fun n' D' q2 => by rw [q] at q2; cases q2)
    rw [q] at q2
    cases q2
    exact br_f (neg_10 e (by omega)).2 ⟨rfl, mkR hW ((tC M1 a1).frM (fun c hc => b1.1 c (by omega) (by omega))) (tM M1 M2 hM1 b1)⟩
  · obtain ⟨hwD, hn⟩ := ok1 n' D' q
    refine br_t (nI_pos' (by omega)) ?_
    refine c_beginEdit hf hW (tC M1 a2) (fun M2 b1 b2 b3 b4 b5 => ?_)
    refine s_siCopy (s := 1) (a := 95) hf kd_1 kd_95 (by omega) hwD.2.2.2.2.1 (a1.keep (fun c _ _ => b5 c (by omega) (by omega) (by omega))) (fun M3 d1 d2 M4 e4 => ?_)
    have hC3 : JC M3 D' (hisN cnt) (hisP cnt H D) len T := b1.edit b2 b3 (fun c _ _ => d2 c (by omega)) d1
    have hC4 : JC M4 D' (hisN cnt) (hisP cnt H D) 0 T := hC3.text (fun c _ c1 _ => by rw [e4, up_c c1]) (by rw [e4, up_s]; rfl) (fun i hi => absurd hi (by omega))
    have hM4 : JM M4 D cnt H len T := hM.frC (fun c hc => by rw [e4, up_c (by omega), d2 c (by omega), b5 c (by omega) (by omega) (by omega), a2.1 c (by omega) (by omega)])
    have hW' := hW.push hwD
    unfold f_Md_loadGrammar
    refine m_parse hf hl hch ⟨hM4.2.2.1, hM4.2.2.2⟩ (fun e q2 => by rw [q] at q2; cases q2) (fun n2 D2 q2 M5 c1 c2 c3 => br_t rfl ?_)
    rw [q] at q2
    cases q2
    have hM5 := tM M4 M5 hM4 c3
    refine s_save hf hW.2.2.1 hM5.1 hM5.2.1 (fun M6 f1 f2 f3 => ?_)
    refine s_copyData (i := 0) (j := 0) (a := 145 + 2) (b := 145 + 1) (by omega) (by rw [show 145 + 2 = 147 from rfl, ln_M.2.1]; omega) (by rw [show 145 + 1 = 146 from rfl, ln_M.1]; omega) hf (fun M7 g1 g2 g3 M8 e8 => ?_)
    rw [show 145 + 2 = 147 from rfl, show 145 + 1 = 146 from rfl] at g1
    rw [show 145 + 1 = 146 from rfl] at g2 g3
    obtain ⟨x1, x2⟩ := f1
    refine ⟨?_, mkR (T := T) (len := 0) ⟨hW'.1, hW'.2.1, hW'.2.2.1, by omega, fun i hi => absurd hi (by omega)⟩ (hC4.frM (fun c hc => by rw [e8, up_c (by omega), g3 c (by omega), f2 c (by omega) (by omega), c3.1 c (by omega) (by omega)])) ⟨fun k hk => ?_, ⟨?_, fun i hi => (x2 i hi).keep (fun k _ => by rw [e8, up_c (by omega), g3 148 (by omega)])⟩, by rw [e8, up_s]; rfl, fun i hi => absurd hi (by omega)⟩⟩
    · rw [e8, up_k (by omega), g3 145 (by omega), f3 11 (by omega), c2]
    · rw [e8, up_c (by omega), g1 k hk, f2 147 (by omega) (by omega)]
      exact c1 k hk
    · rw [e8, up_k (by omega), g3 145 (by omega)]; exact x1
