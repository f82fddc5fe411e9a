section RULES
variable {X : CX} {g : GX} {w : WX} {cc : ByteArray} {nL k ns d : Nat} {own : String} {ret : Option FieldType} {Q : State → Prop} {pc : Nat} {vs : List (Option Value)} {st : List Value} {M : Mm}
theorem V_iload_n (hC : Cx X g cc nL own ret d) {j : Fin 4} {x : Int32} (hl : vs[(j : Nat)]? = some (some (.int x))) (hd : decode cc pc = .ok (.iload_n j, 1)) (kk : V X g w nL k ns Q (pc + 1) vs (.int x :: st) M) : V X g w nL k ns Q pc vs st M :=
  fun H locs ls hL hz hP hS => lv_iload_n hC.1 hC.2.1 hd rfl (hL.at hl) (kk H locs ls hL hz hP hS)
theorem V_iload (hC : Cx X g cc nL own ret d) {j : Nat} {x : Int32} (hl : vs[j]? = some (some (.int x))) (hd : decode cc pc = .ok (.iload j, 2)) (kk : V X g w nL k ns Q (pc + 2) vs (.int x :: st) M) : V X g w nL k ns Q pc vs st M :=
  fun H locs ls hL hz hP hS => lv_iload hC.1 hC.2.1 hd (hL.at hl) (kk H locs ls hL hz hP hS)
theorem V_aload_n (hC : Cx X g cc nL own ret d) {j : Fin 4} {x : Nat} (hl : vs[(j : Nat)]? = some (some (.ref x))) (hd : decode cc pc = .ok (.aload_n j, 1)) (kk : V X g w nL k ns Q (pc + 1) vs (.ref x :: st) M) : V X g w nL k ns Q pc vs st M :=
  fun H locs ls hL hz hP hS => lv_aload_n hC.1 hC.2.1 hd rfl (hL.at hl) (kk H locs ls hL hz hP hS)
theorem V_aload (hC : Cx X g cc nL own ret d) {j : Nat} {x : Nat} (hl : vs[j]? = some (some (.ref x))) (hd : decode cc pc = .ok (.aload j, 2)) (kk : V X g w nL k ns Q (pc + 2) vs (.ref x :: st) M) : V X g w nL k ns Q pc vs st M :=
  fun H locs ls hL hz hP hS => lv_aload hC.1 hC.2.1 hd (hL.at hl) (kk H locs ls hL hz hP hS)
theorem V_istore_n (hC : Cx X g cc nL own ret d) {j : Fin 4} {x : Int32} (hn : (j : Nat) < nL) (hd : decode cc pc = .ok (.istore_n j, 1)) (kk : V X g w nL k ns Q (pc + 1) (vs.set (j : Nat) (some (.int x))) st M) : V X g w nL k ns Q pc vs ((.int x) :: st) M :=
  fun H locs ls hL hz hP hS => lv_istore_n hC.1 hC.2.1 hd rfl hL.2 hn rfl (fun ls' h' => kk H locs ls' (hL.put rfl h') hz hP hS)
theorem V_istore (hC : Cx X g cc nL own ret d) {j : Nat} {x : Int32} (hn : j < nL) (hd : decode cc pc = .ok (.istore j, 2)) (kk : V X g w nL k ns Q (pc + 2) (vs.set j (some (.int x))) st M) : V X g w nL k ns Q pc vs ((.int x) :: st) M :=
  fun H locs ls hL hz hP hS => lv_istore hC.1 hC.2.1 hd hL.2 hn rfl (fun ls' h' => kk H locs ls' (hL.put rfl h') hz hP hS)
theorem V_astore_n (hC : Cx X g cc nL own ret d) {j : Fin 4} {x : Nat} (hn : (j : Nat) < nL) (hd : decode cc pc = .ok (.astore_n j, 1)) (kk : V X g w nL k ns Q (pc + 1) (vs.set (j : Nat) (some (.ref x))) st M) : V X g w nL k ns Q pc vs ((.ref x) :: st) M :=
  fun H locs ls hL hz hP hS => lv_astore_n hC.1 hC.2.1 hd rfl hL.2 hn rfl (fun ls' h' => kk H locs ls' (hL.put rfl h') hz hP hS)
theorem V_astore (hC : Cx X g cc nL own ret d) {j : Nat} {x : Nat} (hn : j < nL) (hd : decode cc pc = .ok (.astore j, 2)) (kk : V X g w nL k ns Q (pc + 2) (vs.set j (some (.ref x))) st M) : V X g w nL k ns Q pc vs ((.ref x) :: st) M :=
  fun H locs ls hL hz hP hS => lv_astore hC.1 hC.2.1 hd hL.2 hn rfl (fun ls' h' => kk H locs ls' (hL.put rfl h') hz hP hS)
theorem V_iinc (hC : Cx X g cc nL own ret d) {j : Nat} {z : Int} {x v : Int32} (hl : vs[j]? = some (some (.int x))) (hv : x + Int32.ofInt z = v) (hn : j < nL) (hd : decode cc pc = .ok (.iinc j z, 3)) (kk : V X g w nL k ns Q (pc + 3) (vs.set j (some (.int v))) st M) : V X g w nL k ns Q pc vs st M :=
  fun H locs ls hL hz hP hS => by
    obtain ⟨i, hi⟩ := List.getElem?_of_mem (lvl_mem.mpr hl)
    exact lv_iinc hC.1 hC.2.1 hd hL.2 (k := i) hi hv hn rfl (fun ls' h' => kk H locs ls' (hL.put rfl h') hz hP hS)
theorem V_iconst (hC : Cx X g cc nL own ret d) {z : Int} {v : Int32} (hv : Int32.ofInt z = v) (hd : decode cc pc = .ok (.iconst z, 1)) (kk : V X g w nL k ns Q (pc + 1) vs (.int v :: st) M) : V X g w nL k ns Q pc vs st M :=
  fun H locs ls hL hz hP hS => lv_iconst hC.1 hC.2.1 hd hv (kk H locs ls hL hz hP hS)
theorem V_bipush (hC : Cx X g cc nL own ret d) {z : Int} {v : Int32} (hv : (Int8.ofInt z).toInt32 = v) (hd : decode cc pc = .ok (.bipush z, 2)) (kk : V X g w nL k ns Q (pc + 2) vs (.int v :: st) M) : V X g w nL k ns Q pc vs st M :=
  fun H locs ls hL hz hP hS => lv_bipush hC.1 hC.2.1 hd hv (kk H locs ls hL hz hP hS)
theorem V_sipush (hC : Cx X g cc nL own ret d) {z : Int} {v : Int32} (hv : (Int16.ofInt z).toInt32 = v) (hd : decode cc pc = .ok (.sipush z, 3)) (kk : V X g w nL k ns Q (pc + 3) vs (.int v :: st) M) : V X g w nL k ns Q pc vs st M :=
  fun H locs ls hL hz hP hS => lv_sipush hC.1 hC.2.1 hd hv (kk H locs ls hL hz hP hS)
theorem V_lconst (hC : Cx X g cc nL own ret d) {z : Fin 2} {v : Int64} (hv : Int64.ofNat (z : Nat) = v) (hd : decode cc pc = .ok (.lconst z, 1)) (kk : V X g w nL k ns Q (pc + 1) vs (.long v :: st) M) : V X g w nL k ns Q pc vs st M :=
  fun H locs ls hL hz hP hS => lv_lconst hC.1 hC.2.1 hd hv (kk H locs ls hL hz hP hS)
theorem V_ldc (hC : Cx X g cc nL own ret d) {index : Nat} {v : Int32} (hw : Cond.constant own index v ∈ Tk) (hd : decode cc pc = .ok (.ldc index, 2)) (kk : V X g w nL k ns Q (pc + 2) vs (.int v :: st) M) : V X g w nL k ns Q pc vs st M :=
  fun H locs ls hL hz hP hS => lv_ldc hC.1 hC.2.1 hC.2.2.1 (hC.2.2.2.2.2.2.1.hts _ hw) hd (kk H locs ls hL hz hP hS)
theorem V_ldc2 (hC : Cx X g cc nL own ret d) {index : Nat} {v : Int64} (hw : Cond.constantLong own index v ∈ Tk) (hd : decode cc pc = .ok (.ldc2_w index, 3)) (kk : V X g w nL k ns Q (pc + 3) vs (.long v :: st) M) : V X g w nL k ns Q pc vs st M :=
  fun H locs ls hL hz hP hS => lv_ldc2 hC.1 hC.2.1 hC.2.2.1 (hC.2.2.2.2.2.2.1.hts _ hw) hd (kk H locs ls hL hz hP hS)
theorem V_iadd (hC : Cx X g cc nL own ret d) {x y : Int32} (hd : decode cc pc = .ok (.iadd, 1)) (kk : V X g w nL k ns Q (pc + 1) vs (.int (x + y) :: st) M) : V X g w nL k ns Q pc vs (.int y :: .int x :: st) M :=
  fun H locs ls hL hz hP hS => lv_iadd hC.1 hC.2.1 hd (kk H locs ls hL hz hP hS)
theorem V_isub (hC : Cx X g cc nL own ret d) {x y : Int32} (hd : decode cc pc = .ok (.isub, 1)) (kk : V X g w nL k ns Q (pc + 1) vs (.int (x - y) :: st) M) : V X g w nL k ns Q pc vs (.int y :: .int x :: st) M :=
  fun H locs ls hL hz hP hS => lv_isub hC.1 hC.2.1 hd (kk H locs ls hL hz hP hS)
theorem V_imul (hC : Cx X g cc nL own ret d) {x y : Int32} (hd : decode cc pc = .ok (.imul, 1)) (kk : V X g w nL k ns Q (pc + 1) vs (.int (x * y) :: st) M) : V X g w nL k ns Q pc vs (.int y :: .int x :: st) M :=
  fun H locs ls hL hz hP hS => lv_imul hC.1 hC.2.1 hd (kk H locs ls hL hz hP hS)
theorem V_iand (hC : Cx X g cc nL own ret d) {x y : Int32} (hd : decode cc pc = .ok (.iand, 1)) (kk : V X g w nL k ns Q (pc + 1) vs (.int (x &&& y) :: st) M) : V X g w nL k ns Q pc vs (.int y :: .int x :: st) M :=
  fun H locs ls hL hz hP hS => lv_iand hC.1 hC.2.1 hd (kk H locs ls hL hz hP hS)
theorem V_ior (hC : Cx X g cc nL own ret d) {x y : Int32} (hd : decode cc pc = .ok (.ior, 1)) (kk : V X g w nL k ns Q (pc + 1) vs (.int (x ||| y) :: st) M) : V X g w nL k ns Q pc vs (.int y :: .int x :: st) M :=
  fun H locs ls hL hz hP hS => lv_ior hC.1 hC.2.1 hd (kk H locs ls hL hz hP hS)
theorem V_idiv (hC : Cx X g cc nL own ret d) {x y : Int32} (hne : ¬ y = 0) (hd : decode cc pc = .ok (.idiv, 1)) (kk : V X g w nL k ns Q (pc + 1) vs (.int (x / y) :: st) M) : V X g w nL k ns Q pc vs (.int y :: .int x :: st) M :=
  fun H locs ls hL hz hP hS => lv_idiv hC.1 hC.2.1 hd hne (kk H locs ls hL hz hP hS)
theorem V_irem (hC : Cx X g cc nL own ret d) {x y : Int32} (hne : ¬ y = 0) (hd : decode cc pc = .ok (.irem, 1)) (kk : V X g w nL k ns Q (pc + 1) vs (.int (x - x / y * y) :: st) M) : V X g w nL k ns Q pc vs (.int y :: .int x :: st) M :=
  fun H locs ls hL hz hP hS => lv_irem hC.1 hC.2.1 hd hne (kk H locs ls hL hz hP hS)
theorem V_ishl (hC : Cx X g cc nL own ret d) {x y : Int32} (hd : decode cc pc = .ok (.ishl, 1)) (kk : V X g w nL k ns Q (pc + 1) vs (.int (x <<< (y &&& 31)) :: st) M) : V X g w nL k ns Q pc vs (.int y :: .int x :: st) M :=
  fun H locs ls hL hz hP hS => lv_ishl hC.1 hC.2.1 hd (kk H locs ls hL hz hP hS)
theorem V_ishr (hC : Cx X g cc nL own ret d) {x y : Int32} (hd : decode cc pc = .ok (.ishr, 1)) (kk : V X g w nL k ns Q (pc + 1) vs (.int (x >>> (y &&& 31)) :: st) M) : V X g w nL k ns Q pc vs (.int y :: .int x :: st) M :=
  fun H locs ls hL hz hP hS => lv_ishr hC.1 hC.2.1 hd (kk H locs ls hL hz hP hS)
theorem V_ladd (hC : Cx X g cc nL own ret d) {x y : Int64} (hd : decode cc pc = .ok (.ladd, 1)) (kk : V X g w nL k ns Q (pc + 1) vs (.long (x + y) :: st) M) : V X g w nL k ns Q pc vs (.long y :: .long x :: st) M :=
  fun H locs ls hL hz hP hS => lv_ladd hC.1 hC.2.1 hd (kk H locs ls hL hz hP hS)
theorem V_lsub (hC : Cx X g cc nL own ret d) {x y : Int64} (hd : decode cc pc = .ok (.lsub, 1)) (kk : V X g w nL k ns Q (pc + 1) vs (.long (x - y) :: st) M) : V X g w nL k ns Q pc vs (.long y :: .long x :: st) M :=
  fun H locs ls hL hz hP hS => lv_lsub hC.1 hC.2.1 hd (kk H locs ls hL hz hP hS)
theorem V_lmul (hC : Cx X g cc nL own ret d) {x y : Int64} (hd : decode cc pc = .ok (.lmul, 1)) (kk : V X g w nL k ns Q (pc + 1) vs (.long (x * y) :: st) M) : V X g w nL k ns Q pc vs (.long y :: .long x :: st) M :=
  fun H locs ls hL hz hP hS => lv_lmul hC.1 hC.2.1 hd (kk H locs ls hL hz hP hS)
theorem V_lcmp (hC : Cx X g cc nL own ret d) {x y : Int64} (hd : decode cc pc = .ok (.lcmp, 1)) (kk : V X g w nL k ns Q (pc + 1) vs (.int (lg_cmp x y) :: st) M) : V X g w nL k ns Q pc vs (.long y :: .long x :: st) M :=
  fun H locs ls hL hz hP hS => W.lcmp hC.1 hC.2.1 hd (kk H locs ls hL hz hP hS)
theorem V_i2l (hC : Cx X g cc nL own ret d) {x : Int32} (hd : decode cc pc = .ok (.i2l, 1)) (kk : V X g w nL k ns Q (pc + 1) vs (.long x.toInt64 :: st) M) : V X g w nL k ns Q pc vs (.int x :: st) M :=
  fun H locs ls hL hz hP hS => lv_i2l hC.1 hC.2.1 hd rfl (kk H locs ls hL hz hP hS)
theorem V_l2i (hC : Cx X g cc nL own ret d) {x : Int64} (hd : decode cc pc = .ok (.l2i, 1)) (kk : V X g w nL k ns Q (pc + 1) vs (.int x.toInt32 :: st) M) : V X g w nL k ns Q pc vs (.long x :: st) M :=
  fun H locs ls hL hz hP hS => lv_l2i hC.1 hC.2.1 hd rfl (kk H locs ls hL hz hP hS)
theorem V_dup (hC : Cx X g cc nL own ret d) {v : Value} (hv : v.category = 1) (hd : decode cc pc = .ok (.dup, 1)) (kk : V X g w nL k ns Q (pc + 1) vs (v :: v :: st) M) : V X g w nL k ns Q pc vs (v :: st) M :=
  fun H locs ls hL hz hP hS => lv_dup hC.1 hC.2.1 hd hv (kk H locs ls hL hz hP hS)
theorem V_dup2 (hC : Cx X g cc nL own ret d) {u v : Value} (hu : u.category = 1) (hv : v.category = 1) (hd : decode cc pc = .ok (.dup2, 1)) (kk : V X g w nL k ns Q (pc + 1) vs (u :: v :: u :: v :: st) M) : V X g w nL k ns Q pc vs (u :: v :: st) M :=
  fun H locs ls hL hz hP hS => lv_dup2_11 hC.1 hC.2.1 hd hu hv (kk H locs ls hL hz hP hS)
theorem V_goto (hC : Cx X g cc nL own ret d) {off : Int} {tgt : Nat} (ht : (pc : Int) + off = (tgt : Int)) (hd : decode cc pc = .ok (.goto off, 3)) (kk : V X g w nL k ns Q tgt vs st M) : V X g w nL k ns Q pc vs st M :=
  fun H locs ls hL hz hP hS => lv_goto hC.1 hC.2.1 hd ht (kk H locs ls hL hz hP hS)
theorem V_null (hC : Cx X g cc nL own ret d)  (hd : decode cc pc = .ok (.aconst_null, 1)) (kk : V X g w nL k ns Q (pc + 1) vs (.null :: st) M) : V X g w nL k ns Q pc vs st M :=
  fun H locs ls hL hz hP hS => lv_null hC.1 hC.2.1 hd (kk H locs ls hL hz hP hS)
theorem V_icmp_eq (hC : Cx X g cc nL own ret d) {x y : Int32} {off : Int} {tgt : Nat} (hd : decode cc pc = .ok (.if_icmp .eq off, 3)) (ht : (pc : Int) + off = (tgt : Int)) (kt : (x = y) → V X g w nL k ns Q tgt vs st M) (kf : ¬ (x = y) → V X g w nL k ns Q (pc + 3) vs st M) : V X g w nL k ns Q pc vs (.int y :: .int x :: st) M :=
  fun H locs ls hL hz hP hS => lv_icmp_eq hC.1 hC.2.1 hd ht (fun q => kt q H locs ls hL hz hP hS) (fun q => kf q H locs ls hL hz hP hS)
theorem V_icmp_ne (hC : Cx X g cc nL own ret d) {x y : Int32} {off : Int} {tgt : Nat} (hd : decode cc pc = .ok (.if_icmp .ne off, 3)) (ht : (pc : Int) + off = (tgt : Int)) (kt : (¬ x = y) → V X g w nL k ns Q tgt vs st M) (kf : (x = y) → V X g w nL k ns Q (pc + 3) vs st M) : V X g w nL k ns Q pc vs (.int y :: .int x :: st) M :=
  fun H locs ls hL hz hP hS => lv_icmp_ne hC.1 hC.2.1 hd ht (fun q => kt q H locs ls hL hz hP hS) (fun q => kf q H locs ls hL hz hP hS)
theorem V_icmp_lt (hC : Cx X g cc nL own ret d) {x y : Int32} {off : Int} {tgt : Nat} (hd : decode cc pc = .ok (.if_icmp .lt off, 3)) (ht : (pc : Int) + off = (tgt : Int)) (kt : (x < y) → V X g w nL k ns Q tgt vs st M) (kf : ¬ (x < y) → V X g w nL k ns Q (pc + 3) vs st M) : V X g w nL k ns Q pc vs (.int y :: .int x :: st) M :=
  fun H locs ls hL hz hP hS => lv_icmp_lt hC.1 hC.2.1 hd ht (fun q => kt q H locs ls hL hz hP hS) (fun q => kf q H locs ls hL hz hP hS)
theorem V_icmp_ge (hC : Cx X g cc nL own ret d) {x y : Int32} {off : Int} {tgt : Nat} (hd : decode cc pc = .ok (.if_icmp .ge off, 3)) (ht : (pc : Int) + off = (tgt : Int)) (kt : (y ≤ x) → V X g w nL k ns Q tgt vs st M) (kf : ¬ (y ≤ x) → V X g w nL k ns Q (pc + 3) vs st M) : V X g w nL k ns Q pc vs (.int y :: .int x :: st) M :=
  fun H locs ls hL hz hP hS => lv_icmp_ge hC.1 hC.2.1 hd ht (fun q => kt q H locs ls hL hz hP hS) (fun q => kf q H locs ls hL hz hP hS)
theorem V_icmp_gt (hC : Cx X g cc nL own ret d) {x y : Int32} {off : Int} {tgt : Nat} (hd : decode cc pc = .ok (.if_icmp .gt off, 3)) (ht : (pc : Int) + off = (tgt : Int)) (kt : (y < x) → V X g w nL k ns Q tgt vs st M) (kf : ¬ (y < x) → V X g w nL k ns Q (pc + 3) vs st M) : V X g w nL k ns Q pc vs (.int y :: .int x :: st) M :=
  fun H locs ls hL hz hP hS => lv_icmp_gt hC.1 hC.2.1 hd ht (fun q => kt q H locs ls hL hz hP hS) (fun q => kf q H locs ls hL hz hP hS)
theorem V_icmp_le (hC : Cx X g cc nL own ret d) {x y : Int32} {off : Int} {tgt : Nat} (hd : decode cc pc = .ok (.if_icmp .le off, 3)) (ht : (pc : Int) + off = (tgt : Int)) (kt : (x ≤ y) → V X g w nL k ns Q tgt vs st M) (kf : ¬ (x ≤ y) → V X g w nL k ns Q (pc + 3) vs st M) : V X g w nL k ns Q pc vs (.int y :: .int x :: st) M :=
  fun H locs ls hL hz hP hS => lv_icmp_le hC.1 hC.2.1 hd ht (fun q => kt q H locs ls hL hz hP hS) (fun q => kf q H locs ls hL hz hP hS)
theorem V_if_eq (hC : Cx X g cc nL own ret d) {x : Int32} {off : Int} {tgt : Nat} (hd : decode cc pc = .ok (.ifCond .eq off, 3)) (ht : (pc : Int) + off = (tgt : Int)) (kt : (x = 0) → V X g w nL k ns Q tgt vs st M) (kf : ¬ (x = 0) → V X g w nL k ns Q (pc + 3) vs st M) : V X g w nL k ns Q pc vs (.int x :: st) M :=
  fun H locs ls hL hz hP hS => lv_if_eq hC.1 hC.2.1 hd ht (fun q => kt q H locs ls hL hz hP hS) (fun q => kf q H locs ls hL hz hP hS)
theorem V_if_ne (hC : Cx X g cc nL own ret d) {x : Int32} {off : Int} {tgt : Nat} (hd : decode cc pc = .ok (.ifCond .ne off, 3)) (ht : (pc : Int) + off = (tgt : Int)) (kt : (¬ x = 0) → V X g w nL k ns Q tgt vs st M) (kf : (x = 0) → V X g w nL k ns Q (pc + 3) vs st M) : V X g w nL k ns Q pc vs (.int x :: st) M :=
  fun H locs ls hL hz hP hS => lv_if_ne hC.1 hC.2.1 hd ht (fun q => kt q H locs ls hL hz hP hS) (fun q => kf q H locs ls hL hz hP hS)
theorem V_if_lt (hC : Cx X g cc nL own ret d) {x : Int32} {off : Int} {tgt : Nat} (hd : decode cc pc = .ok (.ifCond .lt off, 3)) (ht : (pc : Int) + off = (tgt : Int)) (kt : (x < 0) → V X g w nL k ns Q tgt vs st M) (kf : ¬ (x < 0) → V X g w nL k ns Q (pc + 3) vs st M) : V X g w nL k ns Q pc vs (.int x :: st) M :=
  fun H locs ls hL hz hP hS => lv_if_lt hC.1 hC.2.1 hd ht (fun q => kt q H locs ls hL hz hP hS) (fun q => kf q H locs ls hL hz hP hS)
theorem V_if_ge (hC : Cx X g cc nL own ret d) {x : Int32} {off : Int} {tgt : Nat} (hd : decode cc pc = .ok (.ifCond .ge off, 3)) (ht : (pc : Int) + off = (tgt : Int)) (kt : (0 ≤ x) → V X g w nL k ns Q tgt vs st M) (kf : ¬ (0 ≤ x) → V X g w nL k ns Q (pc + 3) vs st M) : V X g w nL k ns Q pc vs (.int x :: st) M :=
  fun H locs ls hL hz hP hS => lv_if_ge hC.1 hC.2.1 hd ht (fun q => kt q H locs ls hL hz hP hS) (fun q => kf q H locs ls hL hz hP hS)
theorem V_if_gt (hC : Cx X g cc nL own ret d) {x : Int32} {off : Int} {tgt : Nat} (hd : decode cc pc = .ok (.ifCond .gt off, 3)) (ht : (pc : Int) + off = (tgt : Int)) (kt : (0 < x) → V X g w nL k ns Q tgt vs st M) (kf : ¬ (0 < x) → V X g w nL k ns Q (pc + 3) vs st M) : V X g w nL k ns Q pc vs (.int x :: st) M :=
  fun H locs ls hL hz hP hS => lv_if_gt hC.1 hC.2.1 hd ht (fun q => kt q H locs ls hL hz hP hS) (fun q => kf q H locs ls hL hz hP hS)
theorem V_if_le (hC : Cx X g cc nL own ret d) {x : Int32} {off : Int} {tgt : Nat} (hd : decode cc pc = .ok (.ifCond .le off, 3)) (ht : (pc : Int) + off = (tgt : Int)) (kt : (x ≤ 0) → V X g w nL k ns Q tgt vs st M) (kf : ¬ (x ≤ 0) → V X g w nL k ns Q (pc + 3) vs st M) : V X g w nL k ns Q pc vs (.int x :: st) M :=
  fun H locs ls hL hz hP hS => lv_if_le hC.1 hC.2.1 hd ht (fun q => kt q H locs ls hL hz hP hS) (fun q => kf q H locs ls hL hz hP hS)
theorem V_ifnull_s (hC : Cx X g cc nL own ret d) {x : Nat} {off : Int} (hd : decode cc pc = .ok (.ifnull off, 3)) (kk : V X g w nL k ns Q (pc + 3) vs st M) : V X g w nL k ns Q pc vs (.ref x :: st) M :=
  fun H locs ls hL hz hP hS => lv_ifnull hC.1 hC.2.1 hd (kk H locs ls hL hz hP hS)
theorem V_ifnull_n (hC : Cx X g cc nL own ret d) {off : Int} {tgt : Nat} (ht : (pc : Int) + off = (tgt : Int)) (hd : decode cc pc = .ok (.ifnull off, 3)) (kk : V X g w nL k ns Q tgt vs st M) : V X g w nL k ns Q pc vs (.null :: st) M :=
  fun H locs ls hL hz hP hS => lv_ifnullN hC.1 hC.2.1 hd ht (kk H locs ls hL hz hP hS)
theorem V_sub {us : List (Option Value)} (h : lsub us vs) (kk : V X g w nL k ns Q pc us st M) : V X g w nL k ns Q pc vs st M := fun H locs ls hL hz hP hS => kk H locs ls (hL.sub h) hz hP hS
theorem V_tin (hC : Cx X g cc nL own ret d) {dflt lo hi : Int} {offs : Array Int} {len : Nat} {x : Int32} {off : Int} {tgt : Nat} (hd : decode cc pc = .ok (.tableswitch dflt lo hi offs, len)) (h1 : ¬ x.toInt < lo) (h2 : ¬ hi < x.toInt) (ho : offs[(x.toInt - lo).toNat]? = some off) (ht : (pc : Int) + off = (tgt : Int)) (kk : V X g w nL k ns Q tgt vs st M) : V X g w nL k ns Q pc vs (.int x :: st) M :=
  fun H locs ls hL hz hP hS => lv_tableIn hC.1 hC.2.1 hd h1 h2 ho ht (kk H locs ls hL hz hP hS)
theorem V_tout (hC : Cx X g cc nL own ret d) {dflt lo hi : Int} {offs : Array Int} {len : Nat} {x : Int32} {tgt : Nat} (hd : decode cc pc = .ok (.tableswitch dflt lo hi offs, len)) (h : x.toInt < lo ∨ hi < x.toInt) (ht : (pc : Int) + dflt = (tgt : Int)) (kk : V X g w nL k ns Q tgt vs st M) : V X g w nL k ns Q pc vs (.int x :: st) M :=
  fun H locs ls hL hz hP hS => lv_tableOut hC.1 hC.2.1 hd h ht (kk H locs ls hL hz hP hS)
theorem ent_20 {f : Nat → Int32} {c : Nat} (h : kd c = 20) : ent g f c = .inl (g.2.2.1, ln c, .inl f) := by unfold ent; rw [h]; rfl
theorem ent_21 {f : Nat → Int32} {c : Nat} (h : kd c = 21) : ent g f c = .inl (g.2.2.2.1, ln c, .inr (.inr (.inr (.inr (fun k => some (g.1 + (c + 1 + 10 * k))))))) := by unfold ent; rw [h]; rfl
theorem V_iald (hC : Cx X g cc nL own ret d) {r : Nat} {i : Int32} (hk : ok w r 20) (hin : vp_in i (ln r)) (hd : decode cc pc = .ok (.iaload, 1)) (kk : V X g w nL k ns Q (pc + 1) vs (.int (M r i.toNatClampNeg) :: st) M) : V X g w nL k ns Q pc vs (.int i :: ob g r :: st) M :=
  fun H locs ls hL hz hP hS => by
    obtain ⟨h1, h2, h3⟩ := en_ok (g := g) (M := M) hk (by decide)
    exact va_iald hC.1 hC.2.1 hC.2.2.2.2.2.2.2.1 hP r 0 ((wl_at h1).trans (by rw [h2, ent_20 h3])) rfl hin hd (kk H locs ls hL hz hP hS)
theorem V_alen (hC : Cx X g cc nL own ret d) {r : Nat} (hk : ok w r 20) {v : Int32} (hv : Int32.ofNat (ln r) = v) (hd : decode cc pc = .ok (.arraylength, 1)) (kk : V X g w nL k ns Q (pc + 1) vs (.int v :: st) M) : V X g w nL k ns Q pc vs (ob g r :: st) M :=
  fun H locs ls hL hz hP hS => by
    obtain ⟨h1, h2, h3⟩ := en_ok (g := g) (M := M) hk (by decide)
    exact va_alen hC.1 hC.2.1 hC.2.2.2.2.2.2.2.1 hP r 0 ((wl_at h1).trans (by rw [h2, ent_20 h3])) rfl (v := v) hv hd (kk H locs ls hL hz hP hS)
theorem V_qlen (hC : Cx X g cc nL own ret d) {r : Nat} (hk : ok w r 21) {v : Int32} (hv : Int32.ofNat (ln r) = v) (hd : decode cc pc = .ok (.arraylength, 1)) (kk : V X g w nL k ns Q (pc + 1) vs (.int v :: st) M) : V X g w nL k ns Q pc vs (ob g r :: st) M :=
  fun H locs ls hL hz hP hS => by
    obtain ⟨h1, h2, h3⟩ := en_ok (g := g) (M := M) hk (by decide)
    exact va_alen hC.1 hC.2.1 hC.2.2.2.2.2.2.2.1 hP r 1 ((wl_at h1).trans (by rw [h2, ent_21 h3])) rfl (v := v) hv hd (kk H locs ls hL hz hP hS)
theorem V_aald (hC : Cx X g cc nL own ret d) {r : Nat} {i : Int32} (hk : ok w r 21) (hin : vp_in i (ln r)) (hd : decode cc pc = .ok (.aaload, 1)) (kk : V X g w nL k ns Q (pc + 1) vs (ob g (r + 1 + 10 * i.toNatClampNeg) :: st) M) : V X g w nL k ns Q pc vs (.int i :: ob g r :: st) M :=
  fun H locs ls hL hz hP hS => by
    obtain ⟨h1, h2, h3⟩ := en_ok (g := g) (M := M) hk (by decide)
    exact va_aldq (f := fun k => some (g.1 + (r + 1 + 10 * k))) hC.1 hC.2.1 hC.2.2.2.2.2.2.2.1 hP r 1 ((wl_at h1).trans (by rw [h2, ent_21 h3])) rfl hin hd (kk H locs ls hL hz hP hS)
theorem V_iast (hC : Cx X g cc nL own ret d) {r : Nat} {i x : Int32} (hk : ok w r 20) (hin : vp_in i (ln r)) (hd : decode cc pc = .ok (.iastore, 1)) (kk : V X g w nL k ns Q (pc + 1) vs st (up M r i.toNatClampNeg x)) : V X g w nL k ns Q pc vs (.int x :: .int i :: ob g r :: st) M :=
  fun H locs ls hL hz hP hS => by
    obtain ⟨h1, h2, h3⟩ := en_ok (g := g) (M := M) hk (by decide)
    obtain ⟨-, h5, -⟩ := en_ok (g := g) (M := up M r i.toNatClampNeg x) hk (by decide)
    have ha : (wl g w M)[r]? = some (g.1 + r, .inl (g.2.2.1, ln r, .inl (M r))) := (wl_at h1).trans (by rw [h2, ent_20 h3])
    have hset : (wl g w M).set r (g.1 + r, .inl (g.2.2.1, ln r, .inl (upd (M r) i.toNatClampNeg x))) = wl g w (up M r i.toNatClampNeg x) := wl_set h1 (by rw [h5, ent_20 h3, up_e]) (fun c' h => up_c h)
    refine W.iast hC.1 hC.2.1 (hP r _ ha) ((hC.2.2.2.2.2.2.2.1.2 0 _ rfl).1 (ln r) (fun j => .int (M r j))) (fun q => by cases q) (by show ¬ (i < 0 ∨ (arrV _ _ _).slots.size ≤ _); rw [arrV_size]; exact hin) rfl rfl hd fun H1 e z oq => ?_
    refine kk H1 _ ls hL (z.trans hz) ?_ (hS.put z oq (Nat.le_add_right _ _))
    rw [← hset]
    refine hP.set wl_D ha ?_ oq
    show H1[g.1 + r]? = some (vp_cell _ _)
    rw [e, vp_cell_i, vp_cell_i, arrV_store]
    congr 2
    funext q
    by_cases hq : q = i.toNatClampNeg
    · subst hq
      simp [updV, upd]
    · simp [updV, upd, hq]
theorem V_get (hC : Cx X g cc nL own ret d) {t ci N : Nat} {C : String} {T : u_T} (hk : ok w t ci) (h0 : 0 < sz ci) (hc : vwCl[ci]? = some (C, T, N)) (hin : ∀ x ∈ u_ws C T N, x ∈ Tk) {fs : List Value} {v : Value} (he : ent g (M t) t = .inr (ci, fs)) (j : Nat) (hj : j < N) (hv : fs[j]? = some v) {index : Nat} (hw : Cond.fieldLink own index (T j).1 (T j).2.1 (T j).2.2.1 ∈ Tk) (hd : decode cc pc = .ok (.getfield index, 3)) (kk : V X g w nL k ns Q (pc + 3) vs (v :: st) M) : V X g w nL k ns Q pc vs (ob g t :: st) M :=
  fun H locs ls hL hz hP hS => by
    obtain ⟨h1, h2, h3⟩ := en_ok (g := g) (M := M) hk h0
    exact va_get hC.1 hC.2.1 hC.2.2.2.2.2.2.1.hts hin hC.2.2.1 hC.2.2.2.2.2.2.2.1 hP t ((wl_at h1).trans (by rw [h2, he])) hc j hj (hC.2.2.2.2.2.2.1.hts _ hw) (fun _ h => h) hv hd (kk H locs ls hL hz hP hS)
theorem V_getN (hC : Cx X g cc nL own ret d) {t ci N : Nat} {C : String} {T : u_T} (hk : ok w t ci) (h0 : 0 < sz ci) (hc : vwCl[ci]? = some (C, T, N)) (hin : ∀ x ∈ u_ws C T N, x ∈ Tk) {fs : List Value} {v : Value} (he : ent g (M t) t = .inr (ci, fs)) (j : Nat) (hj : j < N) (hv : fs[j]? = some v) {index : Nat} {host : String} (hw : Cond.fieldLinkNest own index (T j).1 (T j).2.1 (T j).2.2.1 host ∈ Tk) (hd : decode cc pc = .ok (.getfield index, 3)) (kk : V X g w nL k ns Q (pc + 3) vs (v :: st) M) : V X g w nL k ns Q pc vs (ob g t :: st) M :=
  fun H locs ls hL hz hP hS => by
    obtain ⟨h1, h2, h3⟩ := en_ok (g := g) (M := M) hk h0
    exact va_getN hC.1 hC.2.1 hC.2.2.2.2.2.2.1.hts hin hC.2.2.1 hC.2.2.2.2.2.2.2.1 hP t ((wl_at h1).trans (by rw [h2, he])) hc j hj (hC.2.2.2.2.2.2.1.hts _ hw) (fun _ h => h) hv hd (kk H locs ls hL hz hP hS)
theorem V_put (hC : Cx X g cc nL own ret d) {t ci N : Nat} {C : String} {T : u_T} (hk : ok w t ci) (h0 : 0 < sz ci) (hc : vwCl[ci]? = some (C, T, N)) (hin : ∀ x ∈ u_ws C T N, x ∈ Tk) (ty0 : Nat → FieldType) (hty : ∀ k, k < N → parseFieldDescriptor (T k).2.2.1 = some (ty0 k)) (hnm : ∀ a, a < N → ∀ b, b < N → a ≠ b → (T a).2.1 ≠ (T b).2.1) {fs : List Value} {v : Value} (he : ent g (M t) t = .inr (ci, fs)) (j : Nat) (hj : j < N) (hfin : (T j).2.2.2 = false) {ty : FieldType} (hpd : parseFieldDescriptor (T j).2.2.1 = some ty) (hn : narrow ty v = v) (hfit : fits ty v = true) (hl : j < fs.length) {M' : Mm} (he' : ent g (M' t) t = .inr (ci, fs.set j v)) (ho : ∀ c', c' ≠ t → M' c' = M c') {index : Nat} (hw : Cond.fieldLink own index (T j).1 (T j).2.1 (T j).2.2.1 ∈ Tk) (hd : decode cc pc = .ok (.putfield index, 3)) (kk : V X g w nL k ns Q (pc + 3) vs st M') : V X g w nL k ns Q pc vs (v :: ob g t :: st) M :=
  fun H locs ls hL hz hP hS => by
    obtain ⟨h1, h2, h3⟩ := en_ok (g := g) (M := M) hk h0
    obtain ⟨-, h5, -⟩ := en_ok (g := g) (M := M') hk h0
    have hts : ∀ c ∈ Tk, c.before X.2.2.2.2.2.2.1 X.2.2.2.2.1 = true := hC.2.2.2.2.2.2.1.hts
    have hK := hC.2.2.2.2.2.2.2.1
    have hlink := hts _ hw
    have hee : (wl g w M)[t]? = some (g.1 + t, .inr (ci, fs)) := (wl_at h1).trans (by rw [h2, he])
    have hset : (wl g w M).set t (g.1 + t, .inr (ci, fs.set j v)) = wl g w M' := wl_set h1 (by rw [h5, he']) ho
    have hap := va_apart (own := own) hts hin ty0 hty hnm hK hc
    obtain ⟨r, h7, cell, q1, q2, q3, q4⟩ := hP t _ hee
    have hr : r = (C, T, N) := Option.some.inj (h7.symm.trans hc)
    subst hr
    obtain ⟨hSl, hfc, kC, hkC, hkind⟩ := hK.1 ci _ hc
    obtain ⟨cf, kf, fi, f, hi, hsl⟩ := hSl j hj
    have hlay := hts _ (hin _ (u_in_lay hj))
    unfold u_lay at hlay
    rw [if_neg (by rw [hfin]; decide)] at hlay
    have hst := (u_facts hfc hkC (u_lays hts hin hj) hi).1
    have h6 := u_store hfc hkC hkind hlay hi hpd hn hfit
    refine W.putK hC.1 hC.2.1 (f := f) ⟨hC.2.2.1, hlink, ⟨_, _, _, hi⟩, hst⟩ (by rw [q2]; exact h6) q1 q3 (by rw [hsl]; exact k2_hasslot (q4 j hj)) rfl rfl hd fun H' e1 e2 e3 => ?_
    rw [hsl] at e1 ⊢
    refine kk H' _ ls hL (e2.trans hz) ?_ (hS.put e2 e3 (Nat.le_add_right _ _))
    rw [← hset]
    exact hP.set wl_D hee ⟨_, hc, t_OB.to (V := updV (vp_V fs) j v) ⟨_, e1, q2, q3, t_set q4 hap hj v⟩ (fun j' _ => vp_updV_set hl v j')⟩ e3
theorem V_putN (hC : Cx X g cc nL own ret d) {t ci N : Nat} {C : String} {T : u_T} (hk : ok w t ci) (h0 : 0 < sz ci) (hc : vwCl[ci]? = some (C, T, N)) (hin : ∀ x ∈ u_ws C T N, x ∈ Tk) (ty0 : Nat → FieldType) (hty : ∀ k, k < N → parseFieldDescriptor (T k).2.2.1 = some (ty0 k)) (hnm : ∀ a, a < N → ∀ b, b < N → a ≠ b → (T a).2.1 ≠ (T b).2.1) {fs : List Value} {v : Value} (he : ent g (M t) t = .inr (ci, fs)) (j : Nat) (hj : j < N) (hfin : (T j).2.2.2 = false) {ty : FieldType} (hpd : parseFieldDescriptor (T j).2.2.1 = some ty) (hn : narrow ty v = v) (hfit : fits ty v = true) (hl : j < fs.length) {M' : Mm} (he' : ent g (M' t) t = .inr (ci, fs.set j v)) (ho : ∀ c', c' ≠ t → M' c' = M c') {index : Nat} {host : String} (hw : Cond.fieldLinkNest own index (T j).1 (T j).2.1 (T j).2.2.1 host ∈ Tk) (hd : decode cc pc = .ok (.putfield index, 3)) (kk : V X g w nL k ns Q (pc + 3) vs st M') : V X g w nL k ns Q pc vs (v :: ob g t :: st) M :=
  fun H locs ls hL hz hP hS => by
    obtain ⟨h1, h2, h3⟩ := en_ok (g := g) (M := M) hk h0
    obtain ⟨-, h5, -⟩ := en_ok (g := g) (M := M') hk h0
    have hts : ∀ c ∈ Tk, c.before X.2.2.2.2.2.2.1 X.2.2.2.2.1 = true := hC.2.2.2.2.2.2.1.hts
    have hK := hC.2.2.2.2.2.2.2.1
    have hlink := hts _ hw
    have hee : (wl g w M)[t]? = some (g.1 + t, .inr (ci, fs)) := (wl_at h1).trans (by rw [h2, he])
    have hset : (wl g w M).set t (g.1 + t, .inr (ci, fs.set j v)) = wl g w M' := wl_set h1 (by rw [h5, he']) ho
    have hap := va_apart (own := own) hts hin ty0 hty hnm hK hc
    obtain ⟨r, h7, cell, q1, q2, q3, q4⟩ := hP t _ hee
    have hr : r = (C, T, N) := Option.some.inj (h7.symm.trans hc)
    subst hr
    obtain ⟨hSl, hfc, kC, hkC, hkind⟩ := hK.1 ci _ hc
    obtain ⟨cf, kf, fi, f, hi, hsl⟩ := hSl j hj
    have hlay := hts _ (hin _ (u_in_lay hj))
    unfold u_lay at hlay
    rw [if_neg (by rw [hfin]; decide)] at hlay
    have hst := (u_facts hfc hkC (u_lays hts hin hj) hi).1
    have h6 := u_store hfc hkC hkind hlay hi hpd hn hfit
    refine va_WputK hC.1 hC.2.1 (f := f) hC.2.2.1 hlink hi hst (by rw [q2]; exact h6) q1 q3 (by rw [hsl]; exact k2_hasslot (q4 j hj)) rfl rfl hd fun H' e1 e2 e3 => ?_
    rw [hsl] at e1 ⊢
    refine kk H' _ ls hL (e2.trans hz) ?_ (hS.put e2 e3 (Nat.le_add_right _ _))
    rw [← hset]
    exact hP.set wl_D hee ⟨_, hc, t_OB.to (V := updV (vp_V fs) j v) ⟨_, e1, q2, q3, t_set q4 hap hj v⟩ (fun j' _ => vp_updV_set hl v j')⟩ e3
theorem V_gstN (hC : Cx X g cc nL own ret d) {i : Nat} (hi : i < 2) {index : Nat} {host : String} (hw : Cond.fieldLinkNest own index "SyntaxRepair" (nmS i) "[I" host ∈ Tk) (hd : decode cc pc = .ok (.getstatic index, 3)) (kk : V X g w nL k ns Q (pc + 3) vs (.ref (g.2.2.2.2.2.2 i) :: st) M) : V X g w nL k ns Q pc vs st M :=
  fun H locs ls hL hz hP hS => va_getsN hC.1 hC.2.1 (hC.2.2.2.2.2.2.2.2.1.2.2.1 i hi).1 hS hC.2.2.1 (hC.2.2.2.2.2.2.1.hts _ hw) (fun _ h => h) hd (kk H locs ls hL hz hP hS)
theorem V_sald (hC : Cx X g cc nL own ret d) {r : Nat} (hr : r < 2) {i : Int32} (hin : vp_in i 14) (hd : decode cc pc = .ok (.iaload, 1)) (kk : V X g w nL k ns Q (pc + 1) vs (.int (mv r i.toNatClampNeg) :: st) M) : V X g w nL k ns Q pc vs (.int i :: .ref (g.2.2.2.2.2.2 r) :: st) M :=
  fun H locs ls hL hz hP hS => va_ti hC.1 hC.2.1 (hC.2.2.2.2.2.2.2.2.1.2.2.1 r hr).2 hS hin rfl hd (kk H locs ls hL hz hP hS)
theorem V_salen (hC : Cx X g cc nL own ret d) {r : Nat} (hr : r < 2) (hd : decode cc pc = .ok (.arraylength, 1)) (kk : V X g w nL k ns Q (pc + 1) vs (.int 14 :: st) M) : V X g w nL k ns Q pc vs (.ref (g.2.2.2.2.2.2 r) :: st) M :=
  fun H locs ls hL hz hP hS => va_tlen hC.1 hC.2.1 (hC.2.2.2.2.2.2.2.2.1.2.2.1 r hr).2 hS rfl hd (kk H locs ls hL hz hP hS)
theorem V_ldcS (hC : Cx X g cc nL "SyntaxRepair$GrammarText" ret d) {i : Nat} (hi : i < 7) {index : Nat} (hx : ixS i = index) (hd : decode cc pc = .ok (.ldc index, 2)) (kk : V X g w nL k ns Q (pc + 2) vs (.ref (g.2.2.2.2.1 i) :: st) M) : V X g w nL k ns Q pc vs st M :=
  fun H locs ls hL hz hP hS => va_ldcS hC.1 hC.2.1 hC.2.2.1 (hx ▸ hC.2.2.2.2.2.2.2.2.1.2.1 i hi) hd (kk H locs ls hL hz hP hS)
theorem V_min (hC : Cx X g cc nL own ret d) {x y : Int32} {index : Nat} (h1 : Cond.methodLink own index Lib.Math.min.name ∈ Tk) (h2 : Cond.static Lib.Math.min.name ∈ Tk) (h3 : Cond.initialized "java/lang/Math" ∈ Tk) (h4 : Cond.code Lib.Math.min.name Lib.Math.min.code 2 (some .int) ∈ Tk) (hd1 : 1 ≤ d) (hst : (st.map fun v => v.category).sum ≤ 8) (hk : k ≤ X.2.2.2.1.cells ∧ ns ≤ X.2.2.2.1.slots) (hd : decode cc pc = .ok (.invokestatic index, 3)) (kk : V X g w nL k ns Q (pc + 3) vs (.int (if y < x then y else x) :: st) M) : V X g w nL k ns Q pc vs (.int y :: .int x :: st) M :=
  fun H locs ls hL hz hP hS => by
    have hts : ∀ c ∈ Tk, c.before X.2.2.2.2.2.2.1 X.2.2.2.2.1 = true := hC.2.2.2.2.2.2.1.hts
    have hR := hC.2.2.2.2.2.2.2.2.2.1
    exact va_mmin hC.1 hC.2.1 (hC.2.2.2.2.1.trans hL.size.symm) hC.2.2.1 (hts _ h1) (hts _ h2) (hts _ h3) (hts _ h4) (by omega) (by omega) hk.1 hk.2 hd (kk H locs ls hL hz hP hS)
theorem V_iret (hC : Cx X g cc nL own (some .int) d) {post : Int32 → Mm → Prop} {r : Int32} (h : post r M) (hd : decode cc pc = .ok (.ireturn, 1)) : V X g w nL k ns (QI X g w post k ns) pc vs [.int r] M :=
  fun H locs ls hL hz hP hS => W.iret hC.1 hC.2.1 hC.2.2.2.1 (fun t ht hW => ⟨⟨r, M, rfl, h, wb_of hC hz hP hS ht hW⟩, hS.F ht⟩) hS.2.2 hd hC.2.2.2.2.2.1
theorem V_zret (hC : Cx X g cc nL own (some .boolean) d) {post : Int32 → Mm → Prop} {r : Int32} (hr : zb r) (h : post r M) (hd : decode cc pc = .ok (.ireturn, 1)) : V X g w nL k ns (QI X g w (fun r M => zb r ∧ post r M) k ns) pc vs [.int r] M :=
  fun H locs ls hL hz hP hS => W.zret hC.1 hC.2.1 hC.2.2.2.1 (by rcases hr with rfl | rfl <;> rfl) (fun t ht hW => ⟨⟨r, M, rfl, ⟨hr, h⟩, wb_of hC hz hP hS ht hW⟩, hS.F ht⟩) hS.2.2 hd hC.2.2.2.2.2.1
theorem V_vret (hC : Cx X g cc nL own none d) {post : Mm → Prop} (h : post M) (hd : decode cc pc = .ok (.return_, 1)) : V X g w nL k ns (QV X g w post k ns) pc vs [] M :=
  fun H locs ls hL hz hP hS => W.vret hC.1 hC.2.1 hC.2.2.2.1 (fun t ht hW => ⟨⟨M, rfl, h, wb_of hC hz hP hS ht hW⟩, hS.F ht⟩) hS.2.2 hd hC.2.2.2.2.2.1
theorem V_oret {Cn : String} (hC : Cx X g cc nL own (some (.object Cn)) d) {post : Option Nat → Mm → Prop} (r : Option Nat) {v : Value} (hv : v = va_rf (r.map fun c => g.1 + c)) (h : post r M) (hd : decode cc pc = .ok (.areturn, 1)) : V X g w nL k ns (QO X g w post k ns) pc vs [v] M :=
  fun H locs ls hL hz hP hS => W.aret hC.1 hC.2.1 hC.2.2.2.1 (Or.inl ⟨_, rfl⟩) (by subst hv; cases r; exact Or.inl rfl; exact Or.inr ⟨_, rfl⟩) (fun t ht hW => ⟨⟨r.map fun c => g.1 + c, M, by rw [hv], ⟨r, rfl, h⟩, wb_of hC hz hP hS ht hW⟩, hS.F ht⟩) hS.2.2 hd hC.2.2.2.2.2.1
end RULES
