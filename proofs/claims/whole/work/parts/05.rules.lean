theorem z_irem_e (x y : Int32) : x % y = x - x / y * y := by first | exact (irem_eq_mod x y).symm | exact irem_eq_mod x y
theorem z_lrem_e (x y : Int64) : x % y = x - x / y * y := by
  symm
  apply Int64.toInt_inj.mp
  have h1 := Int64.le_toInt (x % y)
  have h2 := Int64.toInt_lt (x % y)
  rw [Int64.toInt_sub, Int64.toInt_mul, Int64.toInt_div, Int.bmod_mul_bmod, Int.sub_bmod_bmod, Int.mul_comm (x.toInt.tdiv y.toInt), ← Int.tmod_def, ← Int64.toInt_mod]
  exact Int.bmod_eq_of_le_mul_two (by omega) (by omega)
theorem z_idiv_e (x y : Int32) : x / y = x / y := rfl
theorem z_ldiv_e (x y : Int64) : x / y = x / y := rfl
section zR1
variable {ρ : Type} {g : zG} {l : Launch} {cc : ByteArray} {nL : Nat} {own nm : String} {ret : Option FieldType} {F L : Nat} {rv : ρ → Option Value} {pc q t : Nat} {lv lv' : List (Nat × Value)} {st : List Value} {k k1 k2 : zAH → Option (ρ × zAH)}
theorem z_iconst {n : Int} {v : Int32} (hd : decode cc pc = .ok (.iconst n, 1)) (he : pc + 1 = q) (hv : Int32.ofInt n = v) (hk : zSm g l cc nL own nm ret F L rv q lv (.int v :: st) k) : zSm g l cc nL own nm ret F L rv pc lv (st) k := by
  subst he
  exact zlift hk (fun hx hb ho ht hl kk => lv_iconst hx hb hd hv kk)
theorem z_bipush {n : Int} {v : Int32} (hd : decode cc pc = .ok (.bipush n, 2)) (he : pc + 2 = q) (hv : (Int8.ofInt n).toInt32 = v) (hk : zSm g l cc nL own nm ret F L rv q lv (.int v :: st) k) : zSm g l cc nL own nm ret F L rv pc lv (st) k := by
  subst he
  exact zlift hk (fun hx hb ho ht hl kk => lv_bipush hx hb hd hv kk)
theorem z_sipush {n : Int} {v : Int32} (hd : decode cc pc = .ok (.sipush n, 3)) (he : pc + 3 = q) (hv : (Int16.ofInt n).toInt32 = v) (hk : zSm g l cc nL own nm ret F L rv q lv (.int v :: st) k) : zSm g l cc nL own nm ret F L rv pc lv (st) k := by
  subst he
  exact zlift hk (fun hx hb ho ht hl kk => lv_sipush hx hb hd hv kk)
theorem z_lconst {n : Fin 2} {v : Int64} (hd : decode cc pc = .ok (.lconst n, 1)) (he : pc + 1 = q) (hv : Int64.ofNat (n : Nat) = v) (hk : zSm g l cc nL own nm ret F L rv q lv (.long v :: st) k) : zSm g l cc nL own nm ret F L rv pc lv (st) k := by
  subst he
  exact zlift hk (fun hx hb ho ht hl kk => lv_lconst hx hb hd hv kk)
theorem z_ldc {i : Nat} {v : Int32} (hd : decode cc pc = .ok (.ldc i, 2)) (he : pc + 2 = q) (hw : Jvm.Cond.constant own i v ∈ zWT) (hk : zSm g l cc nL own nm ret F L rv q lv (.int v :: st) k) : zSm g l cc nL own nm ret F L rv pc lv (st) k := by
  subst he
  exact zlift hk (fun hx hb ho ht hl kk => lv_ldc hx hb ho (ht _ hw) hd kk)
theorem z_ldcw {i : Nat} {v : Int32} (hd : decode cc pc = .ok (.ldc_w i, 3)) (he : pc + 3 = q) (hw : Jvm.Cond.constant own i v ∈ zWT) (hk : zSm g l cc nL own nm ret F L rv q lv (.int v :: st) k) : zSm g l cc nL own nm ret F L rv pc lv (st) k := by
  subst he
  exact zlift hk (fun hx hb ho ht hl kk => lv_ldcw hx hb ho (ht _ hw) hd kk)
theorem z_ldc2 {i : Nat} {v : Int64} (hd : decode cc pc = .ok (.ldc2_w i, 3)) (he : pc + 3 = q) (hw : Jvm.Cond.constantLong own i v ∈ zWT) (hk : zSm g l cc nL own nm ret F L rv q lv (.long v :: st) k) : zSm g l cc nL own nm ret F L rv pc lv (st) k := by
  subst he
  exact zlift hk (fun hx hb ho ht hl kk => lv_ldc2 hx hb ho (ht _ hw) hd kk)
theorem z_iload_n {j : Fin 4} {x : Int32} (hd : decode cc pc = .ok (.iload_n j, 1)) (he : pc + 1 = q) (b : Nat) (hl0 : lv[b]? = some ((j : Nat), .int x)) (hk : zSm g l cc nL own nm ret F L rv q lv (.int x :: st) k) : zSm g l cc nL own nm ret F L rv pc lv (st) k := by
  subst he
  exact zlift hk (fun hx hb ho ht hl kk => lv_iload_n hx hb hd rfl (zlat hl b hl0) kk)
theorem z_iload {j : Nat} {x : Int32} (hd : decode cc pc = .ok (.iload j, 2)) (he : pc + 2 = q) (b : Nat) (hl0 : lv[b]? = some (j, .int x)) (hk : zSm g l cc nL own nm ret F L rv q lv (.int x :: st) k) : zSm g l cc nL own nm ret F L rv pc lv (st) k := by
  subst he
  exact zlift hk (fun hx hb ho ht hl kk => lv_iload hx hb hd (zlat hl b hl0) kk)
theorem z_istore_n {j : Fin 4} {x : Int32} (hd : decode cc pc = .ok (.istore_n j, 1)) (he : pc + 1 = q) (hn : (j : Nat) < nL) (hl0 : zst1 (j : Nat) (.int x) lv = lv') (hk : zSm g l cc nL own nm ret F L rv q lv' st k) : zSm g l cc nL own nm ret F L rv pc lv (.int x :: st) k := by
  subst he; subst hl0
  exact zliftS hk (fun hx hb hl kk => lv_istore_n hx hb hd rfl hl hn (zst1_map _ (.int x)) kk)
theorem z_istore {j : Nat} {x : Int32} (hd : decode cc pc = .ok (.istore j, 2)) (he : pc + 2 = q) (hn : (j : Nat) < nL) (hl0 : zst1 j (.int x) lv = lv') (hk : zSm g l cc nL own nm ret F L rv q lv' st k) : zSm g l cc nL own nm ret F L rv pc lv (.int x :: st) k := by
  subst he; subst hl0
  exact zliftS hk (fun hx hb hl kk => lv_istore hx hb hd hl hn (zst1_map _ (.int x)) kk)
theorem z_lload_n {j : Fin 4} {x : Int64} (hd : decode cc pc = .ok (.lload_n j, 1)) (he : pc + 1 = q) (b : Nat) (hl0 : lv[b]? = some ((j : Nat), .long x)) (hk : zSm g l cc nL own nm ret F L rv q lv (.long x :: st) k) : zSm g l cc nL own nm ret F L rv pc lv (st) k := by
  subst he
  exact zlift hk (fun hx hb ho ht hl kk => lv_lload_n hx hb hd rfl (zlat hl b hl0) kk)
theorem z_lload {j : Nat} {x : Int64} (hd : decode cc pc = .ok (.lload j, 2)) (he : pc + 2 = q) (b : Nat) (hl0 : lv[b]? = some (j, .long x)) (hk : zSm g l cc nL own nm ret F L rv q lv (.long x :: st) k) : zSm g l cc nL own nm ret F L rv pc lv (st) k := by
  subst he
  exact zlift hk (fun hx hb ho ht hl kk => lv_lload hx hb hd (zlat hl b hl0) kk)
theorem z_lstore_n {j : Fin 4} {x : Int64} (hd : decode cc pc = .ok (.lstore_n j, 1)) (he : pc + 1 = q) (hn : (j : Nat) + 1 < nL) (hl0 : zst2 (j : Nat) (.long x) lv = lv') (hk : zSm g l cc nL own nm ret F L rv q lv' st k) : zSm g l cc nL own nm ret F L rv pc lv (.long x :: st) k := by
  subst he; subst hl0
  exact zliftS hk (fun hx hb hl kk => lv_lstore_n hx hb hd rfl hl hn (zst2_map _ (.long x)) kk)
theorem z_lstore {j : Nat} {x : Int64} (hd : decode cc pc = .ok (.lstore j, 2)) (he : pc + 2 = q) (hn : (j : Nat) + 1 < nL) (hl0 : zst2 j (.long x) lv = lv') (hk : zSm g l cc nL own nm ret F L rv q lv' st k) : zSm g l cc nL own nm ret F L rv pc lv (.long x :: st) k := by
  subst he; subst hl0
  exact zliftS hk (fun hx hb hl kk => lv_lstore hx hb hd hl hn (zst2_map _ (.long x)) kk)
theorem z_aload_n {j : Fin 4} {x : Nat} (hd : decode cc pc = .ok (.aload_n j, 1)) (he : pc + 1 = q) (b : Nat) (hl0 : lv[b]? = some ((j : Nat), .ref x)) (hk : zSm g l cc nL own nm ret F L rv q lv (.ref x :: st) k) : zSm g l cc nL own nm ret F L rv pc lv (st) k := by
  subst he
  exact zlift hk (fun hx hb ho ht hl kk => lv_aload_n hx hb hd rfl (zlat hl b hl0) kk)
theorem z_aload {j : Nat} {x : Nat} (hd : decode cc pc = .ok (.aload j, 2)) (he : pc + 2 = q) (b : Nat) (hl0 : lv[b]? = some (j, .ref x)) (hk : zSm g l cc nL own nm ret F L rv q lv (.ref x :: st) k) : zSm g l cc nL own nm ret F L rv pc lv (st) k := by
  subst he
  exact zlift hk (fun hx hb ho ht hl kk => lv_aload hx hb hd (zlat hl b hl0) kk)
theorem z_astore_n {j : Fin 4} {x : Nat} (hd : decode cc pc = .ok (.astore_n j, 1)) (he : pc + 1 = q) (hn : (j : Nat) < nL) (hl0 : zst1 (j : Nat) (.ref x) lv = lv') (hk : zSm g l cc nL own nm ret F L rv q lv' st k) : zSm g l cc nL own nm ret F L rv pc lv (.ref x :: st) k := by
  subst he; subst hl0
  exact zliftS hk (fun hx hb hl kk => lv_astore_n hx hb hd rfl hl hn (zst1_map _ (.ref x)) kk)
theorem z_astore {j : Nat} {x : Nat} (hd : decode cc pc = .ok (.astore j, 2)) (he : pc + 2 = q) (hn : (j : Nat) < nL) (hl0 : zst1 j (.ref x) lv = lv') (hk : zSm g l cc nL own nm ret F L rv q lv' st k) : zSm g l cc nL own nm ret F L rv pc lv (.ref x :: st) k := by
  subst he; subst hl0
  exact zliftS hk (fun hx hb hl kk => lv_astore hx hb hd hl hn (zst1_map _ (.ref x)) kk)
theorem z_iinc {j : Nat} {n : Int} {x v : Int32} (hd : decode cc pc = .ok (.iinc j n, 3)) (he : pc + 3 = q) (b : Nat) (hb0 : lv[b]? = some (j, .int x)) (hv : Int32.ofInt n = v) (hn : j < nL) (hl0 : zst1 j (.int (x + v)) lv = lv') (hk : zSm g l cc nL own nm ret F L rv q lv' st k) : zSm g l cc nL own nm ret F L rv pc lv st k := by
  subst he; subst hl0; subst hv
  exact zliftS hk (fun hx hb hl kk => lv_iinc hx hb hd hl (k := b) (by rw [zlm, List.getElem?_map, hb0]; rfl) rfl hn (zst1_map _ (.int (x + Int32.ofInt n))) kk)
theorem z_iadd {x y : Int32} (hd : decode cc pc = .ok (.iadd, 1)) (he : pc + 1 = q) (hk : zSm g l cc nL own nm ret F L rv q lv (.int (x + y) :: st) k) : zSm g l cc nL own nm ret F L rv pc lv (.int y :: .int x :: st) k := by
  subst he
  exact zlift hk (fun hx hb ho ht hl kk => lv_iadd hx hb hd kk)
theorem z_isub {x y : Int32} (hd : decode cc pc = .ok (.isub, 1)) (he : pc + 1 = q) (hk : zSm g l cc nL own nm ret F L rv q lv (.int (x - y) :: st) k) : zSm g l cc nL own nm ret F L rv pc lv (.int y :: .int x :: st) k := by
  subst he
  exact zlift hk (fun hx hb ho ht hl kk => lv_isub hx hb hd kk)
theorem z_imul {x y : Int32} (hd : decode cc pc = .ok (.imul, 1)) (he : pc + 1 = q) (hk : zSm g l cc nL own nm ret F L rv q lv (.int (x * y) :: st) k) : zSm g l cc nL own nm ret F L rv pc lv (.int y :: .int x :: st) k := by
  subst he
  exact zlift hk (fun hx hb ho ht hl kk => lv_imul hx hb hd kk)
theorem z_iand {x y : Int32} (hd : decode cc pc = .ok (.iand, 1)) (he : pc + 1 = q) (hk : zSm g l cc nL own nm ret F L rv q lv (.int (x &&& y) :: st) k) : zSm g l cc nL own nm ret F L rv pc lv (.int y :: .int x :: st) k := by
  subst he
  exact zlift hk (fun hx hb ho ht hl kk => lv_iand hx hb hd kk)
theorem z_ior {x y : Int32} (hd : decode cc pc = .ok (.ior, 1)) (he : pc + 1 = q) (hk : zSm g l cc nL own nm ret F L rv q lv (.int (x ||| y) :: st) k) : zSm g l cc nL own nm ret F L rv pc lv (.int y :: .int x :: st) k := by
  subst he
  exact zlift hk (fun hx hb ho ht hl kk => lv_ior hx hb hd kk)
theorem z_ixor {x y : Int32} (hd : decode cc pc = .ok (.ixor, 1)) (he : pc + 1 = q) (hk : zSm g l cc nL own nm ret F L rv q lv (.int (x ^^^ y) :: st) k) : zSm g l cc nL own nm ret F L rv pc lv (.int y :: .int x :: st) k := by
  subst he
  exact zlift hk (fun hx hb ho ht hl kk => lv_ixor hx hb hd kk)
theorem z_ishl {x y : Int32} (hd : decode cc pc = .ok (.ishl, 1)) (he : pc + 1 = q) (hk : zSm g l cc nL own nm ret F L rv q lv (.int (x <<< (y &&& 31)) :: st) k) : zSm g l cc nL own nm ret F L rv pc lv (.int y :: .int x :: st) k := by
  subst he
  exact zlift hk (fun hx hb ho ht hl kk => lv_ishl hx hb hd kk)
theorem z_ishr {x y : Int32} (hd : decode cc pc = .ok (.ishr, 1)) (he : pc + 1 = q) (hk : zSm g l cc nL own nm ret F L rv q lv (.int (x >>> (y &&& 31)) :: st) k) : zSm g l cc nL own nm ret F L rv pc lv (.int y :: .int x :: st) k := by
  subst he
  exact zlift hk (fun hx hb ho ht hl kk => lv_ishr hx hb hd kk)
theorem z_iushr {x y : Int32} (hd : decode cc pc = .ok (.iushr, 1)) (he : pc + 1 = q) (hk : zSm g l cc nL own nm ret F L rv q lv (.int ((x.toUInt32 >>> (y.toUInt32 &&& Int32.toUInt32 31)).toInt32) :: st) k) : zSm g l cc nL own nm ret F L rv pc lv (.int y :: .int x :: st) k := by
  subst he
  exact zlift hk (fun hx hb ho ht hl kk => lv_iushr hx hb hd rfl kk)
theorem z_ladd {x y : Int64} (hd : decode cc pc = .ok (.ladd, 1)) (he : pc + 1 = q) (hk : zSm g l cc nL own nm ret F L rv q lv (.long (x + y) :: st) k) : zSm g l cc nL own nm ret F L rv pc lv (.long y :: .long x :: st) k := by
  subst he
  exact zlift hk (fun hx hb ho ht hl kk => lv_ladd hx hb hd kk)
theorem z_lsub {x y : Int64} (hd : decode cc pc = .ok (.lsub, 1)) (he : pc + 1 = q) (hk : zSm g l cc nL own nm ret F L rv q lv (.long (x - y) :: st) k) : zSm g l cc nL own nm ret F L rv pc lv (.long y :: .long x :: st) k := by
  subst he
  exact zlift hk (fun hx hb ho ht hl kk => lv_lsub hx hb hd kk)
theorem z_lmul {x y : Int64} (hd : decode cc pc = .ok (.lmul, 1)) (he : pc + 1 = q) (hk : zSm g l cc nL own nm ret F L rv q lv (.long (x * y) :: st) k) : zSm g l cc nL own nm ret F L rv pc lv (.long y :: .long x :: st) k := by
  subst he
  exact zlift hk (fun hx hb ho ht hl kk => lv_lmul hx hb hd kk)
theorem z_i2l {x : Int32} (hd : decode cc pc = .ok (.i2l, 1)) (he : pc + 1 = q) (hk : zSm g l cc nL own nm ret F L rv q lv (.long x.toInt64 :: st) k) : zSm g l cc nL own nm ret F L rv pc lv (.int x :: st) k := by
  subst he
  exact zlift hk (fun hx hb ho ht hl kk => lv_i2l hx hb hd rfl kk)
theorem z_l2i {x : Int64} (hd : decode cc pc = .ok (.l2i, 1)) (he : pc + 1 = q) (hk : zSm g l cc nL own nm ret F L rv q lv (.int x.toInt32 :: st) k) : zSm g l cc nL own nm ret F L rv pc lv (.long x :: st) k := by
  subst he
  exact zlift hk (fun hx hb ho ht hl kk => lv_l2i hx hb hd rfl kk)
theorem z_i2b {x : Int32} (hd : decode cc pc = .ok (.i2b, 1)) (he : pc + 1 = q) (hk : zSm g l cc nL own nm ret F L rv q lv (.int x.toInt8.toInt32 :: st) k) : zSm g l cc nL own nm ret F L rv pc lv (.int x :: st) k := by
  subst he
  exact zlift hk (fun hx hb ho ht hl kk => lv_i2b hx hb hd rfl kk)
theorem z_lcmp {x y : Int64} (hd : decode cc pc = .ok (.lcmp, 1)) (he : pc + 1 = q) (hk : zSm g l cc nL own nm ret F L rv q lv (.int (lg_cmp x y) :: st) k) : zSm g l cc nL own nm ret F L rv pc lv (.long y :: .long x :: st) k := by
  subst he
  exact zlift hk (fun hx hb ho ht hl kk => W.lcmp hx hb hd kk)
theorem z_dup {v : Value} (hd : decode cc pc = .ok (.dup, 1)) (he : pc + 1 = q) (hc : v.category = 1) (hk : zSm g l cc nL own nm ret F L rv q lv (v :: v :: st) k) : zSm g l cc nL own nm ret F L rv pc lv (v :: st) k := by
  subst he
  exact zlift hk (fun hx hb ho ht hl kk => lv_dup hx hb hd (by rw [zcat]; exact hc) kk)
theorem z_dup2 {v w : Value} (hd : decode cc pc = .ok (.dup2, 1)) (he : pc + 1 = q) (hc : v.category = 1) (hc2 : w.category = 1) (hk : zSm g l cc nL own nm ret F L rv q lv (v :: w :: v :: w :: st) k) : zSm g l cc nL own nm ret F L rv pc lv (v :: w :: st) k := by
  subst he
  exact zlift hk (fun hx hb ho ht hl kk => lv_dup2_11 hx hb hd (by rw [zcat]; exact hc) (by rw [zcat]; exact hc2) kk)
theorem z_goto {off : Int} (hd : decode cc pc = .ok (.goto off, 3)) (ht0 : (pc : Int) + off = (t : Int)) (hk : zSm g l cc nL own nm ret F L rv t lv st k) : zSm g l cc nL own nm ret F L rv pc lv st k := zlift hk (fun hx hb _ _ _ kk => lv_goto hx hb hd ht0 kk)
theorem z_if {c : Prop} {hcd : Decidable c} {st' : List Value} (kt : zSm g l cc nL own nm ret F L rv t lv st k1) (kf : zSm g l cc nL own nm ret F L rv q lv st k2)
    (f : ∀ {p : Program} {e : Env} {R : Room} {s : State} {m : MethodId} {args : Array Value} {below : List Frame} {meth : Method} {c0 : Code} {H : Heap} {locs : List Loc} {ls : Array Slot} {cells slots : Nat} {Q : State → Prop}, p.tables.exec = Jvm.exec → c0.code = cc →
      (c → W p l e R s m args below meth c0 H locs cells slots Q (F0 m t ls (st.map (zcv g)))) → (¬ c → W p l e R s m args below meth c0 H locs cells slots Q (F0 m q ls (st.map (zcv g)))) → W p l e R s m args below meth c0 H locs cells slots Q (F0 m pc ls (st'.map (zcv g)))) : zSm g l cc nL own nm ret F L rv pc lv st' (fun h => if c then k1 h else k2 h) := by
  intro h r h' hd
  replace hd : (if c then k1 h else k2 h) = some (r, h') := hd
  by_cases hc : c
  · rw [if_pos hc] at hd
    obtain ⟨hm, hw⟩ := kt h r h' hd
    exact ⟨hm, fun p e s m args below meth c0 H locs ls n0 s0 R E => f E.1.1 E.1.2.1 (fun _ => hw p e s m args below meth c0 H locs ls n0 s0 R E) (fun z => absurd hc z)⟩
  · rw [if_neg hc] at hd
    obtain ⟨hm, hw⟩ := kf h r h' hd
    exact ⟨hm, fun p e s m args below meth c0 H locs ls n0 s0 R E => f E.1.1 E.1.2.1 (fun z => absurd z hc) (fun _ => hw p e s m args below meth c0 H locs ls n0 s0 R E)⟩
theorem z_if_eq {x : Int32} {off : Int} (hd : decode cc pc = .ok (.ifCond .eq off, 3)) (ht0 : (pc : Int) + off = (t : Int)) (he : pc + 3 = q) (kt : zSm g l cc nL own nm ret F L rv t lv st k1) (kf : zSm g l cc nL own nm ret F L rv q lv st k2) : zSm g l cc nL own nm ret F L rv pc lv (.int x :: st) (fun h => if x = 0 then k1 h else k2 h) := by
  subst he
  exact z_if kt kf (fun hx hb a b => lv_if_eq hx hb hd ht0 a b)
theorem z_icmp_eq {x y : Int32} {off : Int} (hd : decode cc pc = .ok (.if_icmp .eq off, 3)) (ht0 : (pc : Int) + off = (t : Int)) (he : pc + 3 = q) (kt : zSm g l cc nL own nm ret F L rv t lv st k1) (kf : zSm g l cc nL own nm ret F L rv q lv st k2) : zSm g l cc nL own nm ret F L rv pc lv (.int y :: .int x :: st) (fun h => if x = y then k1 h else k2 h) := by
  subst he
  exact z_if kt kf (fun hx hb a b => lv_icmp_eq hx hb hd ht0 a b)
theorem z_if_ne {x : Int32} {off : Int} (hd : decode cc pc = .ok (.ifCond .ne off, 3)) (ht0 : (pc : Int) + off = (t : Int)) (he : pc + 3 = q) (kt : zSm g l cc nL own nm ret F L rv t lv st k1) (kf : zSm g l cc nL own nm ret F L rv q lv st k2) : zSm g l cc nL own nm ret F L rv pc lv (.int x :: st) (fun h => if x = 0 then k2 h else k1 h) := by
  subst he
  exact z_if kf kt (fun hx hb a b => lv_if_ne hx hb hd ht0 b a)
theorem z_icmp_ne {x y : Int32} {off : Int} (hd : decode cc pc = .ok (.if_icmp .ne off, 3)) (ht0 : (pc : Int) + off = (t : Int)) (he : pc + 3 = q) (kt : zSm g l cc nL own nm ret F L rv t lv st k1) (kf : zSm g l cc nL own nm ret F L rv q lv st k2) : zSm g l cc nL own nm ret F L rv pc lv (.int y :: .int x :: st) (fun h => if x = y then k2 h else k1 h) := by
  subst he
  exact z_if kf kt (fun hx hb a b => lv_icmp_ne hx hb hd ht0 b a)
theorem z_if_lt {x : Int32} {off : Int} (hd : decode cc pc = .ok (.ifCond .lt off, 3)) (ht0 : (pc : Int) + off = (t : Int)) (he : pc + 3 = q) (kt : zSm g l cc nL own nm ret F L rv t lv st k1) (kf : zSm g l cc nL own nm ret F L rv q lv st k2) : zSm g l cc nL own nm ret F L rv pc lv (.int x :: st) (fun h => if x < 0 then k1 h else k2 h) := by
  subst he
  exact z_if kt kf (fun hx hb a b => lv_if_lt hx hb hd ht0 a b)
theorem z_icmp_lt {x y : Int32} {off : Int} (hd : decode cc pc = .ok (.if_icmp .lt off, 3)) (ht0 : (pc : Int) + off = (t : Int)) (he : pc + 3 = q) (kt : zSm g l cc nL own nm ret F L rv t lv st k1) (kf : zSm g l cc nL own nm ret F L rv q lv st k2) : zSm g l cc nL own nm ret F L rv pc lv (.int y :: .int x :: st) (fun h => if x < y then k1 h else k2 h) := by
  subst he
  exact z_if kt kf (fun hx hb a b => lv_icmp_lt hx hb hd ht0 a b)
theorem z_if_ge {x : Int32} {off : Int} (hd : decode cc pc = .ok (.ifCond .ge off, 3)) (ht0 : (pc : Int) + off = (t : Int)) (he : pc + 3 = q) (kt : zSm g l cc nL own nm ret F L rv t lv st k1) (kf : zSm g l cc nL own nm ret F L rv q lv st k2) : zSm g l cc nL own nm ret F L rv pc lv (.int x :: st) (fun h => if x < 0 then k2 h else k1 h) := by
  subst he
  exact z_if kf kt (fun hx hb a b => lv_if_ge hx hb hd ht0 (fun z => b (Int32.not_lt.mpr z)) (fun z => a (Int32.not_le.mp z)))
theorem z_icmp_ge {x y : Int32} {off : Int} (hd : decode cc pc = .ok (.if_icmp .ge off, 3)) (ht0 : (pc : Int) + off = (t : Int)) (he : pc + 3 = q) (kt : zSm g l cc nL own nm ret F L rv t lv st k1) (kf : zSm g l cc nL own nm ret F L rv q lv st k2) : zSm g l cc nL own nm ret F L rv pc lv (.int y :: .int x :: st) (fun h => if x < y then k2 h else k1 h) := by
  subst he
  exact z_if kf kt (fun hx hb a b => lv_icmp_ge hx hb hd ht0 (fun z => b (Int32.not_lt.mpr z)) (fun z => a (Int32.not_le.mp z)))
theorem z_if_gt {x : Int32} {off : Int} (hd : decode cc pc = .ok (.ifCond .gt off, 3)) (ht0 : (pc : Int) + off = (t : Int)) (he : pc + 3 = q) (kt : zSm g l cc nL own nm ret F L rv t lv st k1) (kf : zSm g l cc nL own nm ret F L rv q lv st k2) : zSm g l cc nL own nm ret F L rv pc lv (.int x :: st) (fun h => if 0 < x then k1 h else k2 h) := by
  subst he
  exact z_if kt kf (fun hx hb a b => lv_if_gt hx hb hd ht0 a b)
theorem z_icmp_gt {x y : Int32} {off : Int} (hd : decode cc pc = .ok (.if_icmp .gt off, 3)) (ht0 : (pc : Int) + off = (t : Int)) (he : pc + 3 = q) (kt : zSm g l cc nL own nm ret F L rv t lv st k1) (kf : zSm g l cc nL own nm ret F L rv q lv st k2) : zSm g l cc nL own nm ret F L rv pc lv (.int y :: .int x :: st) (fun h => if y < x then k1 h else k2 h) := by
  subst he
  exact z_if kt kf (fun hx hb a b => lv_icmp_gt hx hb hd ht0 a b)
theorem z_if_le {x : Int32} {off : Int} (hd : decode cc pc = .ok (.ifCond .le off, 3)) (ht0 : (pc : Int) + off = (t : Int)) (he : pc + 3 = q) (kt : zSm g l cc nL own nm ret F L rv t lv st k1) (kf : zSm g l cc nL own nm ret F L rv q lv st k2) : zSm g l cc nL own nm ret F L rv pc lv (.int x :: st) (fun h => if 0 < x then k2 h else k1 h) := by
  subst he
  exact z_if kf kt (fun hx hb a b => lv_if_le hx hb hd ht0 (fun z => b (Int32.not_lt.mpr z)) (fun z => a (Int32.not_le.mp z)))
theorem z_icmp_le {x y : Int32} {off : Int} (hd : decode cc pc = .ok (.if_icmp .le off, 3)) (ht0 : (pc : Int) + off = (t : Int)) (he : pc + 3 = q) (kt : zSm g l cc nL own nm ret F L rv t lv st k1) (kf : zSm g l cc nL own nm ret F L rv q lv st k2) : zSm g l cc nL own nm ret F L rv pc lv (.int y :: .int x :: st) (fun h => if y < x then k2 h else k1 h) := by
  subst he
  exact z_if kf kt (fun hx hb a b => lv_icmp_le hx hb hd ht0 (fun z => b (Int32.not_lt.mpr z)) (fun z => a (Int32.not_le.mp z)))
theorem z_idiv {x y : Int32} (hd : decode cc pc = .ok (.idiv, 1)) (he : pc + 1 = q) (hk : zSm g l cc nL own nm ret F L rv q lv (.int (x / y) :: st) k) : zSm g l cc nL own nm ret F L rv pc lv (.int y :: .int x :: st) (fun h => if y = 0 then none else k h) := by
  subst he
  intro h r h' hdn
  replace hdn : (if y = 0 then none else k h) = some (r, h') := hdn
  by_cases hc : y = 0
  · rw [if_pos hc] at hdn; cases hdn
  · rw [if_neg hc] at hdn
    have hk2 : zSm g l cc nL own nm ret F L rv pc lv (.int y :: .int x :: st) k := zlift hk (fun hx hb _ _ _ kk => lv_idiv hx hb hd hc (by first | exact kk | exact (z_idiv_e x y) ▸ kk))
    exact hk2 h r h' hdn
theorem z_irem {x y : Int32} (hd : decode cc pc = .ok (.irem, 1)) (he : pc + 1 = q) (hk : zSm g l cc nL own nm ret F L rv q lv (.int (x % y) :: st) k) : zSm g l cc nL own nm ret F L rv pc lv (.int y :: .int x :: st) (fun h => if y = 0 then none else k h) := by
  subst he
  intro h r h' hdn
  replace hdn : (if y = 0 then none else k h) = some (r, h') := hdn
  by_cases hc : y = 0
  · rw [if_pos hc] at hdn; cases hdn
  · rw [if_neg hc] at hdn
    have hk2 : zSm g l cc nL own nm ret F L rv pc lv (.int y :: .int x :: st) k := zlift hk (fun hx hb _ _ _ kk => lv_irem hx hb hd hc (by first | exact kk | exact (z_irem_e x y) ▸ kk))
    exact hk2 h r h' hdn
theorem z_ldiv {x y : Int64} (hd : decode cc pc = .ok (.ldiv, 1)) (he : pc + 1 = q) (hk : zSm g l cc nL own nm ret F L rv q lv (.long (x / y) :: st) k) : zSm g l cc nL own nm ret F L rv pc lv (.long y :: .long x :: st) (fun h => if y = 0 then none else k h) := by
  subst he
  intro h r h' hdn
  replace hdn : (if y = 0 then none else k h) = some (r, h') := hdn
  by_cases hc : y = 0
  · rw [if_pos hc] at hdn; cases hdn
  · rw [if_neg hc] at hdn
    have hk2 : zSm g l cc nL own nm ret F L rv pc lv (.long y :: .long x :: st) k := zlift hk (fun hx hb _ _ _ kk => lv_ldiv hx hb hd hc (by first | exact kk | exact (z_ldiv_e x y) ▸ kk))
    exact hk2 h r h' hdn
theorem z_lrem {x y : Int64} (hd : decode cc pc = .ok (.lrem, 1)) (he : pc + 1 = q) (hk : zSm g l cc nL own nm ret F L rv q lv (.long (x % y) :: st) k) : zSm g l cc nL own nm ret F L rv pc lv (.long y :: .long x :: st) (fun h => if y = 0 then none else k h) := by
  subst he
  intro h r h' hdn
  replace hdn : (if y = 0 then none else k h) = some (r, h') := hdn
  by_cases hc : y = 0
  · rw [if_pos hc] at hdn; cases hdn
  · rw [if_neg hc] at hdn
    have hk2 : zSm g l cc nL own nm ret F L rv pc lv (.long y :: .long x :: st) k := zlift hk (fun hx hb _ _ _ kk => lv_lrem hx hb hd hc (by first | exact kk | exact (z_lrem_e x y) ▸ kk))
    exact hk2 h r h' hdn
end zR1
