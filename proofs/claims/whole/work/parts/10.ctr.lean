section zR6
variable {ρ : Type} {g : zG} {l : Launch} {cc : ByteArray} {nL : Nat} {own nm : String} {ret : Option FieldType} {F L : Nat} {rv : ρ → Option Value} {pc q t : Nat} {lv lv' : List (Nat × Value)} {st : List Value}
/-- a method's contract out of its body -/
theorem zCt_of {y : MethodName} {av : List Value} {d : zAH → Option (ρ × zAH)} (hy : plainName y.cls = true) (hlen : (lg_sl av).length ≤ nL) (hargs : lv_args 0 av = lv) (hk : zSm g l cc nL y.cls y.name ret F L rv 0 lv [] d) : zCt g l y cc nL ret F L rv av d := by
  intro h r h' hdn
  obtain ⟨hm, hw⟩ := hk h r h' hdn
  refine ⟨hm, Met.ofW (cc := cc) (maxL := nL) (ret := ret) hy rfl ?_⟩
  intro p e s m args below meth c s₁ B hml hv
  obtain ⟨rfl, hW, hK⟩ := hv
  have hts := atoms_spec (ws := .code y cc nL ret :: zWT) B.pre
  have hown : s.vm.findClass y.cls = some m.cls := findClass_of_methodNamed B.named
  have hnm : meth.name = y.name := (name_of_methodNamed B.named B.method).1
  have hsl : ∀ vs : List Value, (lg_sl (vs.map (zcv g))).length = (lg_sl vs).length := by
    intro vs
    induction vs with
    | nil => rfl
    | cons v vs ih => cases v <;> simp [lg_sl, zcv, Value.category] at ih ⊢ <;> omega
  have hl := lv_entry (av.map (zcv g)) (n := nL) (by rw [hsl]; exact hlen)
  have hla : ∀ (vs : List Value) (n : Nat), lv_args n (vs.map (zcv g)) = zlm g (lv_args n vs) := by
    intro vs
    induction vs with
    | nil => intro n; rfl
    | cons v vs ih => intro n; cases v <;> simp [lv_args, zlm, zcv, Value.category] at ih ⊢ <;> exact ih _
  rw [hla, hargs] at hl
  rw [lg_entry_eq]
  have hbase : zB g ≤ s.heap.size := by rw [hW.1]; omega
  have kk := hw p e s m (av.map (zcv g)).toArray below meth c s.heap [] _ h.2.1 h.2.2 { frames := F, cells := h'.2.1 - h.2.1, slots := h'.2.2 - h.2.2, locals := L } ⟨⟨B.exec, B.bytes, hml, hown, fun w hw => hts w (List.mem_cons_of_mem _ hw), B.returns, B.notSynchronized, hnm⟩, hK, va_S.rf, hW, hbase, hl, ⟨Nat.le_refl _, Nat.le_refl _⟩, Nat.le_refl _, Nat.le_refl _, Nat.le_refl _, Nat.le_refl _⟩
  rw [Nat.sub_self, Nat.sub_self] at kk
  exact kk
def zlp {σ ρ : Type} (f : (σ → zAH → Option (ρ × zAH)) → σ → zAH → Option (ρ × zAH)) : Nat → σ → zAH → Option (ρ × zAH)
  | 0 => fun _ _ => none
  | n + 1 => f (zlp f n)
theorem zlp_s {σ ρ : Type} (f : (σ → zAH → Option (ρ × zAH)) → σ → zAH → Option (ρ × zAH)) (n : Nat) : zlp f (n + 1) = f (zlp f n) := rfl
theorem z_none {k : zAH → Option (ρ × zAH)} (h : ∀ x, k x = none) : zSm g l cc nL own nm ret F L rv pc lv st k := by
  intro h0 r h' hdn
  rw [h h0] at hdn
  cases hdn
/-- a loop -/
theorem z_loop {σ : Type} {f : (σ → zAH → Option (ρ × zAH)) → σ → zAH → Option (ρ × zAH)} {lvf : σ → List (Nat × Value)} (hf : ∀ rec : σ → zAH → Option (ρ × zAH), (∀ x, zSm g l cc nL own nm ret F L rv pc (lvf x) [] (rec x)) → ∀ x, zSm g l cc nL own nm ret F L rv pc (lvf x) [] (f rec x)) (n : Nat) : ∀ x, zSm g l cc nL own nm ret F L rv pc (lvf x) [] (zlp f n x) := by
  induction n with
  | zero => exact fun x => z_none (fun _ => rfl)
  | succ n ih => exact hf _ ih
theorem z_table {dflt lo hi : Int} {offs : Array Int} {len : Nat} {x : Int32} {ks : Int32 → zAH → Option (ρ × zAH)} (hd : decode cc pc = .ok (.tableswitch dflt lo hi offs, len)) (hin : ∀ (off : Int), ¬ x.toInt < lo → ¬ hi < x.toInt → offs[(x.toInt - lo).toNat]? = some off → ∃ t : Nat, (pc : Int) + off = (t : Int) ∧ zSm g l cc nL own nm ret F L rv t lv st (ks x)) (hsz : ¬ x.toInt < lo → ¬ hi < x.toInt → ∃ off, offs[(x.toInt - lo).toNat]? = some off) (hout : (x.toInt < lo ∨ hi < x.toInt) → ∃ t : Nat, (pc : Int) + dflt = (t : Int) ∧ zSm g l cc nL own nm ret F L rv t lv st (ks x)) : zSm g l cc nL own nm ret F L rv pc lv (.int x :: st) (ks x) := by
  by_cases h1 : x.toInt < lo ∨ hi < x.toInt
  · obtain ⟨t, e, hk⟩ := hout h1
    exact zlift hk (fun hx hb _ _ _ kk => lv_tableOut hx hb hd h1 e kk)
  · have a1 : ¬ x.toInt < lo := fun z => h1 (Or.inl z)
    have a2 : ¬ hi < x.toInt := fun z => h1 (Or.inr z)
    obtain ⟨off, ho⟩ := hsz a1 a2
    obtain ⟨t, e, hk⟩ := hin off a1 a2 ho
    exact zlift hk (fun hx hb _ _ _ kk => lv_tableIn hx hb hd a1 a2 ho e kk)
theorem z_look {dflt : Int} {ps : Array (Int × Int)} {len : Nat} {x : Int32} {k : zAH → Option (ρ × zAH)} (hd : decode cc pc = .ok (.lookupswitch dflt ps, len)) (hp : (ps.toList.zip (ps.toList.drop 1)).all (fun (a, next) => a.1 < next.1) = true) {off : Int} (ho : Op.lookupswitch.offset ps.toList dflt x.toInt = off) (ht0 : (pc : Int) + off = (t : Int)) (hk : zSm g l cc nL own nm ret F L rv t lv st k) : zSm g l cc nL own nm ret F L rv pc lv (.int x :: st) k := zlift hk (fun hx hb _ _ _ kk => lv_lookup hx hb hd hp ho ht0 kk)
theorem z_cp {a b idx : Nat} {sp dp n : Int32} {k : zAH → Option (ρ × zAH)} (w1 : Cond.methodLink own idx arraycopyName ∈ zWT) (w2 : Cond.native arraycopyName ∈ zWT) (w3 : Cond.static arraycopyName ∈ zWT) (w4 : Cond.initialized "java/lang/System" ∈ zWT) (hF1 : 1 ≤ F) (hL1 : (nativeFrameWords "java/lang/System" "arraycopy" 5 + 11) ≤ L) (hd : decode cc pc = .ok (.invokestatic idx, 3)) (he : pc + 3 = q) (hk : zSm g l cc nL own nm ret F L rv q lv [] k) : zSm g l cc nL own nm ret F L rv pc lv [.int n, .int dp, .ref b, .int sp, .ref a] (fun h => (zcp a sp b dp n h).bind fun h1 => k h1) := by
  subst he
  intro h r h' hdn
  obtain ⟨h1, hg, hdn⟩ := Option.bind_eq_some_iff.mp hdn
  unfold zcp at hg
  by_cases hc0 : a < 2 ∨ b < 2 ∨ sp < 0 ∨ dp < 0 ∨ n < 0
  · rw [if_pos hc0] at hg; cases hg
  rw [if_neg hc0] at hg
  split at hg
  · next ka n0a fa kb n1b fb hca hcb =>
    split at hg
    · next hcond =>
      obtain ⟨rfl, rfl, hb1, hb2⟩ := hcond
      cases hg
      obtain ⟨hm, hw⟩ := hk _ r h' hdn
      refine ⟨hm, fun p e s m args below meth c H locs ls n0 s0 R E => ?_⟩
      obtain ⟨hC, hK, hS, hW, hbs, hl, hE0, hF, hL, hE⟩ := E
      obtain ⟨i, rfl⟩ : ∃ i, a = i + 2 := ⟨a - 2, by omega⟩
      obtain ⟨j, rfl⟩ : ∃ j, b = j + 2 := ⟨b - 2, by omega⟩
      obtain ⟨-, p2⟩ := hW.2.2.2 i _ hca
      obtain ⟨-, q2⟩ := hW.2.2.2 j _ hcb
      have go : ∀ (H1 : Heap) (L1 : List Loc), H1[zB g + j]? = some (vp_cell (zcA g 0) (n1b, .inl (va_cpy fa fb sp.toNatClampNeg dp.toNatClampNeg n.toNatClampNeg))) → H1.size = H.size → (∀ q : Nat, q ≠ zB g + j → H1[q]? = H[q]?) → (∀ z ∈ L1, zfr g z.base) → W p l e R s m args below meth c H1 (locs ++ L1) (h.2.1 - n0) (h.2.2 - s0) (MQ below (zQ g rv r h') args s (h'.2.1 - n0) (h'.2.2 - s0) (zfr g)) (F0 m (pc + 3) ls []) := by
        intro H1 L1 e1 z1 o1 hL1
        have hS1 : va_S (zfr g) s.heap H1 (locs ++ L1) := by
          refine ⟨by rw [z1]; exact hS.1, fun z u1 u2 => ?_, t_lL hS.2.2 hL1⟩
          rw [o1 z (fun w => u2 (by rw [w]; exact Nat.le_add_right _ _))]
          exact hS.2.1 z u1 u2
        exact hw p e s m args below meth c H1 _ ls n0 s0 R ⟨hC, hK, hS1, zWd.up hW hcb z1 e1 o1, hbs, hl, hE0, hF, hL, hE⟩
      obtain ⟨hx, hb, hml, hown, ht, -⟩ := hC
      have nn : ∀ z : Int32, ¬ z < 0 → z.toInt = (z.toNatClampNeg : Int) := by
        intro z hz
        have hz0 : (0 : Int) ≤ z.toInt := by
          have := Int32.not_lt.mp hz
          simpa using Int32.le_iff_toInt_le.mp this
        show z.toInt = ((z.toInt.toNat : Nat) : Int)
        omega
      have u1 : ¬ sp < 0 := fun z => hc0 (by simp [z])
      have u2 : ¬ dp < 0 := fun z => hc0 (by simp [z])
      have u3 : ¬ n < 0 := fun z => hc0 (by simp [z])
      have hA : H[zB g + i]? = some (arrV (zcA g 0) n0a (fun j => .int (fa j))) := p2
      have hB : H[zB g + j]? = some (arrV (zcA g 0) n1b (fun j => .int (fb j))) := q2
      obtain ⟨-, k0, hk0, cm0, hkk0⟩ := (hK.1.2 0 _ rfl).1 n0a (fun j => .int (fa j))
      obtain ⟨-, k1, hk1, cm1, hkk1⟩ := (hK.1.2 0 _ rfl).1 n1b (fun j => .int (fb j))
      intro T hT X
      obtain ⟨vm', X', step⟩ := X.arraycopy hx hown (ht _ w1) (ht _ w2) (ht _ w3) (ht _ w4) (src := zB g + i) (dst := zB g + j) (srcPos := sp) (destPos := dp) (n := n) (by rw [hT]; exact hA) (by rw [hT]; exact hB)
        (fun _ h => by cases h) (fun _ h => by cases h) (fun h => by cases h) (fun h => by cases h) hk0 hk1 hkk0 hkk1 (by simp [refKind]) u1 u2 u3
        (by rw [nn sp u1, nn n u3, arrV_size]; omega) (by rw [nn dp u2, nn n u3, arrV_size]; omega)
        (fun vm₁ _ z hz => by
          have e0 : (arrV (zcA g 0) n0a (fun j => .int (fa j))).slots.getD (sp.toNatClampNeg + z) .null = .int (fa (sp.toNatClampNeg + z)) := by
            rw [Array.getD_eq_getD_getElem?, arrV_read _ _ (by omega)]
            rfl
          rw [e0]
          exact ⟨rfl, trivial⟩)
        (g := F0 m pc ls [.int n, .int dp, .ref (zB g + j), .int sp, .ref (zB g + i)]) rfl (by rw [hml]; exact hl.1) (rest := []) rfl (by rw [hb]; exact hd) (Nat.le_trans hF1 hF) (by show 2 * 0 + 0 + _ ≤ R.locals; omega)
      have e1 : copied (arrV (zcA g 0) n0a (fun j => .int (fa j))) (arrV (zcA g 0) n1b (fun j => .int (fb j))) sp dp n = arrV (zcA g 0) n1b (fun j => .int (va_cpy fa fb sp.toNatClampNeg dp.toNatClampNeg n.toNatClampNeg j)) := va_copied (fun z => .int z) (zcA g 0) (zcA g 0) fa fb hb1
      rw [e1] at X' step
      have hlt : zB g + j < H.size := (Array.getElem?_eq_some_iff.mp hB).1
      obtain ⟨t2, a1, b1⟩ := go (H.setIfInBounds (zB g + j) (arrV (zcA g 0) n1b (fun j => .int (va_cpy fa fb sp.toNatClampNeg dp.toNatClampNeg n.toNatClampNeg j)))) _ (by rw [vp_cell_i]; simp [Array.getElem?_setIfInBounds, hlt]) (by simp) (fun q hq => by simp [Array.getElem?_setIfInBounds, Ne.symm hq]) (fun z hz => by
        obtain ⟨w, -, hw2⟩ := List.mem_map.mp hz
        rw [← hw2]
        exact Nat.le_add_right _ _) _ (by rw [← hT]; rfl) X'
      exact ⟨t2, step t2 a1, b1⟩
    · cases hg
  · cases hg
end zR6
