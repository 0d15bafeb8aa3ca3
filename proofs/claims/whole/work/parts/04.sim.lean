/-! heap operations of the abstract heap -/
def zup (h : zAH) (a : Nat) (c : zAC) : zAH := (va_up h.1 a (some c), h.2)
def zgO (ci a : Nat) (h : zAH) : Option (List Value) := match h.1 a with
  | some (.inr (.inr (c, fs))) => if c = ci then some fs else none
  | _ => none
def zvI : Option Value → Option Int32
  | some (.int x) => some x
  | _ => none
def zvL : Option Value → Option Int64
  | some (.long x) => some x
  | _ => none
def zvA : Option Value → Option Nat
  | some (.ref x) => some x
  | _ => none
def zgI (ci k a : Nat) (h : zAH) : Option Int32 := (zgO ci a h).bind fun fs => zvI fs[k]?
def zgL (ci k a : Nat) (h : zAH) : Option Int64 := (zgO ci a h).bind fun fs => zvL fs[k]?
def zgA (ci k a : Nat) (h : zAH) : Option Nat := (zgO ci a h).bind fun fs => zvA fs[k]?
def zpF (ci k a : Nat) (v : Value) (h : zAH) : Option zAH := if a < 2 then none else (zgO ci a h).bind fun fs => if k < fs.length then some (zup h a (.inr (.inr (ci, fs.set k v)))) else none
def zpZ (ci k a : Nat) (x : Int32) (h : zAH) : Option zAH := if x = 0 ∨ x = 1 then zpF ci k a (.int x) h else none
def zaI (kd a : Nat) (i : Int32) (h : zAH) : Option Int32 := match h.1 a with
  | some (.inl (k, n, f)) => if k = kd then (if i < 0 ∨ n ≤ i.toNatClampNeg then none else some (f i.toNatClampNeg)) else none
  | _ => none
def zaN (a : Nat) (h : zAH) : Option Int32 := match h.1 a with
  | some (.inl (k, n, _)) => if k < 3 then some (Int32.ofNat n) else none
  | some (.inr (.inl (k, n, _))) => if k = 3 ∨ k = 4 then some (Int32.ofNat n) else none
  | _ => none
def zaS (kd a : Nat) (i x : Int32) (h : zAH) : Option zAH := if a < 2 then none else match h.1 a with
  | some (.inl (k, n, f)) => if k = kd then (if i < 0 ∨ n ≤ i.toNatClampNeg then none else some (zup h a (.inl (k, n, upd f i.toNatClampNeg x)))) else none
  | _ => none
def zaR (kd a : Nat) (i : Int32) (h : zAH) : Option Nat := match h.1 a with
  | some (.inr (.inl (k, n, f))) => if k = kd then (if i < 0 ∨ n ≤ i.toNatClampNeg then none else f i.toNatClampNeg) else none
  | _ => none
/-- the class of the objects that an array of references of a kind holds -/
def zkc (kd : Nat) : Nat := if kd = 3 then 3 else 1
def zaQ (kd a : Nat) (i : Int32) (v : Nat) (h : zAH) : Option zAH := if a < 2 ∨ v < 2 then none else (zgO (zkc kd) v h).bind fun _ => match h.1 a with
  | some (.inr (.inl (k, n, f))) => if k = kd then (if i < 0 ∨ n ≤ i.toNatClampNeg then none else some (zup h a (.inr (.inl (k, n, va_up f i.toNatClampNeg (some v)))))) else none
  | _ => none
def znew (c : zAC) (w : Nat) (h : zAH) : zAH := (va_up h.1 (h.2.1 + 2) (some c), h.2.1 + 1, h.2.2 + w)
def znO (ci : Nat) (fs : List Value) (h : zAH) : zAH := znew (.inr (.inr (ci, fs))) fs.length h
def znI (kd : Nat) (n : Int32) (h : zAH) : Option zAH := if n < 0 ∨ 1000 < n.toNatClampNeg then none else some (znew (.inl (kd, n.toNatClampNeg, fun _ => 0)) n.toNatClampNeg h)
def znR (kd : Nat) (n : Int32) (h : zAH) : Option zAH := if n < 0 ∨ 1000 < n.toNatClampNeg then none else some (znew (.inr (.inl (kd, n.toNatClampNeg, fun _ => none))) n.toNatClampNeg h)
def zcp (a : Nat) (sp : Int32) (b : Nat) (dp n : Int32) (h : zAH) : Option zAH := if a < 2 ∨ b < 2 ∨ sp < 0 ∨ dp < 0 ∨ n < 0 then none else match h.1 a, h.1 b with
  | some (.inl (k, n0, f)), some (.inl (k', n1, f')) => if k = 0 ∧ k' = 0 ∧ sp.toNatClampNeg + n.toNatClampNeg ≤ n0 ∧ dp.toNatClampNeg + n.toNatClampNeg ≤ n1 then some (zup h b (.inl (0, n1, va_cpy f f' sp.toNatClampNeg dp.toNatClampNeg n.toNatClampNeg))) else none
  | _, _ => none
/-! the judgement: from here the machine does what k says -/
def zlm (g : zG) (lv : List (Nat × Value)) : List (Nat × Value) := lv.map fun q => (q.1, zcv g q.2)
def zEn (g : zG) (cc : ByteArray) (nL : Nat) (own nm : String) (ret : Option FieldType) (F L : Nat) (h h' : zAH) (lv : List (Nat × Value)) (p : Program) (s : State) (m : MethodId) (args : Array Value) (meth : Method) (c : Code) (H : Heap) (locs : List Loc) (ls : Array Slot) (n0 s0 : Nat) (R : Room) : Prop :=
  (p.tables.exec = Jvm.exec ∧ c.code = cc ∧ c.maxLocals = nL ∧ s.vm.findClass own = some m.cls ∧ (∀ w ∈ zWT, w.before args s = true) ∧ meth.sig.returnType = ret ∧ meth.locks = false ∧ meth.name = nm) ∧
  zKs g s s.heap ∧ va_S (zfr g) s.heap H locs ∧ zWd g h H ∧ zB g ≤ s.heap.size ∧ lv_has ls nL (zlm g lv) ∧ (n0 ≤ h.2.1 ∧ s0 ≤ h.2.2) ∧ F ≤ R.frames ∧ L ≤ R.locals ∧ h'.2.1 - n0 ≤ R.cells ∧ h'.2.2 - s0 ≤ R.slots
def zQ {ρ : Type} (g : zG) (rv : ρ → Option Value) (r : ρ) (h' : zAH) : Array Value → State → Outcome → State → Prop := fun _ st o t => o = .returned (rv r) ∧ zWd g h' t.heap ∧ ∀ q, q < zB g → t.heap[q]? = st.heap[q]?
def zSm {ρ : Type} (g : zG) (l : Launch) (cc : ByteArray) (nL : Nat) (own nm : String) (ret : Option FieldType) (F L : Nat) (rv : ρ → Option Value) (pc : Nat) (lv : List (Nat × Value)) (st : List Value) (k : zAH → Option (ρ × zAH)) : Prop :=
  ∀ (h : zAH) (r : ρ) (h' : zAH), k h = some (r, h') → (h.2.1 ≤ h'.2.1 ∧ h.2.2 ≤ h'.2.2) ∧ ∀ p e s m args below meth c H locs ls n0 s0 R, zEn g cc nL own nm ret F L h h' lv p s m args meth c H locs ls n0 s0 R →
    W p l e R s m args below meth c H locs (h.2.1 - n0) (h.2.2 - s0) (MQ below (zQ g rv r h') args s (h'.2.1 - n0) (h'.2.2 - s0) (zfr g)) (F0 m pc ls (st.map (zcv g)))
def zCt {ρ : Type} (g : zG) (l : Launch) (y : MethodName) (cc : ByteArray) (nL : Nat) (ret : Option FieldType) (F L : Nat) (rv : ρ → Option Value) (av : List Value) (d : zAH → Option (ρ × zAH)) : Prop :=
  ∀ (h : zAH) (r : ρ) (h' : zAH), d h = some (r, h') → (h.2.1 ≤ h'.2.1 ∧ h.2.2 ≤ h'.2.2) ∧
    Met l y (.code y cc nL ret :: zWT) { frames := F, cells := h'.2.1 - h.2.1, slots := h'.2.2 - h.2.2, locals := L } (va_Pc (av.map (zcv g)) (fun U => zWd g h U.heap ∧ zKs g U U.heap)) (zQ g rv r h') (h'.2.1 - h.2.1) (h'.2.2 - h.2.2) (zfr g)
section zR
variable {ρ : Type} {g : zG} {l : Launch} {cc : ByteArray} {nL : Nat} {own nm : String} {ret : Option FieldType} {F L : Nat} {rv : ρ → Option Value} {pc : Nat} {lv : List (Nat × Value)} {st : List Value} {k : zAH → Option (ρ × zAH)}
theorem zlift {pc' : Nat} {st' : List Value} (hk : zSm g l cc nL own nm ret F L rv pc' lv st' k)
    (f : ∀ {p : Program} {e : Env} {R : Room} {s : State} {m : MethodId} {args : Array Value} {below : List Frame} {meth : Method} {c : Code} {H : Heap} {locs : List Loc} {ls : Array Slot} {cells slots : Nat} {Q : State → Prop}, p.tables.exec = Jvm.exec → c.code = cc → s.vm.findClass own = some m.cls → (∀ w ∈ zWT, w.before args s = true) → lv_has ls nL (zlm g lv) →
      W p l e R s m args below meth c H locs cells slots Q (F0 m pc' ls (st'.map (zcv g))) → W p l e R s m args below meth c H locs cells slots Q (F0 m pc ls (st.map (zcv g)))) : zSm g l cc nL own nm ret F L rv pc lv st k := by
  intro h r h' hd
  obtain ⟨hm, hw⟩ := hk h r h' hd
  refine ⟨hm, fun p e s m args below meth c H locs ls n0 s0 R E => ?_⟩
  have E1 := E
  obtain ⟨⟨hx, hb, -, ho, ht, -⟩, -, -, -, -, hl, -⟩ := E1
  exact f hx hb ho ht hl (hw p e s m args below meth c H locs ls n0 s0 R E)
theorem zlat {ls : Array Slot} {i : Nat} {v : Value} (hl : lv_has ls nL (zlm g lv)) (j : Nat) (h : lv[j]? = some (i, v)) : ls[i]? = some (.val (zcv g v)) := lv_at hl j (by rw [zlm, List.getElem?_map, h]; rfl)
theorem zcat (v : Value) : (zcv g v).category = v.category := by cases v <;> rfl
theorem zsub {lv' : List (Nat × Value)} (ks : List Nat) (he : lv_pick lv ks = lv') (hk : zSm g l cc nL own nm ret F L rv pc lv' st k) : zSm g l cc nL own nm ret F L rv pc lv st k := by
  intro h r h' hd
  obtain ⟨hm, hw⟩ := hk h r h' hd
  refine ⟨hm, fun p e s m args below meth c H locs ls n0 s0 R E => ?_⟩
  obtain ⟨h1, h2, h3, h4, h5, hl, h6⟩ := E
  refine hw p e s m args below meth c H locs ls n0 s0 R ⟨h1, h2, h3, h4, h5, ?_, h6⟩
  subst he
  refine lv_sub hl ks ?_
  simp only [lv_pick, zlm, List.map_filterMap, List.getElem?_map]
def zst1 (i : Nat) (v : Value) (lv : List (Nat × Value)) : List (Nat × Value) := (i, v) :: lv.filter (fun q => !(q.1 == i) && !(q.1 + 1 == i && q.2.category == 2))
def zst2 (i : Nat) (v : Value) (lv : List (Nat × Value)) : List (Nat × Value) := (i, v) :: lv.filter (fun q => !(q.1 == i) && (!(q.1 == i + 1) && !(q.1 + 1 == i && q.2.category == 2)))
theorem zst1_map (i : Nat) (v : Value) : (i, zcv g v) :: (zlm g lv).filter (fun q => !(q.1 == i) && !(q.1 + 1 == i && q.2.category == 2)) = zlm g (zst1 i v lv) := by
  simp only [zlm, zst1, List.map_cons, List.filter_map]
  congr 2
  apply List.filter_congr
  intro q _
  simp only [Function.comp, zcat]
theorem zst2_map (i : Nat) (v : Value) : (i, zcv g v) :: (zlm g lv).filter (fun q => !(q.1 == i) && (!(q.1 == i + 1) && !(q.1 + 1 == i && q.2.category == 2))) = zlm g (zst2 i v lv) := by
  simp only [zlm, zst2, List.map_cons, List.filter_map]
  congr 2
  apply List.filter_congr
  intro q _
  simp only [Function.comp, zcat]
/-- as zlift, with new locals -/
theorem zliftS {pc' : Nat} {lv' : List (Nat × Value)} {st' : List Value} (hk : zSm g l cc nL own nm ret F L rv pc' lv' st' k)
    (f : ∀ {p : Program} {e : Env} {R : Room} {s : State} {m : MethodId} {args : Array Value} {below : List Frame} {meth : Method} {c : Code} {H : Heap} {locs : List Loc} {ls : Array Slot} {cells slots : Nat} {Q : State → Prop}, p.tables.exec = Jvm.exec → c.code = cc → lv_has ls nL (zlm g lv) →
      (∀ ls' : Array Slot, lv_has ls' nL (zlm g lv') → W p l e R s m args below meth c H locs cells slots Q (F0 m pc' ls' (st'.map (zcv g)))) → W p l e R s m args below meth c H locs cells slots Q (F0 m pc ls (st.map (zcv g)))) : zSm g l cc nL own nm ret F L rv pc lv st k := by
  intro h r h' hd
  obtain ⟨hm, hw⟩ := hk h r h' hd
  refine ⟨hm, fun p e s m args below meth c H locs ls n0 s0 R E => ?_⟩
  obtain ⟨h1, h2, h3, h4, h5, hl, h6⟩ := E
  exact f h1.1 h1.2.1 hl (fun ls' hl' => hw p e s m args below meth c H locs ls' n0 s0 R ⟨h1, h2, h3, h4, h5, hl', h6⟩)
end zR
