/-! rules of what is made, of returns, of calls, of loops -/
def znw {α : Type} (ci : Nat) (fs : List Value) (k : Nat → zAH → α) (h : zAH) : α := k (h.2.1 + 2) (znO ci fs h)
def znwI {α : Type} (kd : Nat) (n : Int32) (k : Nat → zAH → Option α) (h : zAH) : Option α := if n < 0 ∨ 1000 < n.toNatClampNeg then none else k (h.2.1 + 2) (znew (.inl (kd, n.toNatClampNeg, fun _ => 0)) n.toNatClampNeg h)
def znwR {α : Type} (kd : Nat) (n : Int32) (k : Nat → zAH → Option α) (h : zAH) : Option α := if n < 0 ∨ 1000 < n.toNatClampNeg then none else k (h.2.1 + 2) (znew (.inr (.inl (kd, n.toNatClampNeg, fun _ => none))) n.toNatClampNeg h)
def zNl (own : String) (idx ci : Nat) (fs : List Value) : Prop := ∃ (C : String) (T : u_T) (N : Nat) (ty : Nat → FieldType), zCl[ci]? = some (C, T, N) ∧ (∀ w ∈ u_ws C T N, w ∈ zWT) ∧ Cond.classLink own idx C ∈ zWT ∧ Cond.instantiable C N ∈ zWT ∧ Cond.initialized C ∈ zWT ∧ (∀ k, k < N → parseFieldDescriptor (T k).2.2.1 = some (ty k)) ∧ fs.length = N ∧ (∀ j, j < N → defaultValue (ty j) = vp_V fs j) ∧ ∀ g : zG, fs.map (zcv g) = fs
def zrI : Int32 → Option Value := fun x => some (.int x)
def zrL : Int64 → Option Value := fun x => some (.long x)
def zrV : Unit → Option Value := fun _ => none
/-- an instance method that is called, a static one, a constructor -/
def zMv (own : String) (idx ci : Nat) (y : MethodName) (cc : ByteArray) (nL : Nat) (ret : Option FieldType) (n : Nat) : Prop :=
  (∃ (T : u_T) (N : Nat), zCl[ci]? = some (y.cls, T, N)) ∧ Cond.methodLink own idx y ∈ zWT ∧ Cond.instanceMethod y ∈ zWT ∧ Cond.selects y.cls y y ∈ zWT ∧ Cond.initialized y.cls ∈ zWT ∧ Cond.code y cc nL ret ∈ zWT ∧ y.cls ≠ "java/lang/invoke/MethodHandle" ∧ y.cls ≠ "java/lang/invoke/VarHandle" ∧ (parseMethodDescriptor y.desc).map (fun d => d.parameters.length) = some n
def zMs (own : String) (idx : Nat) (y : MethodName) (cc : ByteArray) (nL : Nat) (ret : Option FieldType) (n : Nat) : Prop :=
  Cond.methodLink own idx y ∈ zWT ∧ Cond.static y ∈ zWT ∧ Cond.initialized y.cls ∈ zWT ∧ Cond.code y cc nL ret ∈ zWT ∧ y.cls ≠ "java/lang/invoke/MethodHandle" ∧ y.cls ≠ "java/lang/invoke/VarHandle" ∧ (parseMethodDescriptor y.desc).map (fun d => d.parameters.length) = some n
def zMi (own : String) (idx : Nat) (y : MethodName) (cc : ByteArray) (nL : Nat) (n : Nat) : Prop :=
  (Cond.methodLink own idx y ∈ zWT ∨ ((idx = 20 ∧ y = yX0_init ∨ idx = 30 ∧ y = yX1_init) ∧ own = RX4)) ∧ Cond.instanceMethod y ∈ zWT ∧ Cond.initialized y.cls ∈ zWT ∧ Cond.code y cc nL none ∈ zWT ∧ y.name = "<init>" ∧ y.cls ≠ "java/lang/invoke/MethodHandle" ∧ y.cls ≠ "java/lang/invoke/VarHandle" ∧ (parseMethodDescriptor y.desc).map (fun d => d.parameters.length) = some n
section zR4
variable {ρ : Type} {g : zG} {l : Launch} {cc : ByteArray} {nL : Nat} {own nm : String} {ret : Option FieldType} {F L : Nat} {rv : ρ → Option Value} {pc q t : Nat} {lv lv' : List (Nat × Value)} {st : List Value}
theorem z_new {ci idx : Nat} {fs : List Value} {k : Nat → zAH → Option (ρ × zAH)} (hf : zNl own idx ci fs) (hd : decode cc pc = .ok (.new idx, 3)) (he : pc + 3 = q) (hk : ∀ a, zSm g l cc nL own nm ret F L rv q lv (.ref a :: st) (k a)) : zSm g l cc nL own nm ret F L rv pc lv st (fun h => znw ci fs k h) := by
  subst he
  intro h r h' hdn
  obtain ⟨hm, hw⟩ := hk (h.2.1 + 2) (znO ci fs h) r h' hdn
  have hm1 : h.2.1 + 1 ≤ h'.2.1 := hm.1
  have hm2 : h.2.2 + fs.length ≤ h'.2.2 := hm.2
  refine ⟨⟨by omega, by omega⟩, fun p e s m args below meth c H locs ls n0 s0 R E => ?_⟩
  obtain ⟨hC, hK, hS, hW, hbs, hl, ⟨hn0, hs0⟩, hF, hL, hc, hsl⟩ := E
  obtain ⟨C, T, N, ty, f1, f2, f3, f4, f5, f6, f7, f8, f9⟩ := hf
  have hKn := hK.1.1 ci _ f1
  have hw2 := fun H1 hS1 hW1 => hw p e s m args below meth c H1 locs ls n0 s0 R ⟨hC, hK, hS1, hW1, hbs, hl, ⟨by show n0 ≤ h.2.1 + 1; omega, by show s0 ≤ h.2.2 + fs.length; omega⟩, hF, hL, hc, hsl⟩
  obtain ⟨hx, hb, -, hown, ht, -⟩ := hC
  refine W.newcK hx hb hown (ht _ f3) (ht _ f4) (ht _ f5) rfl hd (by omega) (by omega) hKn.2.1 rfl fun H1 kC hkC e1 z1 o1 => ?_
  have hcell : va_at (zD g) zCl (H.size, zcE g (.inr (.inr (ci, fs)))) H1 := by
    show va_at (zD g) zCl (H.size, .inr (ci, fs.map (zcv g))) H1
    rw [f9 g]
    exact ⟨_, f1, (u_born ty ht f2 hKn hkC e1 f6).to f8⟩
  have kk := hw2 H1 ⟨Nat.le_trans hS.1 (by omega), fun x h1 h2 => (o1 x (Nat.lt_of_lt_of_le h1 hS.1)).trans (hS.2.1 x h1 h2), hS.2.2⟩ (zWd.new (w := fs.length) hW z1 hcell o1)
  have e2 : h.2.1 - n0 + 1 = (znO ci fs h).2.1 - n0 := by show h.2.1 - n0 + 1 = h.2.1 + 1 - n0; omega
  have e3 : h.2.2 - s0 + N = (znO ci fs h).2.2 - s0 := by show h.2.2 - s0 + N = h.2.2 + fs.length - s0; omega
  rw [e2, e3]
  have e4 : zcv g (.ref (h.2.1 + 2)) = .ref H.size := by show Value.ref (zB g + h.2.1) = _; rw [hW.1]
  have kk2 : W p l e R s m args below meth c H1 locs ((znO ci fs h).2.1 - n0) ((znO ci fs h).2.2 - s0) (MQ below (zQ g rv r h') args s (h'.2.1 - n0) (h'.2.2 - s0) (zfr g)) (F0 m (pc + 3) ls (zcv g (.ref (h.2.1 + 2)) :: st.map (zcv g))) := kk
  rw [e4] at kk2
  exact kk2
theorem z_newI {kd : Nat} {at0 : ArrayType} {n : Int32} {k : Nat → zAH → Option (ρ × zAH)} (hkd : (kd = 0 ∧ newarray.typeOf at0 = .int) ∨ (kd = 1 ∧ newarray.typeOf at0 = .byte) ∨ (kd = 2 ∧ newarray.typeOf at0 = .boolean)) (hw0 : Cond.arrayClass (newarray.typeOf at0) ∈ zWT) (hd : decode cc pc = .ok (.newarray at0, 2)) (he : pc + 2 = q) (hk : ∀ a, zSm g l cc nL own nm ret F L rv q lv (.ref a :: st) (k a)) : zSm g l cc nL own nm ret F L rv pc lv (.int n :: st) (fun h => znwI kd n k h) := by
  subst he
  intro h r h' hdn
  unfold znwI at hdn
  split at hdn
  · cases hdn
  · next hn =>
    obtain ⟨hm, hw⟩ := hk _ _ r h' hdn
    have hm1 : h.2.1 + 1 ≤ h'.2.1 := hm.1
    have hm2 : h.2.2 + n.toNatClampNeg ≤ h'.2.2 := hm.2
    have hn1 : ¬ n < 0 := fun z => hn (Or.inl z)
    have hn2 : n.toNatClampNeg ≤ 1000 := Nat.not_lt.mp fun z => hn (Or.inr z)
    refine ⟨⟨by omega, by omega⟩, fun p e s m args below meth c H locs ls n0 s0 R E => ?_⟩
    obtain ⟨hC, hK, hS, hW, hbs, hl, ⟨hn0, hs0⟩, hF, hL, hc, hsl⟩ := E
    have hw2 := fun H1 hS1 hW1 => hw p e s m args below meth c H1 locs ls n0 s0 R ⟨hC, hK, hS1, hW1, hbs, hl, ⟨by show n0 ≤ h.2.1 + 1; omega, by show s0 ≤ h.2.2 + n.toNatClampNeg; omega⟩, hF, hL, hc, hsl⟩
    obtain ⟨hx, hb, -, hown, ht, -⟩ := hC
    have hby : componentBytes (newarray.typeOf at0) ≤ 8 := by rcases hkd with ⟨-, e⟩ | ⟨-, e⟩ | ⟨-, e⟩ <;> rw [e] <;> decide
    have hmul : n.toNatClampNeg * componentBytes (newarray.typeOf at0) ≤ 1000 * 8 := Nat.mul_le_mul hn2 hby
    refine va_newaK hx hb (ht _ hw0) rfl hd rfl hn1 rfl (by omega) (by omega) (by omega) rfl fun H1 cA e1 z1 o1 hAr hNm => ?_
    have hcA : cA = zcA g kd := by
      rcases hkd with ⟨rfl, e⟩ | ⟨rfl, e⟩ | ⟨rfl, e⟩ <;> rw [e] at hNm
      · exact Option.some.inj (hNm.symm.trans (hK.1.2 0 _ rfl).2)
      · exact Option.some.inj (hNm.symm.trans (hK.1.2 1 _ rfl).2)
      · exact Option.some.inj (hNm.symm.trans (hK.1.2 2 _ rfl).2)
    have hdf : defaultValue (newarray.typeOf at0) = .int 0 := by rcases hkd with ⟨-, e⟩ | ⟨-, e⟩ | ⟨-, e⟩ <;> rw [e] <;> rfl
    have hcell : va_at (zD g) zCl (H.size, zcE g (.inl (kd, n.toNatClampNeg, fun _ => 0))) H1 := by
      show H1[H.size]? = some (vp_cell (zcA g kd) (n.toNatClampNeg, .inl fun _ => 0))
      rw [e1, hcA, hdf, vp_cell_i]
    have kk := hw2 H1 ⟨Nat.le_trans hS.1 (by omega), fun x h1 h2 => (o1 x (Nat.lt_of_lt_of_le h1 hS.1)).trans (hS.2.1 x h1 h2), hS.2.2⟩ (zWd.new (w := n.toNatClampNeg) hW z1 hcell o1)
    have e2 : h.2.1 - n0 + 1 = h.2.1 + 1 - n0 := by omega
    have e3 : h.2.2 - s0 + n.toNatClampNeg = h.2.2 + n.toNatClampNeg - s0 := by omega
    rw [e2, e3]
    have e4 : zcv g (.ref (h.2.1 + 2)) = .ref H.size := by show Value.ref (zB g + h.2.1) = _; rw [hW.1]
    have kk2 : W p l e R s m args below meth c H1 locs (h.2.1 + 1 - n0) (h.2.2 + n.toNatClampNeg - s0) (MQ below (zQ g rv r h') args s (h'.2.1 - n0) (h'.2.2 - s0) (zfr g)) (F0 m (pc + 2) ls (zcv g (.ref (h.2.1 + 2)) :: st.map (zcv g))) := kk
    rw [e4] at kk2
    exact kk2
theorem z_newR {kd idx : Nat} {C : String} {n : Int32} {k : Nat → zAH → Option (ρ × zAH)} (hkd : (kd = 3 ∧ C = RX3) ∨ (kd = 4 ∧ C = RX1)) (hw0 : Cond.classLink own idx C ∈ zWT) (hd : decode cc pc = .ok (.anewarray idx, 3)) (he : pc + 3 = q) (hk : ∀ a, zSm g l cc nL own nm ret F L rv q lv (.ref a :: st) (k a)) : zSm g l cc nL own nm ret F L rv pc lv (.int n :: st) (fun h => znwR kd n k h) := by
  subst he
  intro h r h' hdn
  unfold znwR at hdn
  split at hdn
  · cases hdn
  · next hn =>
    obtain ⟨hm, hw⟩ := hk _ _ r h' hdn
    have hm1 : h.2.1 + 1 ≤ h'.2.1 := hm.1
    have hm2 : h.2.2 + n.toNatClampNeg ≤ h'.2.2 := hm.2
    have hn1 : ¬ n < 0 := fun z => hn (Or.inl z)
    have hn2 : n.toNatClampNeg ≤ 1000 := Nat.not_lt.mp fun z => hn (Or.inr z)
    refine ⟨⟨by omega, by omega⟩, fun p e s m args below meth c H locs ls n0 s0 R E => ?_⟩
    obtain ⟨hC, hK, hS, hW, hbs, hl, ⟨hn0, hs0⟩, hF, hL, hc, hsl⟩ := E
    have hw2 := fun H1 hS1 hW1 => hw p e s m args below meth c H1 locs ls n0 s0 R ⟨hC, hK, hS1, hW1, hbs, hl, ⟨by show n0 ≤ h.2.1 + 1; omega, by show s0 ≤ h.2.2 + n.toNatClampNeg; omega⟩, hF, hL, hc, hsl⟩
    obtain ⟨hx, hb, -, hown, ht, -⟩ := hC
    have hover : va_AO C s := by rcases hkd with ⟨-, rfl⟩ | ⟨-, rfl⟩ <;> first | exact hK.2.2.2.2.2.2.2.2.2.1 | exact hK.2.2.2.2.2.2.2.2.2.2
    refine W.anew hx hb hown (ht _ hw0) (va_AO.use hover) rfl hd rfl hn1 (by omega) (by omega) (by omega) fun cA kA comp g1 g2 g3 g4 => ?_
    generalize hH1 : H.push ({ cls := cA, slots := Array.replicate n.toNatClampNeg .null, vm := .none } : Cell) = H1
    have z1 : H1.size = H.size + 1 := by rw [← hH1, Array.size_push]
    have e1 : H1[H.size]? = some (arrV cA n.toNatClampNeg (fun _ => .null)) := by rw [← hH1, Array.getElem?_push_size, ← arrV_new]
    have o1 : ∀ q : Nat, q < H.size → H1[q]? = H[q]? := fun q hq => by rw [← hH1, Array.getElem?_push, if_neg (Nat.ne_of_lt hq)]
    have hcA : cA = zcA g kd := by
      rcases hkd with ⟨rfl, rfl⟩ | ⟨rfl, rfl⟩
      · obtain ⟨_, _, -, -, -, u⟩ := (hK.1.2 3 _ rfl).2
        exact Option.some.inj (g1.symm.trans u)
      · obtain ⟨_, _, -, -, -, u⟩ := (hK.1.2 4 _ rfl).2
        exact Option.some.inj (g1.symm.trans u)
    have hcell : va_at (zD g) zCl (H.size, zcE g (.inr (.inl (kd, n.toNatClampNeg, fun _ => none)))) H1 := by
      show H1[H.size]? = some (vp_cell (zcA g kd) (n.toNatClampNeg, .inr (.inr (.inr (.inr fun _ => none)))))
      rw [e1, hcA, vp_cell_q]
      rfl
    have kk := hw2 H1 ⟨Nat.le_trans hS.1 (by omega), fun x h1 h2 => (o1 x (Nat.lt_of_lt_of_le h1 hS.1)).trans (hS.2.1 x h1 h2), hS.2.2⟩ (zWd.new (w := n.toNatClampNeg) hW z1 hcell o1)
    have e2 : h.2.1 - n0 + 1 = h.2.1 + 1 - n0 := by omega
    have e3 : h.2.2 - s0 + n.toNatClampNeg = h.2.2 + n.toNatClampNeg - s0 := by omega
    rw [e2, e3]
    have e4 : zcv g (.ref (h.2.1 + 2)) = .ref H.size := by show Value.ref (zB g + h.2.1) = _; rw [hW.1]
    have kk2 : W p l e R s m args below meth c H1 locs (h.2.1 + 1 - n0) (h.2.2 + n.toNatClampNeg - s0) (MQ below (zQ g rv r h') args s (h'.2.1 - n0) (h'.2.2 - s0) (zfr g)) (F0 m (pc + 3) ls (zcv g (.ref (h.2.1 + 2)) :: st.map (zcv g))) := kk
    rw [e4] at kk2
    exact kk2
end zR4
