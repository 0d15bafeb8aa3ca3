/-! the abstract heap: cells by abstract references; 0 is the static table, 1 the script, 2 and on what the law makes -/
abbrev zAC : Type := (Nat × Nat × (Nat → Int32)) ⊕ ((Nat × Nat × (Nat → Option Nat)) ⊕ (Nat × List Value))
abbrev zAH : Type := (Nat → Option zAC) × Nat × Nat
abbrev zG : Type := Nat × Nat × Nat × Nat × (Nat → Int32) × va_G × (Nat → ClassId)
abbrev zB (g : zG) : Nat := g.1
abbrev zSa (g : zG) : Nat := g.2.1
abbrev zSb (g : zG) : Nat := g.2.2.1
abbrev zLn (g : zG) : Nat := g.2.2.2.1
abbrev zXs (g : zG) : Nat → Int32 := g.2.2.2.2.1
abbrev zD (g : zG) : va_G := g.2.2.2.2.2.1
abbrev zcA (g : zG) : Nat → ClassId := g.2.2.2.2.2.2
def zfr (g : zG) : Nat → Prop := fun q => zB g ≤ q
abbrev zCl : List vw_C := [(RX0, TX0, 8), (RX1, TX1, 12), (RX2, TX2, 3), (RX3, TX3, 2), (RX4, TX4, 18), (RX5, TX5, 37)]
abbrev zTy (g : zG) : List (ClassId × FieldType) := [(zcA g 0, .int), (zcA g 1, .byte), (zcA g 2, .boolean), (zcA g 3, .object RX3), (zcA g 4, .object RX1)]
def zBch : Nat → Int32 := fun j => if j = 0 then 2 else if j = 1 then 1 else if j = 2 then -1 else -3
def zca (g : zG) : Nat → Nat
  | 0 => zSa g
  | 1 => zSb g
  | i + 2 => zB g + i
def zcv (g : zG) : Value → Value
  | .ref i => .ref (zca g i)
  | w => w
def zcE (g : zG) (c : zAC) : va_E := match c with
  | .inl (k, n, f) => .inl (zcA g k, n, .inl f)
  | .inr (.inl (k, n, f)) => .inl (zcA g k, n, .inr (.inr (.inr (.inr (fun j => (f j).map (zca g))))))
  | .inr (.inr (ci, fs)) => .inr (ci, fs.map (zcv g))
/-- the heap holds the abstract heap -/
def zWd (g : zG) (h : zAH) (H : Heap) : Prop :=
  H.size = zB g + h.2.1 ∧ h.1 0 = some (.inl (0, 4, zBch)) ∧ h.1 1 = some (.inl (0, zLn g, zXs g)) ∧
  ∀ (i : Nat) (c : zAC), h.1 (i + 2) = some c → i < h.2.1 ∧ va_at (zD g) zCl (zB g + i, zcE g c) H
def zWT : List Cond := lw_tbl.filter goodWord
theorem zWT_in {w : Cond} (h : w ∈ lw_tbl) (hg : goodWord w = true) : w ∈ zWT := List.mem_filter.mpr ⟨h, hg⟩
theorem zWT_good : ∀ w ∈ zWT, w ∈ zWT ∧ ((w.onTables && w.keeps) = true ∨ ∃ ty, w = .arrayClass ty) := fun w h => ⟨h, good_of_word (List.mem_filter.mp h).2⟩
/-- what the tables, the static table and the script say, at a state -/
def zKs (g : zG) (U : State) (H : Heap) : Prop :=
  va_K (zD g) zCl (zTy g) U ∧ va_Z RX4 "BREATH_CHANGE" "[I" (.ref (zSa g)) (zfr g) U H ∧ va_T .int (zSa g) 4 (fun j => .int (zBch j)) (zfr g) U H ∧
  va_X (zSb g) (zLn g) (zXs g) U H ∧ zSb g < zB g ∧ zSa g < zB g ∧
  va_Nw (.methodLinkNest RX4 20 yX0_init RX4) U ∧ va_Nw (.methodLinkNest RX4 30 yX1_init RX4) U ∧ va_Nw (.fieldLinkNest RX1 100 RX4 "BREATH_CHANGE" "[I" RX4) U ∧ va_AO RX3 U ∧ va_AO RX1 U
theorem zKs.moved {g : zG} {u U : State} {H H1 : Heap} (h : zKs g u H) (hW : u.WarmedH U.vm) (hq : ∀ q : Nat, q < H.size → ¬ zfr g q → H1[q]? = H[q]?) : zKs g U H1 := by
  obtain ⟨h1, h2, h3, h4, h5, h6, h7, h8, h9, h10, h11⟩ := h
  have hb : zSb g < H.size := by
    obtain ⟨scr, e, -⟩ := h4
    exact (Array.getElem?_eq_some_iff.mp e).1
  exact ⟨h1.moved hW.alike, (h2.kept hq).moved hW.alike, (h3.kept hq).moved hW.alike, (h4.kept (hq _ hb (Nat.not_le.mpr h5))).moved hW.alike, h5, h6, h7.warmM hW, h8.warmM hW, h9.warmF hW, h10.moved hW.alike, h11.moved hW.alike⟩
theorem zKs.blind {g : zG} {U : State} {H : Heap} (h : zKs g U H) {V : State} (hv : V.vm = U.vm) : zKs g V H := by
  obtain ⟨h1, h2, h3, h4, h5, h6, h7, h8, h9, h10, h11⟩ := h
  have ha : U.vm.Alike V.vm := by rw [hv]; exact Vm.Alike.refl U.vm
  exact ⟨h1.moved ha, h2.moved ha, h3.moved ha, h4.moved ha, h5, h6, h7.same rfl hv.symm, h8.same rfl hv.symm, h9.same rfl hv.symm, h10.moved ha, h11.moved ha⟩
