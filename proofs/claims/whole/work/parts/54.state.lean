abbrev zA : Type := Nat × Int32 × Int32 × Int64 × Int64 × (Nat → Int32)
abbrev zWr : Type := (Nat → Option Nat) × (Nat → Nat → Int32)
abbrev zGh : Type := zHD × (Nat → Nat) × (Nat → Nat)
/-- what class and reference hold: what was told, rows, texts, hill (breaths, heads), race, kept races -/
abbrev zSt : Type := zA × zWr × zWr × zGh × zRS × (Nat → Option zRS)
abbrev sA (s : zSt) : zA := s.1
abbrev sLw (s : zSt) : Nat := s.1.1
abbrev sW (s : zSt) : zWr := s.2.1
abbrev sT (s : zSt) : zWr := s.2.2.1
abbrev sG (s : zSt) : zGh := s.2.2.2.1
abbrev sH (s : zSt) : zHD := s.2.2.2.1.1
abbrev sB (s : zSt) : Nat → Nat := s.2.2.2.1.2.1
abbrev sD (s : zSt) : Nat → Nat := s.2.2.2.1.2.2
abbrev sR (s : zSt) : zRS := s.2.2.2.2.1
abbrev sK (s : zSt) : Nat → Option zRS := s.2.2.2.2.2
def szX : Option Nat → Int32
  | none => -9
  | some n => nI n
def szM : Option Nat → Int32
  | none => -1
  | some n => nI n
def okS (s : zSt) : Prop := sLw s ≤ 2 ∧ (∀ r n, r < 6 → (sW s).1 r = some n → n ≤ 60) ∧ (∀ t n, t < 4 → (sT s).1 t = some n → n ≤ 100) ∧ (okH (sH s) ∧ (hY (sH s) = 0 → hN (sH s) = 0)) ∧ (∀ x, x < hN (sH s) → 1 ≤ sB s x ∧ sB s x ≤ 9 ∧ sD s x ≤ 9) ∧ okR (sH s) (sR s) ∧ ∀ j R', j < 3 → sK s j = some R' → okR (sH s) R'
abbrev kC (k : zK) : Nat := k.2.2.1
abbrev kD (k : zK) : Nat := k.2.2.2.1
abbrev kN (k : zK) : Nat := k.2.2.2.2.2.1
abbrev kS (k : zK) : Nat := k.2.2.2.2.2.2
def XA (A : zA) (k : zK) (m : Nat → Nat → Int32) : Prop := m 2 7 = nI A.1 ∧ m 2 8 = A.2.1 ∧ m 2 11 = A.2.2.1 ∧ k.2.1 0 = A.2.2.2.1 ∧ k.2.1 1 = A.2.2.2.2.1 ∧ ∀ f, f < 6 → m 34 f = A.2.2.2.2.2 f
def zXQ (ba ct : Nat) (W : zWr) (m : Nat → Nat → Int32) : Prop := ∀ r, r < ct → m (ba + 2 * r) 1 = szX (W.1 r) ∧ ∀ n, W.1 r = some n → ∀ i, i < n → m (ba + 2 * r + 1) i = W.2 r i
def XW (W : zWr) (m : Nat → Nat → Int32) : Prop := zXQ 40 6 W m
def XT (T : zWr) (m : Nat → Nat → Int32) : Prop := zXQ 52 4 T m
def XG (H : zHD) (B D : Nat → Nat) (k : zK) (m : Nat → Nat → Int32) : Prop := ((kC k = 5 ∧ kD k = 12) ∨ (kC k = 12 ∧ kD k = 5)) ∧ encH (kC k) H m ∧ ∀ x, x < hN H → m (kC k + 3) x = nI (B x) ∧ m (kC k + 4) x = nI (D x)
def XK (H : zHD) (K : Nat → Option zRS) (m : Nat → Nat → Int32) : Prop := ∀ j, j < 3 → m (60 + 7 * j) 5 = (if (K j).isSome then 1 else 0) ∧ ∀ R', K j = some R' → encX (60 + 7 * j) H R' m
def XS (s : zSt) (k : zK) (m : Nat → Nat → Int32) : Prop := XA (sA s) k m ∧ XW (sW s) m ∧ XT (sT s) m ∧ XG (sH s) (sB s) (sD s) k m ∧ encX 19 (sH s) (sR s) m ∧ XK (sH s) (sK s) m ∧ ∀ x, x < 5 → m 35 x = -1
def MA (A : zA) (k : zK) (m : Nat → Nat → Int32) : Prop := m 81 18 = nI A.1 ∧ m 81 2 = A.2.1 ∧ m 81 0 = A.2.2.1 ∧ k.2.1 2 = A.2.2.2.1 ∧ k.2.1 3 = A.2.2.2.2.1 ∧ ∀ f, f < 6 → m 82 f = A.2.2.2.2.2 f
def zMQ (sa ca ln ct : Nat) (W : zWr) (m : Nat → Nat → Int32) : Prop := ∀ r, r < ct → m sa r = szM (W.1 r) ∧ ∀ n, W.1 r = some n → ∀ i, i < n → m ca (ln * r + i) = W.2 r i
def MW (W : zWr) (m : Nat → Nat → Int32) : Prop := zMQ 83 84 60 6 W m
def MT (T : zWr) (m : Nat → Nat → Int32) : Prop := zMQ 86 87 100 4 T m
def MG (H : zHD) (B D : Nat → Nat) (m : Nat → Nat → Int32) : Prop := encG H m ∧ ∀ x, x < hN H → m 90 x = nI (B x) ∧ m 91 x = nI (D x)
def MK (H : zHD) (K : Nat → Option zRS) (m : Nat → Nat → Int32) : Prop := ∀ j, j < 3 → m 99 (1 + j) = (if (K j).isSome then 1 else 0) ∧ ∀ R', K j = some R' → encM (33 * (1 + j)) H R' m
def MS (s : zSt) (k : zK) (m : Nat → Nat → Int32) : Prop := MA (sA s) k m ∧ MW (sW s) m ∧ MT (sT s) m ∧ MG (sH s) (sB s) (sD s) m ∧ encM 0 (sH s) (sR s) m ∧ MK (sH s) (sK s) m
/-! what a call may change -/
def zfX (k : zK) (m : Nat → Nat → Int32) (k' : zK) (m' : Nat → Nat → Int32) : Prop := (∀ a, 81 ≤ a → m' a = m a) ∧ k'.1 = k.1 ∧ (∀ i, 2 ≤ i → k'.2.1 i = k.2.1 i) ∧ kN k ≤ kN k' ∧ kN k' ≤ kN k + 1 ∧ kS k' ≤ kS k + 3
def zfM (k : zK) (m : Nat → Nat → Int32) (k' : zK) (m' : Nat → Nat → Int32) : Prop := (∀ a, a < 81 → m' a = m a) ∧ k'.1 = k.1 ∧ k'.2.1 0 = k.2.1 0 ∧ k'.2.1 1 = k.2.1 1 ∧ k'.2.2 = k.2.2
def okX {ρ : Type} (f : zAH → Option (ρ × zAH)) (g : zSt → ρ × zSt) : Prop := ∀ s k m, okS s → XS s k m → 102 ≤ kN k → ∃ k' m', f (Z k m) = some ((g s).1, Z k' m') ∧ XS (g s).2 k' m' ∧ zfX k m k' m'
def okM {ρ : Type} (f : zAH → Option (ρ × zAH)) (g : zSt → ρ × zSt) : Prop := ∀ s k m, okS s → MS s k m → ∃ k' m', f (Z k m) = some ((g s).1, Z k' m') ∧ MS (g s).2 k' m' ∧ zfM k m k' m'
def okG {ρ : Type} (g : zSt → ρ × zSt) : Prop := ∀ s, okS s → okS (g s).2
section
variable {k k' : zK} {m m' : Nat → Nat → Int32} {s : zSt}
theorem zfX.rf : zfX k m k m := ⟨fun _ _ => rfl, rfl, fun _ _ => rfl, Nat.le_refl _, by omega, by omega⟩
theorem zfX.of (h : ∀ a, 81 ≤ a → m' a = m a) : zfX k m k m' := ⟨h, rfl, fun _ _ => rfl, Nat.le_refl _, by omega, by omega⟩
theorem zfM.rf : zfM k m k m := ⟨fun _ _ => rfl, rfl, rfl, rfl, rfl⟩
theorem zfM.of (h : ∀ a, a < 81 → m' a = m a) : zfM k m k m' := ⟨h, rfl, rfl, rfl, rfl⟩
theorem zfM.tr {k2 : zK} {m2 : Nat → Nat → Int32} (h1 : zfM k m k' m') (h2 : zfM k' m' k2 m2) : zfM k m k2 m2 := ⟨fun a ha => (h2.1 a ha).trans (h1.1 a ha), h2.2.1.trans h1.2.1, h2.2.2.1.trans h1.2.2.1, h2.2.2.2.1.trans h1.2.2.2.1, h2.2.2.2.2.trans h1.2.2.2.2⟩
theorem XA.fr {A : zA} (h : XA A k m) (h2 : m' 2 = m 2) (h34 : m' 34 = m 34) : XA A k m' := by
  obtain ⟨a1, a2, a3, a4, a5, a6⟩ := h
  refine ⟨?_, ?_, ?_, a4, a5, fun f hf => ?_⟩
  · rw [h2]; exact a1
  · rw [h2]; exact a2
  · rw [h2]; exact a3
  · rw [h34]; exact a6 f hf
theorem XW.fr {W : zWr} (h : XW W m) (hf : ∀ a, 40 ≤ a → a ≤ 51 → m' a = m a) : XW W m' := by
  intro r hr
  rw [hf (40 + 2 * r) (by omega) (by omega), hf (40 + 2 * r + 1) (by omega) (by omega)]
  exact h r hr
theorem XT.fr {T : zWr} (h : XT T m) (hf : ∀ a, 52 ≤ a → a ≤ 59 → m' a = m a) : XT T m' := by
  intro r hr
  rw [hf (52 + 2 * r) (by omega) (by omega), hf (52 + 2 * r + 1) (by omega) (by omega)]
  exact h r hr
theorem encH_cg {c : Nat} {H : zHD} (h : encH c H m) (hf : ∀ a, c ≤ a → a ≤ c + 6 → m' a = m a) : encH c H m' := by
  unfold encH
  rw [hf c (by omega) (by omega), hf (c + 1) (by omega) (by omega), hf (c + 2) (by omega) (by omega), hf (c + 5) (by omega) (by omega), hf (c + 6) (by omega) (by omega)]
  exact h
theorem XG.fr {H : zHD} {B D : Nat → Nat} (h : XG H B D k m) (hf : ∀ a, kC k ≤ a → a ≤ kC k + 6 → m' a = m a) : XG H B D k m' := by
  obtain ⟨h1, h2, h3⟩ := h
  refine ⟨h1, encH_cg h2 hf, fun x hx => ?_⟩
  rw [hf (kC k + 3) (by omega) (by omega), hf (kC k + 4) (by omega) (by omega)]
  exact h3 x hx
theorem encX_cg {a : Nat} {H : zHD} {R : zRS} (h : encX a H R m) (hf : ∀ b, a ≤ b → b ≤ a + 6 → m' b = m b) : encX a H R m' := by
  unfold encX
  rw [hf a (by omega) (by omega), hf (a + 1) (by omega) (by omega), hf (a + 2) (by omega) (by omega), hf (a + 3) (by omega) (by omega), hf (a + 4) (by omega) (by omega), hf (a + 5) (by omega) (by omega), hf (a + 6) (by omega) (by omega)]
  exact h
theorem XK.fr {H : zHD} {K : Nat → Option zRS} (h : XK H K m) (hf : ∀ a, 60 ≤ a → a ≤ 80 → m' a = m a) : XK H K m' := by
  intro j hj
  obtain ⟨h1, h2⟩ := h j hj
  refine ⟨by rw [hf _ (by omega) (by omega)]; exact h1, fun R' hR => encX_cg (h2 R' hR) fun b hb1 hb2 => hf b (by omega) (by omega)⟩
theorem XG.kc {H : zHD} {B D : Nat → Nat} (h : XG H B D k m) : 5 ≤ kC k ∧ kC k ≤ 12 ∧ shp (kC k) = 2 := by
  obtain ⟨h1, h2, -⟩ := h
  exact ⟨by omega, by omega, h2.1⟩
theorem MA.fr {A : zA} (h : MA A k m) (h81 : m' 81 18 = m 81 18 ∧ m' 81 2 = m 81 2 ∧ m' 81 0 = m 81 0) (h82 : m' 82 = m 82) : MA A k m' := by
  obtain ⟨a1, a2, a3, a4, a5, a6⟩ := h
  refine ⟨?_, ?_, ?_, a4, a5, fun f hf => ?_⟩
  · rw [h81.1]; exact a1
  · rw [h81.2.1]; exact a2
  · rw [h81.2.2]; exact a3
  · rw [h82]; exact a6 f hf
theorem MW.fr {W : zWr} (h : MW W m) (h1 : m' 83 = m 83) (h2 : m' 84 = m 84) : MW W m' := by
  intro r hr
  rw [h1, h2]
  exact h r hr
theorem MT.fr {T : zWr} (h : MT T m) (h1 : m' 86 = m 86) (h2 : m' 87 = m 87) : MT T m' := by
  intro r hr
  rw [h1, h2]
  exact h r hr
theorem encG_cg {H : zHD} (h : encG H m) (h81 : m' 81 10 = m 81 10 ∧ m' 81 12 = m 81 12) (hf : ∀ a, 88 ≤ a → a ≤ 93 → m' a = m a) : encG H m' := by
  unfold encG
  rw [h81.1, h81.2, hf 88 (by omega) (by omega), hf 89 (by omega) (by omega), hf 92 (by omega) (by omega), hf 93 (by omega) (by omega)]
  exact h
theorem MG.fr {H : zHD} {B D : Nat → Nat} (h : MG H B D m) (h81 : m' 81 10 = m 81 10 ∧ m' 81 12 = m 81 12) (hf : ∀ a, 88 ≤ a → a ≤ 93 → m' a = m a) : MG H B D m' := by
  obtain ⟨h2, h3⟩ := h
  refine ⟨encG_cg h2 h81 hf, fun x hx => ?_⟩
  rw [hf 90 (by omega) (by omega), hf 91 (by omega) (by omega)]
  exact h3 x hx
theorem encM_fr {q : Nat} {H : zHD} {R : zRS} (hN5 : hN H ≤ 5) (h : encM q H R m) (hf : ∀ j, q ≤ j → j < q + 33 → m' 100 j = m 100 j) : encM q H R m' := encM_mv h.1 hN5 (fun i hi => hf (q + i) (by omega) (by omega)) h
theorem MK.fr {H : zHD} {K : Nat → Option zRS} (hN5 : hN H ≤ 5) (h : MK H K m) (h99 : m' 99 = m 99) (hf : ∀ j, 33 ≤ j → j < 132 → m' 100 j = m 100 j) : MK H K m' := by
  intro j hj
  obtain ⟨h1, h2⟩ := h j hj
  refine ⟨by rw [h99]; exact h1, fun R' hR => encM_fr hN5 (h2 R' hR) fun b hb1 hb2 => hf b (by omega) (by omega)⟩
/-- the scratch of the class -/
theorem XS.sc (h : XS s k m) (hf : ∀ a, a < 81 → (a < 26 ∨ 39 < a ∨ a = 33 ∨ a = 34) → (a < kD k ∨ kD k + 6 < a) → m' a = m a) (h35 : ∀ x, x < 5 → m' 35 x = -1) : XS s k m' := by
  obtain ⟨hA, hW, hT, hG, hR, hK, -⟩ := h
  have hg := hG.1
  exact ⟨hA.fr (hf 2 (by omega) (by omega) (by omega)) (hf 34 (by omega) (by omega) (by omega)), hW.fr fun a h1 h2 => hf a (by omega) (by omega) (by omega), hT.fr fun a h1 h2 => hf a (by omega) (by omega) (by omega), hG.fr fun a h1 h2 => hf a (by omega) (by omega) (by omega), encX_cg hR fun a h1 h2 => hf a (by omega) (by omega) (by omega), hK.fr fun a h1 h2 => hf a (by omega) (by omega) (by omega), h35⟩
/-- the scratch of the reference -/
def zFw (m m' : Nat → Nat → Int32) : Prop := (∀ a, a ≠ 81 → a ≠ 85 → a ≠ 100 → a ≠ 101 → a ≠ 102 → a ≠ 103 → (a < 94 ∨ 98 < a) → m' a = m a) ∧ (∀ f, (f < 19 ∨ (21 < f ∧ f < 29)) → m' 81 f = m 81 f) ∧ ∀ j, j < 132 → m' 100 j = m 100 j
theorem zFw.rf : zFw m m := ⟨fun _ _ _ _ _ _ _ _ => rfl, fun _ _ => rfl, fun _ _ => rfl⟩
theorem zFw.tr {m2 : Nat → Nat → Int32} (h1 : zFw m m') (h2 : zFw m' m2) : zFw m m2 := ⟨fun a b c d e f g h => (h2.1 a b c d e f g h).trans (h1.1 a b c d e f g h), fun f hf => (h2.2.1 f hf).trans (h1.2.1 f hf), fun j hj => (h2.2.2 j hj).trans (h1.2.2 j hj)⟩
theorem MS.sc (hN5 : hN (sH s) ≤ 5) (h : MS s k m) (hf : zFw m m') : MS s k m' := by
  obtain ⟨hA, hW, hT, hG, hR, hK⟩ := h
  obtain ⟨f1, f2, f3⟩ := hf
  have g : ∀ a, a ≠ 81 → a ≠ 85 → a ≠ 100 → a ≠ 101 → a ≠ 102 → a ≠ 103 → (a < 94 ∨ 98 < a) → m' a = m a := f1
  exact ⟨hA.fr ⟨f2 18 (by omega), f2 2 (by omega), f2 0 (by omega)⟩ (g 82 (by omega) (by omega) (by omega) (by omega) (by omega) (by omega) (by omega)), hW.fr (g 83 (by omega) (by omega) (by omega) (by omega) (by omega) (by omega) (by omega)) (g 84 (by omega) (by omega) (by omega) (by omega) (by omega) (by omega) (by omega)), hT.fr (g 86 (by omega) (by omega) (by omega) (by omega) (by omega) (by omega) (by omega)) (g 87 (by omega) (by omega) (by omega) (by omega) (by omega) (by omega) (by omega)), hG.fr ⟨f2 10 (by omega), f2 12 (by omega)⟩ (fun a h1 h2 => g a (by omega) (by omega) (by omega) (by omega) (by omega) (by omega) (by omega)), encM_fr hN5 hR (fun j h1 h2 => f3 j (by omega)), hK.fr hN5 (g 99 (by omega) (by omega) (by omega) (by omega) (by omega) (by omega) (by omega)) (fun j h1 h2 => f3 j (by omega))⟩
theorem zFw.zfM (h : zFw m m') : zfM k m k m' := zfM.of fun a ha => h.1 a (by omega) (by omega) (by omega) (by omega) (by omega) (by omega) (by omega)
theorem MS.frX (hN5 : hN (sH s) ≤ 5) (h : MS s k m) (hf : zfX k m k' m') : MS s k' m' := by
  obtain ⟨hA, hW, hT, hG, hR, hK⟩ := h
  obtain ⟨f1, f2, f3, -⟩ := hf
  obtain ⟨a1, a2, a3, a4, a5, a6⟩ := hA
  have hA' : MA (sA s) k' m' := ⟨by rw [f1 81 (by omega)]; exact a1, by rw [f1 81 (by omega)]; exact a2, by rw [f1 81 (by omega)]; exact a3, by rw [f3 2 (by omega)]; exact a4, by rw [f3 3 (by omega)]; exact a5, fun f hf => by rw [f1 82 (by omega)]; exact a6 f hf⟩
  exact ⟨hA', hW.fr (f1 83 (by omega)) (f1 84 (by omega)), hT.fr (f1 86 (by omega)) (f1 87 (by omega)), hG.fr ⟨by rw [f1 81 (by omega)], by rw [f1 81 (by omega)]⟩ (fun a h1 h2 => f1 a (by omega)), encM_fr hN5 hR (fun j h1 h2 => by rw [f1 100 (by omega)]), hK.fr hN5 (f1 99 (by omega)) (fun j h1 h2 => by rw [f1 100 (by omega)])⟩
theorem XS.frM (h : XS s k m) (hf : zfM k m k' m') : XS s k' m' := by
  obtain ⟨hA, hW, hT, hG, hR, hK, hC⟩ := h
  obtain ⟨f1, f2, f3, f4, f5⟩ := hf
  obtain ⟨a1, a2, a3, a4, a5, a6⟩ := hA
  have hA' : XA (sA s) k' m' := ⟨by rw [f1 2 (by omega)]; exact a1, by rw [f1 2 (by omega)]; exact a2, by rw [f1 2 (by omega)]; exact a3, by rw [f3]; exact a4, by rw [f4]; exact a5, fun f hf => by rw [f1 34 (by omega)]; exact a6 f hf⟩
  have hg := hG.1
  have hG' : XG (sH s) (sB s) (sD s) k m' := hG.fr fun a h1 h2 => f1 a (by omega)
  have hG2 : XG (sH s) (sB s) (sD s) k' m' := by
    unfold XG kC kD
    rw [f5]
    exact hG'
  exact ⟨hA', hW.fr fun a h1 h2 => f1 a (by omega), hT.fr fun a h1 h2 => f1 a (by omega), hG2, encX_cg hR fun a h1 h2 => f1 a (by omega), hK.fr fun a h1 h2 => f1 a (by omega), fun x hx => by rw [f1 35 (by omega)]; exact hC x hx⟩
/-! findings, what is asked -/
def sFd (f : Nat) (s : zSt) : zSt := ((sLw s, s.1.2.1, nI f, s.1.2.2.2.1, s.1.2.2.2.2.1, upd s.1.2.2.2.2.2 f (s.1.2.2.2.2.2 f + 1)), s.2)
def sAk (v : Int32) (s : zSt) : zSt := ((sLw s, v, s.1.2.2), s.2)
theorem okS_fd {f : Nat} (h : okS s) : okS (sFd f s) := h
theorem okS_ak {v : Int32} (h : okS s) : okS (sAk v s) := h
theorem X_found {f : Nat} (hf : f < 6) (h : XS s k m) : ∃ m', dn_X4_found 2 (nI f) (Z k m) = some (-3, Z k m') ∧ XS (sFd f s) k m' ∧ zfX k m k m' := by
  obtain ⟨⟨a1, a2, a3, a4, a5, a6⟩, hW, hT, hG, hR, hK, hC⟩ := h
  have hg := hG.1
  have e34 : mu m 2 11 (nI f) 34 f = m 34 f := by rw [mu_a _ _ _ _ (by omega)]
  refine ⟨mu (mu m 2 11 (nI f)) 34 f (m 34 f + 1), ?_, ⟨⟨?_, ?_, ?_, a4, a5, fun f' hf' => ?_⟩, hW.fr fun a h1 h2 => ?_, hT.fr fun a h1 h2 => ?_, hG.fr fun a h1 h2 => ?_, encX_cg hR fun a h1 h2 => ?_, hK.fr fun a h1 h2 => ?_, fun x hx => ?_⟩, zfX.of fun a ha => ?_⟩
  · unfold dn_X4_found
    rw [ZO_4 s2, Option.bind_some, ZP_4_11 s2, Option.bind_some, ZA_4_12 s2, Option.bind_some, Ml_34 hf, Option.bind_some, e34, Ms_34 hf, Option.bind_some]
  · rw [mu_a _ _ _ _ (by omega), mu_j _ _ (by omega)]; exact a1
  · rw [mu_a _ _ _ _ (by omega), mu_j _ _ (by omega)]; exact a2
  · rw [mu_a _ _ _ _ (by omega), mu_s]; rfl
  · show _ = upd s.1.2.2.2.2.2 f (s.1.2.2.2.2.2 f + 1) f'
    by_cases he : f' = f
    · subst he
      rw [mu_s, a6 f' hf]; simp [upd]
    · rw [mu_j _ _ he, mu_a _ _ _ _ (by omega), a6 f' hf']; simp [upd, he]
  · rw [mu_ar _ _ _ (by omega), mu_ar _ _ _ (by omega)]
  · rw [mu_ar _ _ _ (by omega), mu_ar _ _ _ (by omega)]
  · rw [mu_ar _ _ _ (by omega), mu_ar _ _ _ (by omega)]
  · rw [mu_ar _ _ _ (by omega), mu_ar _ _ _ (by omega)]
  · rw [mu_ar _ _ _ (by omega), mu_ar _ _ _ (by omega)]
  · rw [mu_ar _ _ _ (by omega), mu_ar _ _ _ (by omega)]; exact hC x hx
  · rw [mu_ar _ _ _ (by omega), mu_ar _ _ _ (by omega)]
theorem M_meets {f : Nat} (hf : f < 6) (hN5 : hN (sH s) ≤ 5) (h : MS s k m) : ∃ m', dn_X5_meets 81 (nI f) (Z k m) = some (-3, Z k m') ∧ MS (sFd f s) k m' ∧ zfM k m k m' := by
  obtain ⟨⟨a1, a2, a3, a4, a5, a6⟩, hW, hT, hG, hR, hK⟩ := h
  have e34 : mu m 81 0 (nI f) 82 f = m 82 f := by rw [mu_a _ _ _ _ (by omega)]
  refine ⟨mu (mu m 81 0 (nI f)) 82 f (m 82 f + 1), ?_, ⟨⟨?_, ?_, ?_, a4, a5, fun f' hf' => ?_⟩, hW.fr ?_ ?_, hT.fr ?_ ?_, hG.fr ⟨?_, ?_⟩ fun a h1 h2 => ?_, encM_fr hN5 hR fun a h1 h2 => ?_, hK.fr hN5 ?_ fun a h1 h2 => ?_⟩, zfM.of fun a ha => ?_⟩
  · unfold dn_X5_meets
    rw [ZO_5 s81, Option.bind_some, ZP_5_0 s81, Option.bind_some, ZA_5_1 s81, Option.bind_some, Ml_82 hf, Option.bind_some, e34, Ms_82 hf, Option.bind_some]
  · rw [mu_a _ _ _ _ (by omega), mu_j _ _ (by omega)]; exact a1
  · rw [mu_a _ _ _ _ (by omega), mu_j _ _ (by omega)]; exact a2
  · rw [mu_a _ _ _ _ (by omega), mu_s]; rfl
  · show _ = upd s.1.2.2.2.2.2 f (s.1.2.2.2.2.2 f + 1) f'
    by_cases he : f' = f
    · subst he
      rw [mu_s, a6 f' hf]; simp [upd]
    · rw [mu_j _ _ he, mu_a _ _ _ _ (by omega), a6 f' hf']; simp [upd, he]
  · rw [mu_ar _ _ _ (by omega), mu_ar _ _ _ (by omega)]
  · rw [mu_ar _ _ _ (by omega), mu_ar _ _ _ (by omega)]
  · rw [mu_ar _ _ _ (by omega), mu_ar _ _ _ (by omega)]
  · rw [mu_ar _ _ _ (by omega), mu_ar _ _ _ (by omega)]
  · rw [mu_a _ _ _ _ (by omega), mu_j _ _ (by omega)]
  · rw [mu_a _ _ _ _ (by omega), mu_j _ _ (by omega)]
  · rw [mu_ar _ _ _ (by omega), mu_ar _ _ _ (by omega)]
  · rw [mu_ar _ _ _ (by omega), mu_ar _ _ _ (by omega)]
  · rw [mu_ar _ _ _ (by omega), mu_ar _ _ _ (by omega)]
  · rw [mu_ar _ _ _ (by omega), mu_ar _ _ _ (by omega)]
  · rw [mu_ar _ _ _ (by omega), mu_ar _ _ _ (by omega)]
theorem XS.ak (v : Int32) (h : XS s k m) : XS (sAk v s) k (mu m 2 8 v) ∧ zfX k m k (mu m 2 8 v) := by
  obtain ⟨⟨a1, a2, a3, a4, a5, a6⟩, hW, hT, hG, hR, hK, hC⟩ := h
  have hg := hG.1
  refine ⟨⟨⟨?_, ?_, ?_, a4, a5, fun f' hf' => ?_⟩, hW.fr fun a h1 h2 => ?_, hT.fr fun a h1 h2 => ?_, hG.fr fun a h1 h2 => ?_, encX_cg hR fun a h1 h2 => ?_, hK.fr fun a h1 h2 => ?_, fun x hx => ?_⟩, zfX.of fun a ha => ?_⟩
  · rw [mu_j _ _ (by omega)]; exact a1
  · rw [mu_s]; rfl
  · rw [mu_j _ _ (by omega)]; exact a3
  · rw [mu_a _ _ _ _ (by omega)]; exact a6 f' hf'
  · rw [mu_ar _ _ _ (by omega)]
  · rw [mu_ar _ _ _ (by omega)]
  · rw [mu_ar _ _ _ (by omega)]
  · rw [mu_ar _ _ _ (by omega)]
  · rw [mu_ar _ _ _ (by omega)]
  · rw [mu_ar _ _ _ (by omega)]; exact hC x hx
  · rw [mu_ar _ _ _ (by omega)]
theorem M_tells {v a : Int32} (hN5 : hN (sH s) ≤ 5) (h : MS s k m) : ∃ m', dn_X5_tells 81 v a (Z k m) = some (a, Z k m') ∧ MS (sAk v s) k m' ∧ zfM k m k m' := by
  obtain ⟨⟨a1, a2, a3, a4, a5, a6⟩, hW, hT, hG, hR, hK⟩ := h
  refine ⟨mu m 81 2 v, ?_, ⟨⟨?_, ?_, ?_, a4, a5, fun f' hf' => ?_⟩, hW.fr ?_ ?_, hT.fr ?_ ?_, hG.fr ⟨?_, ?_⟩ fun a h1 h2 => ?_, encM_fr hN5 hR fun a h1 h2 => ?_, hK.fr hN5 ?_ fun a h1 h2 => ?_⟩, zfM.of fun a ha => ?_⟩
  · unfold dn_X5_tells
    rw [ZO_5 s81, Option.bind_some, ZP_5_2 s81, Option.bind_some]
  · rw [mu_j _ _ (by omega)]; exact a1
  · rw [mu_s]; rfl
  · rw [mu_j _ _ (by omega)]; exact a3
  · rw [mu_a _ _ _ _ (by omega)]; exact a6 f' hf'
  · rw [mu_ar _ _ _ (by omega)]
  · rw [mu_ar _ _ _ (by omega)]
  · rw [mu_ar _ _ _ (by omega)]
  · rw [mu_ar _ _ _ (by omega)]
  · rw [mu_j _ _ (by omega)]
  · rw [mu_j _ _ (by omega)]
  · rw [mu_ar _ _ _ (by omega)]
  · rw [mu_ar _ _ _ (by omega)]
  · rw [mu_ar _ _ _ (by omega)]
  · rw [mu_ar _ _ _ (by omega)]
  · rw [mu_ar _ _ _ (by omega)]
/-! numbers within -/
def ix (r : Int32) (n : Nat) : Option Nat := if 0 ≤ r.toInt ∧ r.toInt < n then some r.toInt.toNat else none
def ir (r : Int32) (lo hi : Nat) : Option Nat := if (lo : Int) ≤ r.toInt ∧ r.toInt ≤ hi then some r.toInt.toNat else none
theorem I32_iI (r : Int32) : r = iI r.toInt := by
  rw [← Int32.toInt_inj, iI_toInt (Int32.le_toInt r) (Int32.toInt_lt r)]
theorem ix_c (r : Int32) (n : Nat) (hn : n < 2 ^ 31) : (∃ j, j < n ∧ r = nI j ∧ ix r n = some j) ∨ (ix r n = none ∧ (r < 0 ∨ (¬ r < 0 ∧ ¬ r < nI n))) := by
  have b1 := Int32.le_toInt r
  have b2 := Int32.toInt_lt r
  unfold ix
  by_cases h : 0 ≤ r.toInt ∧ r.toInt < n
  · left
    refine ⟨r.toInt.toNat, by omega, ?_, if_pos h⟩
    rw [iI_nI, Int.toNat_of_nonneg h.1]
    exact I32_iI r
  · right
    refine ⟨if_neg h, ?_⟩
    by_cases h0 : r < 0
    · exact Or.inl h0
    · refine Or.inr ⟨h0, fun z => ?_⟩
      rw [I32_iI r, iI_nI, iI_lt b1 (by omega) (by omega) (by omega)] at z
      rw [I32_iI r, iL_0 b1 (by omega)] at h0
      omega
theorem ir_c (r : Int32) (lo hi : Nat) (hn : hi < 2 ^ 31) (hl : lo ≤ hi) : (∃ j, lo ≤ j ∧ j ≤ hi ∧ r = nI j ∧ ir r lo hi = some j) ∨ (ir r lo hi = none ∧ (r < nI lo ∨ (¬ r < nI lo ∧ nI hi < r))) := by
  have b1 := Int32.le_toInt r
  have b2 := Int32.toInt_lt r
  unfold ir
  by_cases h : (lo : Int) ≤ r.toInt ∧ r.toInt ≤ hi
  · left
    refine ⟨r.toInt.toNat, by omega, by omega, ?_, if_pos h⟩
    rw [iI_nI, Int.toNat_of_nonneg (by omega)]
    exact I32_iI r
  · right
    refine ⟨if_neg h, ?_⟩
    by_cases h0 : r < nI lo
    · exact Or.inl h0
    · refine Or.inr ⟨h0, ?_⟩
      rw [I32_iI r, iI_nI, iI_lt b1 (by omega) (by omega) (by omega)] at h0
      rw [I32_iI r, iI_nI, iI_lt (by omega) (by omega) b1 (by omega)]
      omega
theorem M_ix (r : Int32) (n : Nat) (hn : n < 2 ^ 31) (h : zAH) : dn_X5_in r 0 (nI n - 1) h = some (if (ix r n).isSome then 1 else 0, h) := by
  have b1 := Int32.le_toInt r
  have b2 := Int32.toInt_lt r
  have h9 := M_inI (a := r.toInt) (b := 0) (c := (n : Int) - 1) (h := h) b1 (by omega) (by omega) (by omega) (by omega) (by omega)
  rw [← I32_iI, ← iI_sub, ← iI_nI] at h9
  refine Eq.trans h9 ?_
  unfold ix
  by_cases hc : 0 ≤ r.toInt ∧ r.toInt < n
  · rw [if_pos ⟨hc.1, by omega⟩, if_pos hc]; rfl
  · rw [if_neg (fun z => hc ⟨z.1, by omega⟩), if_neg hc]; rfl
theorem M_ir (r : Int32) (lo hi : Nat) (hl : lo < 2 ^ 31) (hn : hi < 2 ^ 31) (h : zAH) : dn_X5_in r (nI lo) (nI hi) h = some (if (ir r lo hi).isSome then 1 else 0, h) := by
  have b1 := Int32.le_toInt r
  have b2 := Int32.toInt_lt r
  have h9 := M_inI (a := r.toInt) (b := lo) (c := hi) (h := h) b1 (by omega) (by omega) (by omega) (by omega) (by omega)
  rw [← I32_iI, ← iI_nI, ← iI_nI] at h9
  refine Eq.trans h9 ?_
  unfold ir
  by_cases hc : (lo : Int) ≤ r.toInt ∧ r.toInt ≤ hi
  · rw [if_pos hc, if_pos hc]; rfl
  · rw [if_neg hc, if_neg hc]; rfl
end
