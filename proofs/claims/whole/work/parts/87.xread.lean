/-! how the class reads -/
def kw (k : zK) (A : Nat) (fs : List Value) : zK := (k.1, k.2.1, k.2.2.1, k.2.2.2.1, va_up k.2.2.2.2.1 A (some (.inr (.inr (2, fs)))), k.2.2.2.2.2)
def kb (k : zK) : zK := (k.1, k.2.1, k.2.2.1, k.2.2.2.1, k.2.2.2.2.1, kN k + 1, kS k + 3)
def kr (k : zK) (A b d p : Nat) : zK := kw k A [.ref b, .ref d, .int (nI p)]
def slX : Option Int → Int32
  | none => -1000
  | some z => iI z
def nkX : Option Nat → Int32
  | none => -1000
  | some z => nI z
def sgX (f : Nat → Int32) (n i : Nat) : Int32 := if i < n then f i else -1000
def tX (b n : Nat) (f : Nat → Int32) (m : Nat → Nat → Int32) : Prop := shp b = 3 ∧ shp (b + 1) = 9 ∧ m b 1 = nI n ∧ ∀ i, i < n → m (b + 1) i = f i
section
variable {k k' : zK} {m m' : Nat → Nat → Int32} {s : zSt} {f : Nat → Int32} {n A b d p : Nat} {fs : List Value}
theorem Ec_kw (hA : 104 ≤ A) : Ec (kw k A fs) m A = some (.inr (.inr (2, fs))) := by
  unfold Ec
  rw [shp_big hA]
  show va_up k.2.2.2.2.1 A _ A = _
  rw [va_up, if_pos rfl]
theorem Ec_kn2 {a : Nat} (h : a ≠ A) : Ec (kw k A fs) m a = Ec k m a := by
  unfold Ec
  split <;> first | rfl | (show va_up k.2.2.2.2.1 A _ a = _; rw [va_up, if_neg h])
theorem kw_O (hA : 104 ≤ A) : zgO 2 A (Z (kw k A fs) m) = some fs := by
  unfold zgO
  rw [show (Z (kw k A fs) m).1 A = _ from Ec_kw hA]
  rfl
theorem kw_P {j : Nat} {v : Value} (hA : 104 ≤ A) (hj : j < fs.length) : zpF 2 j A v (Z (kw k A fs) m) = some (Z (kw k A (fs.set j v)) m) := by
  unfold zpF
  rw [if_neg (by omega), kw_O hA, Option.bind_some, if_pos hj]
  refine congrArg some ?_
  show (va_up (Ec (kw k A fs) m) A (some _), _) = (Ec (kw k A (fs.set j v)) m, _)
  refine Prod.ext ?_ rfl
  dsimp only
  funext a
  by_cases ha : a = A
  · subst ha
    rw [va_up, if_pos rfl, Ec_kw hA]
  · rw [va_up, if_neg ha, Ec_kn2 ha, Ec_kn2 ha]
theorem kw_new (h : 102 ≤ kN k) : znO 2 zdf_2 (Z k m) = Z (kw (kb k) (kN k + 2) zdf_2) m := by
  show (va_up (Ec k m) (kN k + 2) (some (.inr (.inr (2, zdf_2)))), _) = (Ec (kw (kb k) (kN k + 2) zdf_2) m, _)
  refine Prod.ext ?_ rfl
  dsimp only
  funext a
  by_cases ha : a = kN k + 2
  · subst ha
    rw [va_up, if_pos rfl, Ec_kw (by omega)]
  · rw [va_up, if_neg ha, Ec_kn2 ha]
    unfold Ec
    rfl
theorem KO (hA : 104 ≤ A) : zgO 2 A (Z (kr k A b d p) m) = some [.ref b, .ref d, .int (nI p)] := kw_O hA
theorem KA0 (hA : 104 ≤ A) : zgA 2 0 A (Z (kr k A b d p) m) = some b := by unfold zgA; rw [KO hA]; rfl
theorem KA1 (hA : 104 ≤ A) : zgA 2 1 A (Z (kr k A b d p) m) = some d := by unfold zgA; rw [KO hA]; rfl
theorem KI2 (hA : 104 ≤ A) : zgI 2 2 A (Z (kr k A b d p) m) = some (nI p) := by unfold zgI; rw [KO hA]; rfl
theorem KP2 {q : Nat} (hA : 104 ≤ A) : zpF 2 2 A (.int (nI q)) (Z (kr k A b d p) m) = some (Z (kr k A b d q) m) := kw_P hA (show 2 < 3 by omega)
theorem ix_nI {i : Nat} (hi : i < 2 ^ 31) (hn : n < 2 ^ 31) : (ix (nI i) n).isSome = true ↔ i < n := by
  rcases ix_c (nI i) n hn with ⟨j, h1, h2, h3⟩ | ⟨h1, h2⟩
  · rw [h3]
    have := (nI_eq hi (by omega)).mp h2
    exact ⟨fun _ => by omega, fun _ => rfl⟩
  · rw [h1]
    refine ⟨fun z => absurd z (by decide), fun z => ?_⟩
    rcases h2 with h2 | ⟨-, h2⟩
    · exact absurd h2 (nIn0 hi)
    · exact absurd (nI_lt z hn) h2
theorem X_sign (hA : 104 ≤ A) (hT : tX b n f m) (hn : n ≤ 100) (hp : p < 2 ^ 31) : dn_X2_sign A (Z (kr k A b d p) m) = some (sgX f n p, Z (kr k A b d p) m) := by
  obtain ⟨t1, t2, t3, t4⟩ := hT
  unfold dn_X2_sign jn_X2_sign_32
  rw [KO hA, Option.bind_some, KA0 hA, Option.bind_some, KI2 hA, Option.bind_some, X_has t1 t3 hn, zbd_s]
  unfold sgX
  by_cases h : p < n
  · rw [if_pos ((ix_nI hp (by omega)).mpr h), ifb1, if_pos h, KA0 hA, Option.bind_some, ZA_3_0 t1, Option.bind_some, KI2 hA, Option.bind_some, Zld p (by omega) (by omega) (by rw [t2]; rfl) (by rw [t2]; show p < 100; omega), Option.bind_some, t4 p h]
  · rw [if_neg (fun z => h ((ix_nI hp (by omega)).mp z)), ifb0, if_neg h]
theorem X_skip (hA : 104 ≤ A) (hT : tX b n f m) (hn : n ≤ 100) (hp : p ≤ 1000) : dn_X2_skipBlanks A (Z (kr k A b d p) m) = some ((), Z (kr k A b d (skp f n p)) m) := by
  have hle := rnL_le (g := gB f n) 101 p
  have ht := rnL_t (g := gB f n) 101 p
  have hed := skp_ed (f := f) (p := p) hn
  unfold skp at hed ⊢
  generalize rnL (gB f n) 101 p = N at hle ht hed ⊢
  unfold dn_X2_skipBlanks lp_X2_skipBlanks_0
  rw [KO hA, Option.bind_some]
  refine lp_fn (N := N) (fun _ => ()) (fun i => Z (kr k A b d (p + i)) m) (fun i hi rec => ?_) (fun rec => ?_) (by omega)
  · obtain ⟨g1, g2⟩ := gB_t.mp (ht i hi)
    unfold lb_X2_skipBlanks_0
    rw [KI2 hA, Option.bind_some, KA0 hA, Option.bind_some, ZI_3_1 hT.1, Option.bind_some, hT.2.2.1, ifLt g1 (by omega), X_sign hA hT hn (by omega), zbd_s, show sgX f n (p + i) = 32 by unfold sgX; rw [if_pos g1]; exact g2, if_pos rfl, KI2 hA, Option.bind_some, nA_1, KP2 hA, Option.bind_some]
    rfl
  · unfold lb_X2_skipBlanks_0 jn_X2_skipBlanks_36
    rw [KI2 hA, Option.bind_some, KA0 hA, Option.bind_some, ZI_3_1 hT.1, Option.bind_some, hT.2.2.1]
    by_cases h : p + N < n
    · rw [ifLt h (by omega), X_sign hA hT hn (by omega), zbd_s, if_neg]
      unfold sgX
      rw [if_pos h]
      exact fun z => hed ⟨h, z⟩
    · rw [ifLf (by omega) (by omega)]
theorem X_sl (v : Int32) (h : zAH) : dn_X2_slopeOf v h = some (slX (slO v), h) := by
  unfold dn_X2_slopeOf
  by_cases h1 : v = 47
  · subst h1; rw [if_pos rfl]; rfl
  rw [if_neg h1]
  by_cases h2 : v = 61
  · subst h2; rw [if_pos rfl]; rfl
  rw [if_neg h2]
  by_cases h3 : v = 92
  · subst h3; rw [if_pos rfl]; rfl
  rw [if_neg h3]
  by_cases h4 : v = 94
  · subst h4; rw [if_pos rfl]; rfl
  rw [if_neg h4]
  unfold slO
  rw [if_neg h2, if_neg h1, if_neg h4, if_neg h3]
  rfl
theorem X_pc (v : Int32) (h : zAH) : dn_X2_paceOf v h = some (nkX (pcO v), h) := by
  unfold dn_X2_paceOf jn_X2_paceOf_60
  by_cases h1 : v = 114
  · subst h1; rw [if_pos rfl]; rfl
  rw [if_neg h1]
  by_cases h2 : v = 115
  · subst h2; rw [if_pos rfl]; rfl
  rw [if_neg h2]
  by_cases h3 : v = 119
  · subst h3; rw [if_pos rfl]; rfl
  rw [if_neg h3]
  by_cases h4 : v = 122
  · subst h4; rw [if_pos rfl]; rfl
  rw [if_neg h4]
  unfold pcO
  rw [if_neg h4, if_neg h3, if_neg h1, if_neg h2]
  rfl
theorem X_kd (v : Int32) (h : zAH) : dn_X2_kindOf v h = some (nkX (kdO v), h) := by
  unfold dn_X2_kindOf jn_X2_kindOf_88
  rcases kd_cs v with ⟨rfl, e⟩ | ⟨rfl, e⟩ | ⟨rfl, e⟩ | ⟨rfl, e⟩ | ⟨rfl, e⟩ | ⟨rfl, e⟩ | ⟨h1, h2, h3, h4, h5, h6, e⟩
  · rw [e, if_pos rfl]; rfl
  · rw [e, if_neg (by decide), if_pos rfl]; rfl
  · rw [e, if_neg (by decide), if_neg (by decide), if_pos rfl]; rfl
  · rw [e, if_neg (by decide), if_neg (by decide), if_neg (by decide), if_pos rfl]; rfl
  · rw [e, if_neg (by decide), if_neg (by decide), if_neg (by decide), if_neg (by decide), if_pos rfl]; rfl
  · rw [e, if_neg (by decide), if_neg (by decide), if_neg (by decide), if_neg (by decide), if_neg (by decide), if_pos rfl]; rfl
  · rw [e, if_neg h1, if_neg h2, if_neg h3, if_neg h4, if_neg h5, if_neg h6]; rfl
theorem sg_rd {α : Type} {O : Int32 → Option α} (h0 : O (-1000) = none) (i : Nat) : O (sgX f n i) = rd f n O i := by
  unfold sgX rd
  by_cases h : i < n
  · rw [if_pos h, if_pos h]
  · rw [if_neg h, if_neg h, h0]
theorem sg_sl (i : Nat) : slO (sgX f n i) = rd f n slO i := sg_rd (by decide) i
theorem sg_pc (i : Nat) : pcO (sgX f n i) = rd f n pcO i := sg_rd (by decide) i
theorem sg_kd (i : Nat) : kdO (sgX f n i) = rd f n kdO i := sg_rd (by decide) i
theorem sg_bd (i : Nat) : bdO (sgX f n i) = rd f n bdO i := sg_rd (by decide) i
theorem iI_m1000 : (-1000 : Int32) = iI (-1000) := by decide
theorem slX_ne {o : Option Int} {v : Int32} (h : o = slO v) (h' : o.isSome = true) : ¬ slX o = -1000 := by
  cases o with
  | none => cases h'
  | some z =>
    have := slO_r h.symm
    show ¬ iI z = -1000
    rw [iI_m1000, iI_eq (by omega) (by omega) (by omega) (by omega)]
    omega
theorem nkX_ne {z : Nat} (h : z ≤ 100) : ¬ nkX (some z) = -1000 := by
  show ¬ nI z = -1000
  rw [iI_nI, iI_m1000, iI_eq (by omega) (by omega) (by omega) (by omega)]
  omega
theorem slX_g {o : Option Int} (h : o.isSome = true) : slX o = iI (o.getD 0) := by
  cases o with
  | none => cases h
  | some z => rfl
theorem tX.fr (h : tX b n f m) (h1 : m' b = m b) (h2 : m' (b + 1) = m (b + 1)) : tX b n f m' := by
  unfold tX
  rw [h1, h2]
  exact h
theorem X_readYards (hA : 104 ≤ A) (hT : tX b n f m) (hn : n ≤ 100) (hd : shp d = 2) (hbd : b + 1 < d ∨ d + 6 < b) (hp : p ≤ 1000) (e0 : m d 0 = 0) : ∃ m', dn_X2_readYards A (Z (kr k A b d p) m) = some (if rnL (gS f n) 40 p = 0 ∨ gS f n (p + rnL (gS f n) 40 p) = true then 0 else 1, Z (kr k A b d (p + rnL (gS f n) 40 p)) m') ∧ m' d 0 = nI (rnL (gS f n) 40 p) ∧ (∀ y, y < rnL (gS f n) 40 p → m' (d + 1) y = iI ((rd f n slO (p + y)).getD 0)) ∧ (∀ j, j ≠ 0 → m' d j = m d j) ∧ ∀ a, a ≠ d → a ≠ d + 1 → m' a = m a := by
  have s7 := shp_2 _ (shp_le (by omega)) hd
  have hY := rnL_le (g := gS f n) 40 p
  have hYt := rnL_t (g := gS f n) 40 p
  have hYf := rnL_f (g := gS f n) 40 p
  unfold dn_X2_readYards lp_X2_readYards_8
  rw [KO hA, Option.bind_some, X_sign hA hT hn (by omega), zbd_s, X_sl, zbd_s, sg_sl]
  generalize rnL (gS f n) 40 p = Y at hY hYt hYf ⊢
  refine lp_inv (N := Y) (I := fun y st h => st = slX (rd f n slO (p + y)) ∧ ∃ m', h = Z (kr k A b d (p + y)) m' ∧ m' d 0 = nI y ∧ (∀ i, i < y → m' (d + 1) i = iI ((rd f n slO (p + i)).getD 0)) ∧ (∀ j, j ≠ 0 → m' d j = m d j) ∧ ∀ a, a ≠ d → a ≠ d + 1 → m' a = m a) (Q := fun r => ∃ m', r = some (if Y = 0 ∨ gS f n (p + Y) = true then 0 else 1, Z (kr k A b d (p + Y)) m') ∧ m' d 0 = nI Y ∧ (∀ y, y < Y → m' (d + 1) y = iI ((rd f n slO (p + y)).getD 0)) ∧ (∀ j, j ≠ 0 → m' d j = m d j) ∧ ∀ a, a ≠ d → a ≠ d + 1 → m' a = m a) ?_ ?_ Y 0 2000 _ _ (by omega) (by omega) ⟨rfl, m, rfl, e0, fun i hi => absurd hi (Nat.not_lt_zero i), fun _ _ => rfl, fun _ _ _ => rfl⟩
  · rintro y _ h hy ⟨rfl, m', rfl, q1, q2, q3, q4⟩
    left
    have hg : (rd f n slO (p + y)).isSome = true := hYt y hy
    have hlt := (rd_s hg).1
    have e1 : mu m' (d + 1) y (slX (rd f n slO (p + y))) d 0 = nI y := by rw [mu_a _ _ _ _ (by omega)]; exact q1
    generalize hm2 : mu (mu m' (d + 1) y (slX (rd f n slO (p + y)))) d 0 (nI (y + 1)) = m2
    have f1 : ∀ a, a ≠ d → a ≠ d + 1 → m2 a = m a := fun a h1 h2 => by rw [← hm2, mu_ar _ _ _ h1, mu_ar _ _ _ h2]; exact q4 a h1 h2
    have hT2 : tX b n f m2 := hT.fr (f1 b (by omega) (by omega)) (f1 (b + 1) (by omega) (by omega))
    refine ⟨slX (rd f n slO (p + (y + 1))), Z (kr k A b d (p + (y + 1))) m2, ⟨rfl, m2, rfl, ?_, fun i hi => ?_, fun j hj => ?_, f1⟩, fun rec => ?_⟩
    · rw [← hm2, mu_s]
    · rw [← hm2, mu_a _ _ _ _ (by omega)]
      by_cases hiy : i = y
      · subst hiy
        rw [mu_s, slX_g hg]
      · rw [mu_j _ _ hiy]
        exact q2 i (by omega)
    · rw [← hm2, mu_j _ _ hj, mu_a _ _ _ _ (by omega)]
      exact q3 j hj
    · unfold lb_X2_readYards_8
      rw [if_neg (slX_ne (v := f (p + y)) (rd_t hlt) hg), KA1 hA, Option.bind_some, ZI_0_0 hd, Option.bind_some, q1, it_40 (by omega), Option.bind_some, ZA_0_1 hd, Option.bind_some, Option.bind_some, ZI_0_0 hd, Option.bind_some, q1, Zs40 s7.1 (by omega), Option.bind_some, KA1 hA, Option.bind_some, ZI_0_0 hd, Option.bind_some, e1, nA_1, ZP_0_0 hd, Option.bind_some, hm2, KI2 hA, Option.bind_some, nA_1, KP2 hA, Option.bind_some, X_sign hA hT2 hn (by omega), zbd_s, X_sl, zbd_s, sg_sl, Nat.add_assoc p y 1]
  · rintro _ h ⟨rfl, m', rfl, q1, q2, q3, q4⟩ rec
    refine ⟨m', ?_, q1, q2, q3, q4⟩
    have hend : jn_X2_readYards_77 A (slX (rd f n slO (p + Y))) (Z (kr k A b d (p + Y)) m') = some (if Y = 0 ∨ gS f n (p + Y) = true then 0 else 1, Z (kr k A b d (p + Y)) m') := by
      unfold jn_X2_readYards_77 jn_X2_readYards_98 jn_X2_readYards_99 gS
      cases hg : rd f n slO (p + Y) with
      | none =>
        rw [if_pos (show slX none = -1000 from rfl), KA1 hA, Option.bind_some, ZI_0_0 hd, Option.bind_some, q1]
        by_cases h0 : Y = 0
        · rw [jf_0 (by omega), if_pos (Or.inl rfl), if_pos (Or.inl h0)]
        · rw [jt_0 (by omega) (by omega), if_pos (Or.inr rfl), if_neg (fun z => z.elim h0 (fun z => by cases z))]
      | some z =>
        rw [if_neg (slX_ne (v := f (p + Y)) (by rw [← hg]; exact (rd_t (rd_of hg).1)) rfl), if_pos (Or.inl rfl), if_pos (show Y = 0 ∨ (some z).isSome = true from Or.inr rfl)]
    unfold lb_X2_readYards_8
    by_cases hm : slX (rd f n slO (p + Y)) = -1000
    · rw [if_pos hm, hend]
    · rw [if_neg hm, KA1 hA, Option.bind_some, ZI_0_0 hd, Option.bind_some, q1, if_40 (fun h40 => hm (by
        have := hYf h40
        unfold gS at this
        rw [Option.not_isSome_iff_eq_none.mp (Bool.eq_false_iff.mp this)]
        rfl)) (by omega), hend]
theorem X_readPlan {x : Nat} (hA : 104 ≤ A) (hT : tX b n f m) (hn : n ≤ 100) (hd : shp d = 2) (hbd : b + 1 < d ∨ d + 6 < b) (hp : p ≤ 1000) (hx : x < 5) : ∃ m', dn_X2_readPlan A (nI x) (Z (kr k A b d p) m) = some (if rnL (gP f n) 8 p = 0 ∨ gP f n (p + rnL (gP f n) 8 p) = true then 0 else 1, Z (kr k A b d (p + rnL (gP f n) 8 p)) m') ∧ m' (d + 5) x = nI (rnL (gP f n) 8 p) ∧ (∀ i, i < rnL (gP f n) 8 p → m' (d + 6) (8 * x + i) = nI ((rd f n pcO (p + i)).getD 0)) ∧ (∀ j, j ≠ x → m' (d + 5) j = m (d + 5) j) ∧ (∀ j, j < 8 * x → m' (d + 6) j = m (d + 6) j) ∧ ∀ a, a ≠ d + 5 → a ≠ d + 6 → m' a = m a := by
  have s7 := shp_2 _ (shp_le (by omega)) hd
  have hC := rnL_le (g := gP f n) 8 p
  have hCt := rnL_t (g := gP f n) 8 p
  have hCf := rnL_f (g := gP f n) 8 p
  unfold dn_X2_readPlan lp_X2_readPlan_10
  rw [KO hA, Option.bind_some, X_sign hA hT hn (by omega), zbd_s, X_pc, zbd_s, sg_pc]
  generalize rnL (gP f n) 8 p = C at hC hCt hCf ⊢
  refine lp_inv (N := C) (I := fun i st h => st = (nI i, nkX (rd f n pcO (p + i))) ∧ ∃ m', h = Z (kr k A b d (p + i)) m' ∧ (∀ j, j < i → m' (d + 6) (8 * x + j) = nI ((rd f n pcO (p + j)).getD 0)) ∧ (∀ j, j < 8 * x → m' (d + 6) j = m (d + 6) j) ∧ ∀ a, a ≠ d + 6 → m' a = m a) (Q := fun r => ∃ m', r = some (if C = 0 ∨ gP f n (p + C) = true then 0 else 1, Z (kr k A b d (p + C)) m') ∧ m' (d + 5) x = nI C ∧ (∀ i, i < C → m' (d + 6) (8 * x + i) = nI ((rd f n pcO (p + i)).getD 0)) ∧ (∀ j, j ≠ x → m' (d + 5) j = m (d + 5) j) ∧ (∀ j, j < 8 * x → m' (d + 6) j = m (d + 6) j) ∧ ∀ a, a ≠ d + 5 → a ≠ d + 6 → m' a = m a) ?_ ?_ C 0 2000 _ _ (by omega) (by omega) ⟨rfl, m, rfl, fun i hi => absurd hi (Nat.not_lt_zero i), fun _ _ => rfl, fun _ _ => rfl⟩
  · rintro i _ h hi ⟨rfl, m', rfl, q1, q2, q3⟩
    left
    have hg : (rd f n pcO (p + i)).isSome = true := hCt i hi
    have hlt := (rd_s hg).1
    obtain ⟨z, hz⟩ := Option.isSome_iff_exists.mp hg
    have hz3 := pcO_r (rd_of hz).2
    generalize hm2 : mu m' (d + 6) (8 * x + i) (nI z) = m2
    have f1 : ∀ a, a ≠ d + 6 → m2 a = m a := fun a h1 => by rw [← hm2, mu_ar _ _ _ h1]; exact q3 a h1
    have hT2 : tX b n f m2 := hT.fr (f1 b (by omega)) (f1 (b + 1) (by omega))
    refine ⟨(nI (i + 1), nkX (rd f n pcO (p + (i + 1)))), Z (kr k A b d (p + (i + 1))) m2, ⟨rfl, m2, rfl, fun j hj => ?_, fun j hj => ?_, f1⟩, fun rec => ?_⟩
    · rw [← hm2]
      by_cases hji : j = i
      · subst hji
        rw [mu_s, hz]
        rfl
      · rw [mu_j _ _ (by omega)]
        exact q1 j (by omega)
    · rw [← hm2, mu_j _ _ (by omega)]
      exact q2 j hj
    · unfold lb_X2_readPlan_10
      dsimp only
      rw [hz, if_neg (nkX_ne (by omega)), it_8 (by omega), KA1 hA, Option.bind_some, ZA_0_7 hd, Option.bind_some, nM_8, nI_add, show nkX (some z) = nI z from rfl, Zs40 s7.2.2.2.2.2 (by omega), Option.bind_some, hm2, KI2 hA, Option.bind_some, nA_1, KP2 hA, Option.bind_some, X_sign hA hT2 hn (by omega), zbd_s, X_pc, zbd_s, sg_pc, nA_1, Nat.add_assoc p i 1]
  · rintro _ h ⟨rfl, m', rfl, q1, q2, q3⟩ rec
    refine ⟨mu m' (d + 5) x (nI C), ?_, mu_s _ _ _ _, fun i hi => by rw [mu_a _ _ _ _ (by omega)]; exact q1 i hi, fun j hj => by rw [mu_j _ _ hj, q3 _ (by omega)], fun j hj => by rw [mu_a _ _ _ _ (by omega)]; exact q2 j hj, fun a h1 h2 => by rw [mu_ar _ _ _ h1]; exact q3 a h2⟩
    have hend : jn_X2_readPlan_62 A (nI x) (nI C) (nkX (rd f n pcO (p + C))) (Z (kr k A b d (p + C)) m') = some (if C = 0 ∨ gP f n (p + C) = true then 0 else 1, Z (kr k A b d (p + C)) (mu m' (d + 5) x (nI C))) := by
      unfold jn_X2_readPlan_62 jn_X2_readPlan_87 jn_X2_readPlan_88 gP
      rw [KA1 hA, Option.bind_some, ZA_0_6 hd, Option.bind_some, Zs5 s7.2.2.2.2.1 (by omega), Option.bind_some]
      cases hg : rd f n pcO (p + C) with
      | none =>
        rw [if_pos (show nkX none = -1000 from rfl)]
        by_cases h0 : C = 0
        · rw [jf_0 (by omega), if_pos (Or.inl rfl), if_pos (Or.inl h0)]
        · rw [jt_0 (by omega) (by omega), if_pos (Or.inr rfl), if_neg (fun z => z.elim h0 (fun z => by cases z))]
      | some z =>
        have hz3 := pcO_r (rd_of hg).2
        rw [if_neg (nkX_ne (by omega)), if_pos (Or.inl rfl), if_pos (show C = 0 ∨ (some z).isSome = true from Or.inr rfl)]
    unfold lb_X2_readPlan_10
    dsimp only
    by_cases hm : nkX (rd f n pcO (p + C)) = -1000
    · rw [if_pos hm, hend]
    · rw [if_neg hm, if_8 (fun h8 => hm (by
        have := hCf h8
        unfold gP at this
        rw [Option.not_isSome_iff_eq_none.mp (Bool.eq_false_iff.mp this)]
        rfl)) (by omega), hend]
end
