/-! whole numbers in 32 bits -/
def iI (z : Int) : Int32 := Int32.ofInt z
theorem iI_nI (n : Nat) : nI n = iI (n : Int) := (Int32.ofInt_eq_ofNat (n := n)).symm
theorem iI_toInt {z : Int} (h1 : -2 ^ 31 ≤ z) (h2 : z < 2 ^ 31) : (iI z).toInt = z := Int32.toInt_ofInt_of_le h1 h2
theorem iI_lt {a b : Int} (a1 : -2 ^ 31 ≤ a) (a2 : a < 2 ^ 31) (b1 : -2 ^ 31 ≤ b) (b2 : b < 2 ^ 31) : iI a < iI b ↔ a < b := by
  rw [Int32.lt_iff_toInt_lt, iI_toInt a1 a2, iI_toInt b1 b2]
theorem iI_eq {a b : Int} (a1 : -2 ^ 31 ≤ a) (a2 : a < 2 ^ 31) (b1 : -2 ^ 31 ≤ b) (b2 : b < 2 ^ 31) : iI a = iI b ↔ a = b := by
  rw [← Int32.toInt_inj, iI_toInt a1 a2, iI_toInt b1 b2]
theorem iI_add (a b : Int) : iI a + iI b = iI (a + b) := (Int32.ofInt_add a b).symm
theorem iI_sub (a b : Int) : iI a - iI b = iI (a - b) := (Int32.ofInt_sub a b).symm
theorem iI_mul (a b : Int) : iI a * iI b = iI (a * b) := (Int32.ofInt_mul a b).symm
theorem iI_lit (n : Nat) : (OfNat.ofNat n : Int32) = iI (n : Int) := iI_nI n
theorem iI_m9 : (-9 : Int32) = iI (-9) := by decide
theorem iI_m1 : (-1 : Int32) = iI (-1) := by decide
theorem nI_ne9 {n : Nat} (h : n < 2 ^ 31) : ¬ nI n = (-9 : Int32) := by
  rw [iI_nI, iI_m9, iI_eq (by omega) (by omega) (by omega) (by omega)]
  omega
/-! a HILL, a RACE, as pure words: (yards, runners, slopes, kinds, plan sizes, plans); (steps, holder, passings, yards (not cut), breaths, most breaths, done in, carried, passed) -/
abbrev zHD : Type := Nat × Nat × (Nat → Int) × (Nat → Nat) × (Nat → Nat) × (Nat → Nat → Nat)
abbrev hY (H : zHD) : Nat := H.1
abbrev hN (H : zHD) : Nat := H.2.1
abbrev hS (H : zHD) : Nat → Int := H.2.2.1
abbrev hK (H : zHD) : Nat → Nat := H.2.2.2.1
abbrev hZ (H : zHD) : Nat → Nat := H.2.2.2.2.1
abbrev hP (H : zHD) : Nat → Nat → Nat := H.2.2.2.2.2
abbrev zRS : Type := Nat × Nat × Int32 × (Nat → Nat) × (Nat → Nat) × (Nat → Nat) × (Nat → Int32) × (Nat → Int32) × (Nat → Int32)
abbrev rSt (R : zRS) : Nat := R.1
abbrev rHd (R : zRS) : Nat := R.2.1
abbrev rPs (R : zRS) : Int32 := R.2.2.1
abbrev rYd (R : zRS) : Nat → Nat := R.2.2.2.1
abbrev rBr (R : zRS) : Nat → Nat := R.2.2.2.2.1
abbrev rMb (R : zRS) : Nat → Nat := R.2.2.2.2.2.1
abbrev rDn (R : zRS) : Nat → Int32 := R.2.2.2.2.2.2.1
abbrev rCr (R : zRS) : Nat → Int32 := R.2.2.2.2.2.2.2.1
abbrev rPb (R : zRS) : Nat → Int32 := R.2.2.2.2.2.2.2.2
def okH (H : zHD) : Prop := hY H ≤ 40 ∧ hN H ≤ 5 ∧ (∀ y, y < hY H → -1 ≤ hS H y ∧ hS H y ≤ 2) ∧ ∀ x, x < hN H → hK H x ≤ 5 ∧ 1 ≤ hZ H x ∧ hZ H x ≤ 8 ∧ ∀ i, i < hZ H x → hP H x i ≤ 3
/-- what holds of a RACE on a HILL -/
def okR (H : zHD) (R : zRS) : Prop := rSt R ≤ 60 ∧ (rHd R < hN H ∨ (hN H = 0 ∧ rHd R = 0)) ∧ ∀ x, x < hN H → (rDn R x = -9 ↔ rYd R x < hY H) ∧ (rDn R x = -9 ∨ ∃ d, d ≤ 60 ∧ rDn R x = nI d) ∧ rYd R x ≤ 44 ∧ rBr R x ≤ rMb R x ∧ 1 ≤ rMb R x ∧ rMb R x ≤ 10
def zgoat (k : Nat) : Prop := k = 1 ∨ k = 4
def zox (k : Nat) : Prop := k = 2 ∨ k = 5
/-- BREATH behind a PACE p, not cut -/
def bAf (H : zHD) (R : zRS) (x p : Nat) : Int :=
  if p = 0 then (rBr R x : Int) + (if hK H x = 4 then 3 else 2)
  else (rBr R x : Int) + (if p = 1 then 1 else if p = 2 then -1 else -3) - (if 0 < hS H (rYd R x) ∧ ¬ (hK H x = 1 ∨ hK H x = 4) then hS H (rYd R x) else 0) + (if hS H (rYd R x) < 0 ∧ 1 < p then 1 else 0) - (if rHd R = x ∧ ¬ (hK H x = 2 ∨ hK H x = 5) then 1 else 0)
def pcS (H : zHD) (R : zRS) (x : Nat) : Nat → Nat
  | 0 => 0
  | p + 1 => if bAf H R x (p + 1) < 0 then pcS H R x p else p + 1
/-- does the SACK go on -/
def mvS (dn : Nat → Int32) (lw x : Nat) (sl : Int) (hd : Nat) : Prop := dn hd = -9 ∧ (lw = 0 ∨ (lw = 1 ∧ hd = x) ∨ (lw = 2 ∧ sl ≤ 0))
noncomputable def ps1 (yd : Nat → Nat) (dn : Nat → Int32) (lw x : Nat) (sl : Int) (y o : Nat) (t : Int32 × Int32 × Nat) : Int32 × Int32 × Nat := by
  classical exact if yd o = y ∧ o ≠ x ∧ dn o = -9 then (t.1 + 1, t.2.1 ||| (1 <<< (nI o &&& 31)), if mvS dn lw x sl t.2.2 then o else t.2.2) else t
noncomputable def psO (yd : Nat → Nat) (dn : Nat → Int32) (lw x : Nat) (sl : Int) (y : Nat) : Nat → Int32 × Int32 × Nat → Int32 × Int32 × Nat
  | 0, t => t
  | n + 1, t => ps1 yd dn lw x sl y n (psO yd dn lw x sl y n t)
noncomputable def psY (yd : Nat → Nat) (dn : Nat → Int32) (lw x : Nat) (sl : Int) (N fr : Nat) : Nat → Int32 × Int32 × Nat → Int32 × Int32 × Nat
  | 0, t => t
  | c + 1, t => psO yd dn lw x sl (fr + c) N (psY yd dn lw x sl N fr c t)
def paceS (H : zHD) (R : zRS) (x w : Nat) : Nat := pcS H R x (if hK H x = 5 ∧ w = 3 then 2 else w)
def farS (H : zHD) (R : zRS) (x w : Nat) : Nat := if hK H x = 3 ∧ paceS H R x w = 3 then 4 else paceS H R x w
noncomputable def passS (H : zHD) (lw : Nat) (R : zRS) (x w : Nat) : Int32 × Int32 × Nat := psY (rYd R) (rDn R) lw x (hS H (rYd R x)) (hN H) (rYd R x) (farS H R x w) (rPs R, rPb R x, rHd R)
/-- a RUNNER goes -/
noncomputable def goS (H : zHD) (lw : Nat) (R : zRS) (x w : Nat) : zRS :=
  (rSt R, (passS H lw R x w).2.2, (passS H lw R x w).1, va_up (rYd R) x (rYd R x + farS H R x w), va_up (rBr R) x (min (rMb R x) (bAf H R x (paceS H R x w)).toNat), rMb R,
   va_up (rDn R) x (if rYd R x + farS H R x w < hY H then -9 else nI (rSt R)), va_up (rCr R) x (if rHd R = x then rCr R x + nI (min (rYd R x + farS H R x w) (hY H) - rYd R x) else rCr R x), va_up (rPb R) x (passS H lw R x w).2.1)
noncomputable def stL (H : zHD) (lw : Nat) (wf : Nat → Nat) : Nat → zRS → zRS
  | 0, R => R
  | n + 1, R => if rDn (stL H lw wf n R) n = -9 then goS H lw (stL H lw wf n R) n (wf n) else stL H lw wf n R
noncomputable def stepS (H : zHD) (lw : Nat) (wf : Nat → Nat) (R : zRS) : zRS := (rSt (stL H lw wf (hN H) R) + 1, (stL H lw wf (hN H) R).2)
def cntD (R : zRS) : Nat → Nat
  | 0 => 0
  | n + 1 => cntD R n + (if rDn R n = -9 then 0 else 1)
def ovS (H : zHD) (R : zRS) : Prop := 60 ≤ rSt R ∨ cntD R (hN H) = hN H
/-! how the class holds them, and the reference -/
def encH (c : Nat) (H : zHD) (m : Nat → Nat → Int32) : Prop := shp c = 2 ∧ m c 0 = nI (hY H) ∧ m c 2 = nI (hN H) ∧ (∀ y, y < hY H → m (c + 1) y = iI (hS H y)) ∧ ∀ x, x < hN H → m (c + 2) x = nI (hK H x) ∧ m (c + 5) x = nI (hZ H x) ∧ ∀ i, i < hZ H x → m (c + 6) (8 * x + i) = nI (hP H x i)
def encX (a : Nat) (H : zHD) (R : zRS) (m : Nat → Nat → Int32) : Prop := shp a = 1 ∧ m a 0 = nI (hN H) ∧ m a 1 = nI (rSt R) ∧ m a 2 = nI (cntD R (hN H)) ∧ m a 3 = nI (rHd R) ∧ m a 4 = rPs R ∧
  ∀ x, x < hN H → m (a + 1) x = nI (min (rYd R x) (hY H)) ∧ m (a + 2) x = nI (rBr R x) ∧ m (a + 3) x = nI (rMb R x) ∧ m (a + 4) x = rDn R x ∧ m (a + 5) x = rCr R x ∧ m (a + 6) x = rPb R x
theorem shp_1 : ∀ a, a < 104 → shp a = 1 → shp (a + 1) = 6 ∧ shp (a + 2) = 6 ∧ shp (a + 3) = 6 ∧ shp (a + 4) = 6 ∧ shp (a + 5) = 6 ∧ shp (a + 6) = 6 := by decide +kernel
theorem shp_2 : ∀ a, a < 104 → shp a = 2 → shp (a + 1) = 7 ∧ shp (a + 2) = 6 ∧ shp (a + 3) = 6 ∧ shp (a + 4) = 6 ∧ shp (a + 5) = 6 ∧ shp (a + 6) = 7 := by decide +kernel
theorem shp_12 : ∀ a, a < 104 → ∀ c, c < 104 → shp a = 1 → shp c = 2 → c + 6 < a ∨ a + 6 < c := by decide +kernel
theorem Zl5 {k : zK} {m : Nat → Nat → Int32} {a j : Nat} (h : shp a = 6) (hj : j < 5) : zaI 0 a (nI j) (Z k m) = some (m a j) := Zld j (by omega) (by omega) (by rw [h]; rfl) (by rw [h]; exact hj)
theorem Zs5 {k : zK} {m : Nat → Nat → Int32} {a j : Nat} {x : Int32} (h : shp a = 6) (hj : j < 5) : zaS 0 a (nI j) x (Z k m) = some (Z k (mu m a j x)) := Zst j (by omega) (by omega) (by rw [h]; rfl) (by rw [h]; exact hj)
theorem Zl40 {k : zK} {m : Nat → Nat → Int32} {a j : Nat} (h : shp a = 7) (hj : j < 40) : zaI 0 a (nI j) (Z k m) = some (m a j) := Zld j (by omega) (by omega) (by rw [h]; rfl) (by rw [h]; exact hj)
theorem Zs40 {k : zK} {m : Nat → Nat → Int32} {a j : Nat} {x : Int32} (h : shp a = 7) (hj : j < 40) : zaS 0 a (nI j) x (Z k m) = some (Z k (mu m a j x)) := Zst j (by omega) (by omega) (by rw [h]; rfl) (by rw [h]; exact hj)
