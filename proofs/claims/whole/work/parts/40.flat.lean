/-! the flat memory -/
abbrev zK : Type := (Nat × (Nat → Int32)) × (Nat → Int64) × Nat × Nat × (Nat → Option zAC) × Nat × Nat
def shL : List Nat := [21, 22, 4, 18, 19, 2, 7, 6, 6, 6, 6, 7, 2, 7, 6, 6, 6, 6, 7, 1, 6, 6, 6, 6, 6, 6, 1, 6, 6, 6, 6, 6, 6, 20, 10, 6, 6, 6, 6, 11, 3, 8, 3, 8, 3, 8, 3, 8, 3, 8, 3, 8, 3, 9, 3, 9, 3, 9, 3, 9, 1, 6, 6, 6, 6, 6, 6, 1, 6, 6, 6, 6, 6, 6, 1, 6, 6, 6, 6, 6, 6, 5, 10, 10, 12, 8, 13, 14, 7, 6, 6, 6, 6, 7, 7, 6, 6, 6, 7, 15, 16, 6, 17, 11]
def shp (a : Nat) : Nat := shL.getD a 0
def zal (c : Nat) : Nat × Nat := (if c = 14 then 1 else if c = 15 then 2 else 0, [0, 0, 0, 0, 0, 0, 5, 40, 60, 100, 6, 256, 360, 4, 400, 4, 165, 20].getD c 0)
def Ec (k : zK) (m : Nat → Nat → Int32) (a : Nat) : Option zAC := match shp a with
  | 0 => k.2.2.2.2.1 a
  | 1 => some (.inr (.inr (1, [.int (m a 0), .int (m a 1), .int (m a 2), .int (m a 3), .int (m a 4), .int (m a 5), .ref (a + 1), .ref (a + 2), .ref (a + 3), .ref (a + 4), .ref (a + 5), .ref (a + 6)])))
  | 2 => some (.inr (.inr (0, [.int (m a 0), .ref (a + 1), .int (m a 2), .ref (a + 2), .ref (a + 3), .ref (a + 4), .ref (a + 5), .ref (a + 6)])))
  | 3 => some (.inr (.inr (3, [.ref (a + 1), .int (m a 1)])))
  | 4 => some (.inr (.inr (4, [.ref 3, .ref 4, .ref k.2.2.1, .ref k.2.2.2.1, .ref 19, .ref 26, .ref 33, .int (m a 7), .int (m a 8), .long (k.2.1 0), .long (k.2.1 1), .int (m a 11), .ref 34, .ref 35, .ref 36, .ref 37, .ref 38, .ref 39])))
  | 5 => some (.inr (.inr (5, [.int (m a 0), .ref 82, .int (m a 2), .long (k.2.1 2), .long (k.2.1 3), .ref 83, .ref 84, .ref 85, .ref 86, .ref 87, .int (m a 10), .ref 88, .int (m a 12), .ref 89, .ref 90, .ref 91, .ref 92, .ref 93, .int (m a 18), .int (m a 19), .int (m a 20), .int (m a 21), .ref 94, .ref 95, .ref 96, .ref 97, .ref 98, .ref 99, .ref 100, .int (m a 29), .int (m a 30), .ref 101, .ref 102, .ref 103, .int (m a 34), .int (m a 35), .long (k.2.1 4)])))
  | 18 => some (.inr (.inl (3, 6, fun j => if j < 6 then some (40 + 2 * j) else none)))
  | 19 => some (.inr (.inl (3, 4, fun j => if j < 4 then some (52 + 2 * j) else none)))
  | 20 => some (.inr (.inl (4, 3, fun j => if j < 3 then some (60 + 7 * j) else none)))
  | 21 => some (.inl (0, 4, zBch))
  | 22 => some (.inl (0, k.1.1, k.1.2))
  | c => some (.inl ((zal c).1, (zal c).2, m a))
def Z (k : zK) (m : Nat → Nat → Int32) : zAH := (Ec k m, k.2.2.2.2.2.1, k.2.2.2.2.2.2)
def mu (m : Nat → Nat → Int32) (a j : Nat) (x : Int32) : Nat → Nat → Int32 := fun b => if b = a then upd (m b) j x else m b
def ms (m : Nat → Nat → Int32) (a : Nat) (f : Nat → Int32) : Nat → Nat → Int32 := fun b => if b = a then f else m b
def kml (k : zK) (i : Nat) (x : Int64) : zK := (k.1, (fun j => if j = i then x else k.2.1 j), k.2.2)
def kcd (k : zK) (c d : Nat) : zK := (k.1, k.2.1, c, d, k.2.2.2.2)
theorem mu_s (m : Nat → Nat → Int32) (a j : Nat) (x : Int32) : mu m a j x a j = x := by simp [mu, upd]
theorem mu_a (m : Nat → Nat → Int32) {a b : Nat} (j i : Nat) (x : Int32) (h : b ≠ a) : mu m a j x b i = m b i := by simp [mu, h]
theorem mu_ar (m : Nat → Nat → Int32) {a b : Nat} (j : Nat) (x : Int32) (h : b ≠ a) : mu m a j x b = m b := by simp [mu, h]
theorem mu_j (m : Nat → Nat → Int32) {a j i : Nat} (x : Int32) (h : i ≠ j) : mu m a j x a i = m a i := by simp [mu, upd, h]
theorem zbd_s {σ ρ : Type} (x : σ) (h : zAH) (k : σ → zAH → Option (ρ × zAH)) : zbd (some (x, h)) k = k x h := rfl
theorem shp_big {a : Nat} (h : 104 ≤ a) : shp a = 0 := by
  unfold shp
  rw [List.getD_eq_getElem?_getD, List.getElem?_eq_none (show shL.length ≤ a from h)]
  rfl
theorem shp_le {a : Nat} (h : shp a ≠ 0) : a < 104 := Nat.not_le.mp fun z => h (shp_big z)
theorem shp_all : ∀ a, a < 104 → (6 ≤ shp a → shp a ≤ 17 → 2 ≤ a ∧ (zal (shp a)).2 ≤ 400) ∧ (1 ≤ shp a → shp a ≤ 5 → 2 ≤ a) := by decide +kernel
theorem Ec_arr {k : zK} {m : Nat → Nat → Int32} {a : Nat} (h1 : 6 ≤ shp a) (h2 : shp a ≤ 17) : Ec k m a = some (.inl ((zal (shp a)).1, (zal (shp a)).2, m a)) := by
  unfold Ec
  split <;> first | rfl | (exfalso; omega)
theorem Ec_cg {k : zK} {m m' : Nat → Nat → Int32} {a : Nat} (h : m a = m' a) : Ec k m a = Ec k m' a := by
  unfold Ec
  rw [h]
theorem Zup {k : zK} {m : Nat → Nat → Int32} {a j : Nat} {x : Int32} {c : zAC} (hc : Ec k (mu m a j x) a = some c) : zup (Z k m) a c = Z k (mu m a j x) := by
  show (va_up (Ec k m) a (some c), _) = (Ec k (mu m a j x), _)
  congr 1
  funext b
  by_cases hb : b = a
  · subst hb
    rw [va_up, if_pos rfl, hc]
  · rw [va_up, if_neg hb]
    exact Ec_cg (mu_ar m j x hb).symm
theorem Zups {k : zK} {m : Nat → Nat → Int32} {a : Nat} {f : Nat → Int32} {c : zAC} (hc : Ec k (ms m a f) a = some c) : zup (Z k m) a c = Z k (ms m a f) := by
  show (va_up (Ec k m) a (some c), _) = (Ec k (ms m a f), _)
  congr 1
  funext b
  by_cases hb : b = a
  · subst hb
    rw [va_up, if_pos rfl, hc]
  · rw [va_up, if_neg hb]
    exact Ec_cg (by simp [ms, hb])
theorem Zld {k : zK} {m : Nat → Nat → Int32} {kd a : Nat} (j : Nat) (h1 : 6 ≤ shp a) (h2 : shp a ≤ 17) (hk : (zal (shp a)).1 = kd) (hj : j < (zal (shp a)).2) : zaI kd a (nI j) (Z k m) = some (m a j) := by
  have hb := ((shp_all a (shp_le (by omega))).1 h1 h2).2
  unfold zaI
  rw [show (Z k m).1 a = _ from Ec_arr h1 h2]
  dsimp only
  rw [if_pos hk, nI_clamp (by omega), if_neg]
  intro q
  rcases q with q | q
  · exact nI_pos (by omega) q
  · omega
theorem Zst {k : zK} {m : Nat → Nat → Int32} {kd a : Nat} (j : Nat) {x : Int32} (h1 : 6 ≤ shp a) (h2 : shp a ≤ 17) (hk : (zal (shp a)).1 = kd) (hj : j < (zal (shp a)).2) : zaS kd a (nI j) x (Z k m) = some (Z k (mu m a j x)) := by
  have hb := (shp_all a (shp_le (by omega))).1 h1 h2
  unfold zaS
  rw [if_neg (by omega), show (Z k m).1 a = _ from Ec_arr h1 h2]
  dsimp only
  rw [if_pos hk, nI_clamp (by omega), if_neg]
  · congr 1
    exact Zup (by rw [Ec_arr h1 h2]; simp [mu])
  · intro q
    rcases q with q | q
    · exact nI_pos (by omega) q
    · omega
theorem Zln {k : zK} {m : Nat → Nat → Int32} {a : Nat} (h1 : 6 ≤ shp a) (h2 : shp a ≤ 17) (hk : (zal (shp a)).1 = 0) : zaN a (Z k m) = some (nI (zal (shp a)).2) := by
  unfold zaN
  rw [show (Z k m).1 a = _ from Ec_arr h1 h2]
  dsimp only
  rw [if_pos (by omega)]
  rfl
theorem Zcp {k : zK} {m : Nat → Nat → Int32} {a b sp dp n : Nat} (h1 : 6 ≤ shp a) (h2 : shp a ≤ 17) (hk : (zal (shp a)).1 = 0) (g1 : 6 ≤ shp b) (g2 : shp b ≤ 17) (gk : (zal (shp b)).1 = 0) (ha : sp + n ≤ (zal (shp a)).2) (hb : dp + n ≤ (zal (shp b)).2) : zcp a (nI sp) b (nI dp) (nI n) (Z k m) = some (Z k (ms m b (va_cpy (m a) (m b) sp dp n))) := by
  have qa := (shp_all a (shp_le (by omega))).1 h1 h2
  have qb := (shp_all b (shp_le (by omega))).1 g1 g2
  unfold zcp
  rw [if_neg (by
    intro q
    rcases q with q | q | q | q | q
    · omega
    · omega
    · exact nI_pos (by omega) q
    · exact nI_pos (by omega) q
    · exact nI_pos (by omega) q), show (Z k m).1 a = _ from Ec_arr h1 h2, show (Z k m).1 b = _ from Ec_arr g1 g2]
  dsimp only
  rw [nI_clamp (by omega), nI_clamp (by omega), nI_clamp (by omega), if_pos ⟨hk, gk, ha, hb⟩]
  congr 1
  exact Zups (by rw [Ec_arr g1 g2, gk]; simp [ms])
theorem ZrA {k : zK} {m : Nat → Nat → Int32} {j : Nat} (hj : j < 6) : zaR 3 3 (nI j) (Z k m) = some (40 + 2 * j) := by
  unfold zaR
  rw [show (Z k m).1 3 = some (.inr (.inl (3, 6, fun j => if j < 6 then some (40 + 2 * j) else none))) from rfl]
  dsimp only
  rw [if_pos rfl, nI_clamp (by omega), if_neg (fun q => q.elim (fun q => nI_pos (by omega) q) (fun q => by omega)), if_pos hj]
theorem ZrT {k : zK} {m : Nat → Nat → Int32} {j : Nat} (hj : j < 4) : zaR 3 4 (nI j) (Z k m) = some (52 + 2 * j) := by
  unfold zaR
  rw [show (Z k m).1 4 = some (.inr (.inl (3, 4, fun j => if j < 4 then some (52 + 2 * j) else none))) from rfl]
  dsimp only
  rw [if_pos rfl, nI_clamp (by omega), if_neg (fun q => q.elim (fun q => nI_pos (by omega) q) (fun q => by omega)), if_pos hj]
theorem ZrK {k : zK} {m : Nat → Nat → Int32} {j : Nat} (hj : j < 3) : zaR 4 33 (nI j) (Z k m) = some (60 + 7 * j) := by
  unfold zaR
  rw [show (Z k m).1 33 = some (.inr (.inl (4, 3, fun j => if j < 3 then some (60 + 7 * j) else none))) from rfl]
  dsimp only
  rw [if_pos rfl, nI_clamp (by omega), if_neg (fun q => q.elim (fun q => nI_pos (by omega) q) (fun q => by omega)), if_pos hj]
theorem Ec_1 {k : zK} {m : Nat → Nat → Int32} {a : Nat} (h : shp a = 1) : Ec k m a = some (.inr (.inr (1, [.int (m a 0), .int (m a 1), .int (m a 2), .int (m a 3), .int (m a 4), .int (m a 5), .ref (a + 1), .ref (a + 2), .ref (a + 3), .ref (a + 4), .ref (a + 5), .ref (a + 6)]))) := by unfold Ec; rw [h]; (try rfl)
theorem ZO_1 {k : zK} {m : Nat → Nat → Int32} {a : Nat} (h : shp a = 1) : zgO 1 a (Z k m) = some [.int (m a 0), .int (m a 1), .int (m a 2), .int (m a 3), .int (m a 4), .int (m a 5), .ref (a + 1), .ref (a + 2), .ref (a + 3), .ref (a + 4), .ref (a + 5), .ref (a + 6)] := by unfold zgO; rw [show (Z k m).1 a = _ from Ec_1 h]; rfl
theorem ZI_1_0 {k : zK} {m : Nat → Nat → Int32} {a : Nat} (h : shp a = 1) : zgI 1 0 a (Z k m) = some (m a 0) := by unfold zgI; rw [ZO_1 h]; rfl
theorem ZP_1_0 {k : zK} {m : Nat → Nat → Int32} {a : Nat} (h : shp a = 1) (x : Int32) : zpF 1 0 a (.int x) (Z k m) = some (Z k (mu m a 0 x)) := by
  have hb := (shp_all a (shp_le (by omega))).2 (by omega) (by omega)
  unfold zpF
  rw [if_neg (by omega), ZO_1 h]
  exact congrArg some (Zup (by rw [Ec_1 h]; simp [mu, upd]))
theorem ZI_1_1 {k : zK} {m : Nat → Nat → Int32} {a : Nat} (h : shp a = 1) : zgI 1 1 a (Z k m) = some (m a 1) := by unfold zgI; rw [ZO_1 h]; rfl
theorem ZP_1_1 {k : zK} {m : Nat → Nat → Int32} {a : Nat} (h : shp a = 1) (x : Int32) : zpF 1 1 a (.int x) (Z k m) = some (Z k (mu m a 1 x)) := by
  have hb := (shp_all a (shp_le (by omega))).2 (by omega) (by omega)
  unfold zpF
  rw [if_neg (by omega), ZO_1 h]
  exact congrArg some (Zup (by rw [Ec_1 h]; simp [mu, upd]))
theorem ZI_1_2 {k : zK} {m : Nat → Nat → Int32} {a : Nat} (h : shp a = 1) : zgI 1 2 a (Z k m) = some (m a 2) := by unfold zgI; rw [ZO_1 h]; rfl
theorem ZP_1_2 {k : zK} {m : Nat → Nat → Int32} {a : Nat} (h : shp a = 1) (x : Int32) : zpF 1 2 a (.int x) (Z k m) = some (Z k (mu m a 2 x)) := by
  have hb := (shp_all a (shp_le (by omega))).2 (by omega) (by omega)
  unfold zpF
  rw [if_neg (by omega), ZO_1 h]
  exact congrArg some (Zup (by rw [Ec_1 h]; simp [mu, upd]))
theorem ZI_1_3 {k : zK} {m : Nat → Nat → Int32} {a : Nat} (h : shp a = 1) : zgI 1 3 a (Z k m) = some (m a 3) := by unfold zgI; rw [ZO_1 h]; rfl
theorem ZP_1_3 {k : zK} {m : Nat → Nat → Int32} {a : Nat} (h : shp a = 1) (x : Int32) : zpF 1 3 a (.int x) (Z k m) = some (Z k (mu m a 3 x)) := by
  have hb := (shp_all a (shp_le (by omega))).2 (by omega) (by omega)
  unfold zpF
  rw [if_neg (by omega), ZO_1 h]
  exact congrArg some (Zup (by rw [Ec_1 h]; simp [mu, upd]))
theorem ZI_1_4 {k : zK} {m : Nat → Nat → Int32} {a : Nat} (h : shp a = 1) : zgI 1 4 a (Z k m) = some (m a 4) := by unfold zgI; rw [ZO_1 h]; rfl
theorem ZP_1_4 {k : zK} {m : Nat → Nat → Int32} {a : Nat} (h : shp a = 1) (x : Int32) : zpF 1 4 a (.int x) (Z k m) = some (Z k (mu m a 4 x)) := by
  have hb := (shp_all a (shp_le (by omega))).2 (by omega) (by omega)
  unfold zpF
  rw [if_neg (by omega), ZO_1 h]
  exact congrArg some (Zup (by rw [Ec_1 h]; simp [mu, upd]))
theorem ZI_1_5 {k : zK} {m : Nat → Nat → Int32} {a : Nat} (h : shp a = 1) : zgI 1 5 a (Z k m) = some (m a 5) := by unfold zgI; rw [ZO_1 h]; rfl
theorem ZP_1_5 {k : zK} {m : Nat → Nat → Int32} {a : Nat} (h : shp a = 1) (x : Int32) : zpF 1 5 a (.int x) (Z k m) = some (Z k (mu m a 5 x)) := by
  have hb := (shp_all a (shp_le (by omega))).2 (by omega) (by omega)
  unfold zpF
  rw [if_neg (by omega), ZO_1 h]
  exact congrArg some (Zup (by rw [Ec_1 h]; simp [mu, upd]))
theorem ZA_1_6 {k : zK} {m : Nat → Nat → Int32} {a : Nat} (h : shp a = 1) : zgA 1 6 a (Z k m) = some (a + 1) := by unfold zgA; rw [ZO_1 h]; rfl
theorem ZA_1_7 {k : zK} {m : Nat → Nat → Int32} {a : Nat} (h : shp a = 1) : zgA 1 7 a (Z k m) = some (a + 2) := by unfold zgA; rw [ZO_1 h]; rfl
theorem ZA_1_8 {k : zK} {m : Nat → Nat → Int32} {a : Nat} (h : shp a = 1) : zgA 1 8 a (Z k m) = some (a + 3) := by unfold zgA; rw [ZO_1 h]; rfl
theorem ZA_1_9 {k : zK} {m : Nat → Nat → Int32} {a : Nat} (h : shp a = 1) : zgA 1 9 a (Z k m) = some (a + 4) := by unfold zgA; rw [ZO_1 h]; rfl
theorem ZA_1_10 {k : zK} {m : Nat → Nat → Int32} {a : Nat} (h : shp a = 1) : zgA 1 10 a (Z k m) = some (a + 5) := by unfold zgA; rw [ZO_1 h]; rfl
theorem ZA_1_11 {k : zK} {m : Nat → Nat → Int32} {a : Nat} (h : shp a = 1) : zgA 1 11 a (Z k m) = some (a + 6) := by unfold zgA; rw [ZO_1 h]; rfl
theorem Ec_2 {k : zK} {m : Nat → Nat → Int32} {a : Nat} (h : shp a = 2) : Ec k m a = some (.inr (.inr (0, [.int (m a 0), .ref (a + 1), .int (m a 2), .ref (a + 2), .ref (a + 3), .ref (a + 4), .ref (a + 5), .ref (a + 6)]))) := by unfold Ec; rw [h]; (try rfl)
theorem ZO_0 {k : zK} {m : Nat → Nat → Int32} {a : Nat} (h : shp a = 2) : zgO 0 a (Z k m) = some [.int (m a 0), .ref (a + 1), .int (m a 2), .ref (a + 2), .ref (a + 3), .ref (a + 4), .ref (a + 5), .ref (a + 6)] := by unfold zgO; rw [show (Z k m).1 a = _ from Ec_2 h]; rfl
theorem ZI_0_0 {k : zK} {m : Nat → Nat → Int32} {a : Nat} (h : shp a = 2) : zgI 0 0 a (Z k m) = some (m a 0) := by unfold zgI; rw [ZO_0 h]; rfl
theorem ZP_0_0 {k : zK} {m : Nat → Nat → Int32} {a : Nat} (h : shp a = 2) (x : Int32) : zpF 0 0 a (.int x) (Z k m) = some (Z k (mu m a 0 x)) := by
  have hb := (shp_all a (shp_le (by omega))).2 (by omega) (by omega)
  unfold zpF
  rw [if_neg (by omega), ZO_0 h]
  exact congrArg some (Zup (by rw [Ec_2 h]; simp [mu, upd]))
theorem ZA_0_1 {k : zK} {m : Nat → Nat → Int32} {a : Nat} (h : shp a = 2) : zgA 0 1 a (Z k m) = some (a + 1) := by unfold zgA; rw [ZO_0 h]; rfl
theorem ZI_0_2 {k : zK} {m : Nat → Nat → Int32} {a : Nat} (h : shp a = 2) : zgI 0 2 a (Z k m) = some (m a 2) := by unfold zgI; rw [ZO_0 h]; rfl
theorem ZP_0_2 {k : zK} {m : Nat → Nat → Int32} {a : Nat} (h : shp a = 2) (x : Int32) : zpF 0 2 a (.int x) (Z k m) = some (Z k (mu m a 2 x)) := by
  have hb := (shp_all a (shp_le (by omega))).2 (by omega) (by omega)
  unfold zpF
  rw [if_neg (by omega), ZO_0 h]
  exact congrArg some (Zup (by rw [Ec_2 h]; simp [mu, upd]))
theorem ZA_0_3 {k : zK} {m : Nat → Nat → Int32} {a : Nat} (h : shp a = 2) : zgA 0 3 a (Z k m) = some (a + 2) := by unfold zgA; rw [ZO_0 h]; rfl
theorem ZA_0_4 {k : zK} {m : Nat → Nat → Int32} {a : Nat} (h : shp a = 2) : zgA 0 4 a (Z k m) = some (a + 3) := by unfold zgA; rw [ZO_0 h]; rfl
theorem ZA_0_5 {k : zK} {m : Nat → Nat → Int32} {a : Nat} (h : shp a = 2) : zgA 0 5 a (Z k m) = some (a + 4) := by unfold zgA; rw [ZO_0 h]; rfl
theorem ZA_0_6 {k : zK} {m : Nat → Nat → Int32} {a : Nat} (h : shp a = 2) : zgA 0 6 a (Z k m) = some (a + 5) := by unfold zgA; rw [ZO_0 h]; rfl
theorem ZA_0_7 {k : zK} {m : Nat → Nat → Int32} {a : Nat} (h : shp a = 2) : zgA 0 7 a (Z k m) = some (a + 6) := by unfold zgA; rw [ZO_0 h]; rfl
theorem Ec_3 {k : zK} {m : Nat → Nat → Int32} {a : Nat} (h : shp a = 3) : Ec k m a = some (.inr (.inr (3, [.ref (a + 1), .int (m a 1)]))) := by unfold Ec; rw [h]; (try rfl)
theorem ZO_3 {k : zK} {m : Nat → Nat → Int32} {a : Nat} (h : shp a = 3) : zgO 3 a (Z k m) = some [.ref (a + 1), .int (m a 1)] := by unfold zgO; rw [show (Z k m).1 a = _ from Ec_3 h]; rfl
theorem ZA_3_0 {k : zK} {m : Nat → Nat → Int32} {a : Nat} (h : shp a = 3) : zgA 3 0 a (Z k m) = some (a + 1) := by unfold zgA; rw [ZO_3 h]; rfl
theorem ZI_3_1 {k : zK} {m : Nat → Nat → Int32} {a : Nat} (h : shp a = 3) : zgI 3 1 a (Z k m) = some (m a 1) := by unfold zgI; rw [ZO_3 h]; rfl
theorem ZP_3_1 {k : zK} {m : Nat → Nat → Int32} {a : Nat} (h : shp a = 3) (x : Int32) : zpF 3 1 a (.int x) (Z k m) = some (Z k (mu m a 1 x)) := by
  have hb := (shp_all a (shp_le (by omega))).2 (by omega) (by omega)
  unfold zpF
  rw [if_neg (by omega), ZO_3 h]
  exact congrArg some (Zup (by rw [Ec_3 h]; simp [mu, upd]))
theorem Ec_4 {k : zK} {m : Nat → Nat → Int32} {a : Nat} (h : shp a = 4) : Ec k m a = some (.inr (.inr (4, [.ref 3, .ref 4, .ref k.2.2.1, .ref k.2.2.2.1, .ref 19, .ref 26, .ref 33, .int (m a 7), .int (m a 8), .long (k.2.1 0), .long (k.2.1 1), .int (m a 11), .ref 34, .ref 35, .ref 36, .ref 37, .ref 38, .ref 39]))) := by unfold Ec; rw [h]; (try rfl)
theorem ZO_4 {k : zK} {m : Nat → Nat → Int32} {a : Nat} (h : shp a = 4) : zgO 4 a (Z k m) = some [.ref 3, .ref 4, .ref k.2.2.1, .ref k.2.2.2.1, .ref 19, .ref 26, .ref 33, .int (m a 7), .int (m a 8), .long (k.2.1 0), .long (k.2.1 1), .int (m a 11), .ref 34, .ref 35, .ref 36, .ref 37, .ref 38, .ref 39] := by unfold zgO; rw [show (Z k m).1 a = _ from Ec_4 h]; rfl
theorem ZA_4_0 {k : zK} {m : Nat → Nat → Int32} {a : Nat} (h : shp a = 4) : zgA 4 0 a (Z k m) = some 3 := by unfold zgA; rw [ZO_4 h]; rfl
theorem ZA_4_1 {k : zK} {m : Nat → Nat → Int32} {a : Nat} (h : shp a = 4) : zgA 4 1 a (Z k m) = some 4 := by unfold zgA; rw [ZO_4 h]; rfl
theorem ZA_4_2 {k : zK} {m : Nat → Nat → Int32} {a : Nat} (h : shp a = 4) : zgA 4 2 a (Z k m) = some k.2.2.1 := by unfold zgA; rw [ZO_4 h]; rfl
theorem ZA_4_3 {k : zK} {m : Nat → Nat → Int32} {a : Nat} (h : shp a = 4) : zgA 4 3 a (Z k m) = some k.2.2.2.1 := by unfold zgA; rw [ZO_4 h]; rfl
theorem ZA_4_4 {k : zK} {m : Nat → Nat → Int32} {a : Nat} (h : shp a = 4) : zgA 4 4 a (Z k m) = some 19 := by unfold zgA; rw [ZO_4 h]; rfl
theorem ZA_4_5 {k : zK} {m : Nat → Nat → Int32} {a : Nat} (h : shp a = 4) : zgA 4 5 a (Z k m) = some 26 := by unfold zgA; rw [ZO_4 h]; rfl
theorem ZA_4_6 {k : zK} {m : Nat → Nat → Int32} {a : Nat} (h : shp a = 4) : zgA 4 6 a (Z k m) = some 33 := by unfold zgA; rw [ZO_4 h]; rfl
theorem ZI_4_7 {k : zK} {m : Nat → Nat → Int32} {a : Nat} (h : shp a = 4) : zgI 4 7 a (Z k m) = some (m a 7) := by unfold zgI; rw [ZO_4 h]; rfl
theorem ZP_4_7 {k : zK} {m : Nat → Nat → Int32} {a : Nat} (h : shp a = 4) (x : Int32) : zpF 4 7 a (.int x) (Z k m) = some (Z k (mu m a 7 x)) := by
  have hb := (shp_all a (shp_le (by omega))).2 (by omega) (by omega)
  unfold zpF
  rw [if_neg (by omega), ZO_4 h]
  exact congrArg some (Zup (by rw [Ec_4 h]; simp [mu, upd]))
theorem ZI_4_8 {k : zK} {m : Nat → Nat → Int32} {a : Nat} (h : shp a = 4) : zgI 4 8 a (Z k m) = some (m a 8) := by unfold zgI; rw [ZO_4 h]; rfl
theorem ZP_4_8 {k : zK} {m : Nat → Nat → Int32} {a : Nat} (h : shp a = 4) (x : Int32) : zpF 4 8 a (.int x) (Z k m) = some (Z k (mu m a 8 x)) := by
  have hb := (shp_all a (shp_le (by omega))).2 (by omega) (by omega)
  unfold zpF
  rw [if_neg (by omega), ZO_4 h]
  exact congrArg some (Zup (by rw [Ec_4 h]; simp [mu, upd]))
theorem ZL_4_9 {k : zK} {m : Nat → Nat → Int32} {a : Nat} (h : shp a = 4) : zgL 4 9 a (Z k m) = some (k.2.1 0) := by unfold zgL; rw [ZO_4 h]; rfl
theorem ZL_4_10 {k : zK} {m : Nat → Nat → Int32} {a : Nat} (h : shp a = 4) : zgL 4 10 a (Z k m) = some (k.2.1 1) := by unfold zgL; rw [ZO_4 h]; rfl
theorem ZI_4_11 {k : zK} {m : Nat → Nat → Int32} {a : Nat} (h : shp a = 4) : zgI 4 11 a (Z k m) = some (m a 11) := by unfold zgI; rw [ZO_4 h]; rfl
theorem ZP_4_11 {k : zK} {m : Nat → Nat → Int32} {a : Nat} (h : shp a = 4) (x : Int32) : zpF 4 11 a (.int x) (Z k m) = some (Z k (mu m a 11 x)) := by
  have hb := (shp_all a (shp_le (by omega))).2 (by omega) (by omega)
  unfold zpF
  rw [if_neg (by omega), ZO_4 h]
  exact congrArg some (Zup (by rw [Ec_4 h]; simp [mu, upd]))
theorem ZA_4_12 {k : zK} {m : Nat → Nat → Int32} {a : Nat} (h : shp a = 4) : zgA 4 12 a (Z k m) = some 34 := by unfold zgA; rw [ZO_4 h]; rfl
theorem ZA_4_13 {k : zK} {m : Nat → Nat → Int32} {a : Nat} (h : shp a = 4) : zgA 4 13 a (Z k m) = some 35 := by unfold zgA; rw [ZO_4 h]; rfl
theorem ZA_4_14 {k : zK} {m : Nat → Nat → Int32} {a : Nat} (h : shp a = 4) : zgA 4 14 a (Z k m) = some 36 := by unfold zgA; rw [ZO_4 h]; rfl
theorem ZA_4_15 {k : zK} {m : Nat → Nat → Int32} {a : Nat} (h : shp a = 4) : zgA 4 15 a (Z k m) = some 37 := by unfold zgA; rw [ZO_4 h]; rfl
theorem ZA_4_16 {k : zK} {m : Nat → Nat → Int32} {a : Nat} (h : shp a = 4) : zgA 4 16 a (Z k m) = some 38 := by unfold zgA; rw [ZO_4 h]; rfl
theorem ZA_4_17 {k : zK} {m : Nat → Nat → Int32} {a : Nat} (h : shp a = 4) : zgA 4 17 a (Z k m) = some 39 := by unfold zgA; rw [ZO_4 h]; rfl
theorem Ec_5 {k : zK} {m : Nat → Nat → Int32} {a : Nat} (h : shp a = 5) : Ec k m a = some (.inr (.inr (5, [.int (m a 0), .ref 82, .int (m a 2), .long (k.2.1 2), .long (k.2.1 3), .ref 83, .ref 84, .ref 85, .ref 86, .ref 87, .int (m a 10), .ref 88, .int (m a 12), .ref 89, .ref 90, .ref 91, .ref 92, .ref 93, .int (m a 18), .int (m a 19), .int (m a 20), .int (m a 21), .ref 94, .ref 95, .ref 96, .ref 97, .ref 98, .ref 99, .ref 100, .int (m a 29), .int (m a 30), .ref 101, .ref 102, .ref 103, .int (m a 34), .int (m a 35), .long (k.2.1 4)]))) := by unfold Ec; rw [h]; (try rfl)
theorem ZO_5 {k : zK} {m : Nat → Nat → Int32} {a : Nat} (h : shp a = 5) : zgO 5 a (Z k m) = some [.int (m a 0), .ref 82, .int (m a 2), .long (k.2.1 2), .long (k.2.1 3), .ref 83, .ref 84, .ref 85, .ref 86, .ref 87, .int (m a 10), .ref 88, .int (m a 12), .ref 89, .ref 90, .ref 91, .ref 92, .ref 93, .int (m a 18), .int (m a 19), .int (m a 20), .int (m a 21), .ref 94, .ref 95, .ref 96, .ref 97, .ref 98, .ref 99, .ref 100, .int (m a 29), .int (m a 30), .ref 101, .ref 102, .ref 103, .int (m a 34), .int (m a 35), .long (k.2.1 4)] := by unfold zgO; rw [show (Z k m).1 a = _ from Ec_5 h]; rfl
theorem ZI_5_0 {k : zK} {m : Nat → Nat → Int32} {a : Nat} (h : shp a = 5) : zgI 5 0 a (Z k m) = some (m a 0) := by unfold zgI; rw [ZO_5 h]; rfl
theorem ZP_5_0 {k : zK} {m : Nat → Nat → Int32} {a : Nat} (h : shp a = 5) (x : Int32) : zpF 5 0 a (.int x) (Z k m) = some (Z k (mu m a 0 x)) := by
  have hb := (shp_all a (shp_le (by omega))).2 (by omega) (by omega)
  unfold zpF
  rw [if_neg (by omega), ZO_5 h]
  exact congrArg some (Zup (by rw [Ec_5 h]; simp [mu, upd]))
theorem ZA_5_1 {k : zK} {m : Nat → Nat → Int32} {a : Nat} (h : shp a = 5) : zgA 5 1 a (Z k m) = some 82 := by unfold zgA; rw [ZO_5 h]; rfl
theorem ZI_5_2 {k : zK} {m : Nat → Nat → Int32} {a : Nat} (h : shp a = 5) : zgI 5 2 a (Z k m) = some (m a 2) := by unfold zgI; rw [ZO_5 h]; rfl
theorem ZP_5_2 {k : zK} {m : Nat → Nat → Int32} {a : Nat} (h : shp a = 5) (x : Int32) : zpF 5 2 a (.int x) (Z k m) = some (Z k (mu m a 2 x)) := by
  have hb := (shp_all a (shp_le (by omega))).2 (by omega) (by omega)
  unfold zpF
  rw [if_neg (by omega), ZO_5 h]
  exact congrArg some (Zup (by rw [Ec_5 h]; simp [mu, upd]))
theorem ZL_5_3 {k : zK} {m : Nat → Nat → Int32} {a : Nat} (h : shp a = 5) : zgL 5 3 a (Z k m) = some (k.2.1 2) := by unfold zgL; rw [ZO_5 h]; rfl
theorem ZL_5_4 {k : zK} {m : Nat → Nat → Int32} {a : Nat} (h : shp a = 5) : zgL 5 4 a (Z k m) = some (k.2.1 3) := by unfold zgL; rw [ZO_5 h]; rfl
theorem ZA_5_5 {k : zK} {m : Nat → Nat → Int32} {a : Nat} (h : shp a = 5) : zgA 5 5 a (Z k m) = some 83 := by unfold zgA; rw [ZO_5 h]; rfl
theorem ZA_5_6 {k : zK} {m : Nat → Nat → Int32} {a : Nat} (h : shp a = 5) : zgA 5 6 a (Z k m) = some 84 := by unfold zgA; rw [ZO_5 h]; rfl
theorem ZA_5_7 {k : zK} {m : Nat → Nat → Int32} {a : Nat} (h : shp a = 5) : zgA 5 7 a (Z k m) = some 85 := by unfold zgA; rw [ZO_5 h]; rfl
theorem ZA_5_8 {k : zK} {m : Nat → Nat → Int32} {a : Nat} (h : shp a = 5) : zgA 5 8 a (Z k m) = some 86 := by unfold zgA; rw [ZO_5 h]; rfl
theorem ZA_5_9 {k : zK} {m : Nat → Nat → Int32} {a : Nat} (h : shp a = 5) : zgA 5 9 a (Z k m) = some 87 := by unfold zgA; rw [ZO_5 h]; rfl
theorem ZI_5_10 {k : zK} {m : Nat → Nat → Int32} {a : Nat} (h : shp a = 5) : zgI 5 10 a (Z k m) = some (m a 10) := by unfold zgI; rw [ZO_5 h]; rfl
theorem ZP_5_10 {k : zK} {m : Nat → Nat → Int32} {a : Nat} (h : shp a = 5) (x : Int32) : zpF 5 10 a (.int x) (Z k m) = some (Z k (mu m a 10 x)) := by
  have hb := (shp_all a (shp_le (by omega))).2 (by omega) (by omega)
  unfold zpF
  rw [if_neg (by omega), ZO_5 h]
  exact congrArg some (Zup (by rw [Ec_5 h]; simp [mu, upd]))
theorem ZA_5_11 {k : zK} {m : Nat → Nat → Int32} {a : Nat} (h : shp a = 5) : zgA 5 11 a (Z k m) = some 88 := by unfold zgA; rw [ZO_5 h]; rfl
theorem ZI_5_12 {k : zK} {m : Nat → Nat → Int32} {a : Nat} (h : shp a = 5) : zgI 5 12 a (Z k m) = some (m a 12) := by unfold zgI; rw [ZO_5 h]; rfl
theorem ZP_5_12 {k : zK} {m : Nat → Nat → Int32} {a : Nat} (h : shp a = 5) (x : Int32) : zpF 5 12 a (.int x) (Z k m) = some (Z k (mu m a 12 x)) := by
  have hb := (shp_all a (shp_le (by omega))).2 (by omega) (by omega)
  unfold zpF
  rw [if_neg (by omega), ZO_5 h]
  exact congrArg some (Zup (by rw [Ec_5 h]; simp [mu, upd]))
theorem ZA_5_13 {k : zK} {m : Nat → Nat → Int32} {a : Nat} (h : shp a = 5) : zgA 5 13 a (Z k m) = some 89 := by unfold zgA; rw [ZO_5 h]; rfl
theorem ZA_5_14 {k : zK} {m : Nat → Nat → Int32} {a : Nat} (h : shp a = 5) : zgA 5 14 a (Z k m) = some 90 := by unfold zgA; rw [ZO_5 h]; rfl
theorem ZA_5_15 {k : zK} {m : Nat → Nat → Int32} {a : Nat} (h : shp a = 5) : zgA 5 15 a (Z k m) = some 91 := by unfold zgA; rw [ZO_5 h]; rfl
theorem ZA_5_16 {k : zK} {m : Nat → Nat → Int32} {a : Nat} (h : shp a = 5) : zgA 5 16 a (Z k m) = some 92 := by unfold zgA; rw [ZO_5 h]; rfl
theorem ZA_5_17 {k : zK} {m : Nat → Nat → Int32} {a : Nat} (h : shp a = 5) : zgA 5 17 a (Z k m) = some 93 := by unfold zgA; rw [ZO_5 h]; rfl
theorem ZI_5_18 {k : zK} {m : Nat → Nat → Int32} {a : Nat} (h : shp a = 5) : zgI 5 18 a (Z k m) = some (m a 18) := by unfold zgI; rw [ZO_5 h]; rfl
theorem ZP_5_18 {k : zK} {m : Nat → Nat → Int32} {a : Nat} (h : shp a = 5) (x : Int32) : zpF 5 18 a (.int x) (Z k m) = some (Z k (mu m a 18 x)) := by
  have hb := (shp_all a (shp_le (by omega))).2 (by omega) (by omega)
  unfold zpF
  rw [if_neg (by omega), ZO_5 h]
  exact congrArg some (Zup (by rw [Ec_5 h]; simp [mu, upd]))
theorem ZI_5_19 {k : zK} {m : Nat → Nat → Int32} {a : Nat} (h : shp a = 5) : zgI 5 19 a (Z k m) = some (m a 19) := by unfold zgI; rw [ZO_5 h]; rfl
theorem ZP_5_19 {k : zK} {m : Nat → Nat → Int32} {a : Nat} (h : shp a = 5) (x : Int32) : zpF 5 19 a (.int x) (Z k m) = some (Z k (mu m a 19 x)) := by
  have hb := (shp_all a (shp_le (by omega))).2 (by omega) (by omega)
  unfold zpF
  rw [if_neg (by omega), ZO_5 h]
  exact congrArg some (Zup (by rw [Ec_5 h]; simp [mu, upd]))
theorem ZI_5_20 {k : zK} {m : Nat → Nat → Int32} {a : Nat} (h : shp a = 5) : zgI 5 20 a (Z k m) = some (m a 20) := by unfold zgI; rw [ZO_5 h]; rfl
theorem ZP_5_20 {k : zK} {m : Nat → Nat → Int32} {a : Nat} (h : shp a = 5) (x : Int32) : zpF 5 20 a (.int x) (Z k m) = some (Z k (mu m a 20 x)) := by
  have hb := (shp_all a (shp_le (by omega))).2 (by omega) (by omega)
  unfold zpF
  rw [if_neg (by omega), ZO_5 h]
  exact congrArg some (Zup (by rw [Ec_5 h]; simp [mu, upd]))
theorem ZI_5_21 {k : zK} {m : Nat → Nat → Int32} {a : Nat} (h : shp a = 5) : zgI 5 21 a (Z k m) = some (m a 21) := by unfold zgI; rw [ZO_5 h]; rfl
theorem ZP_5_21 {k : zK} {m : Nat → Nat → Int32} {a : Nat} (h : shp a = 5) (x : Int32) : zpF 5 21 a (.int x) (Z k m) = some (Z k (mu m a 21 x)) := by
  have hb := (shp_all a (shp_le (by omega))).2 (by omega) (by omega)
  unfold zpF
  rw [if_neg (by omega), ZO_5 h]
  exact congrArg some (Zup (by rw [Ec_5 h]; simp [mu, upd]))
theorem ZA_5_22 {k : zK} {m : Nat → Nat → Int32} {a : Nat} (h : shp a = 5) : zgA 5 22 a (Z k m) = some 94 := by unfold zgA; rw [ZO_5 h]; rfl
theorem ZA_5_23 {k : zK} {m : Nat → Nat → Int32} {a : Nat} (h : shp a = 5) : zgA 5 23 a (Z k m) = some 95 := by unfold zgA; rw [ZO_5 h]; rfl
theorem ZA_5_24 {k : zK} {m : Nat → Nat → Int32} {a : Nat} (h : shp a = 5) : zgA 5 24 a (Z k m) = some 96 := by unfold zgA; rw [ZO_5 h]; rfl
theorem ZA_5_25 {k : zK} {m : Nat → Nat → Int32} {a : Nat} (h : shp a = 5) : zgA 5 25 a (Z k m) = some 97 := by unfold zgA; rw [ZO_5 h]; rfl
theorem ZA_5_26 {k : zK} {m : Nat → Nat → Int32} {a : Nat} (h : shp a = 5) : zgA 5 26 a (Z k m) = some 98 := by unfold zgA; rw [ZO_5 h]; rfl
theorem ZA_5_27 {k : zK} {m : Nat → Nat → Int32} {a : Nat} (h : shp a = 5) : zgA 5 27 a (Z k m) = some 99 := by unfold zgA; rw [ZO_5 h]; rfl
theorem ZA_5_28 {k : zK} {m : Nat → Nat → Int32} {a : Nat} (h : shp a = 5) : zgA 5 28 a (Z k m) = some 100 := by unfold zgA; rw [ZO_5 h]; rfl
theorem ZI_5_29 {k : zK} {m : Nat → Nat → Int32} {a : Nat} (h : shp a = 5) : zgI 5 29 a (Z k m) = some (m a 29) := by unfold zgI; rw [ZO_5 h]; rfl
theorem ZP_5_29 {k : zK} {m : Nat → Nat → Int32} {a : Nat} (h : shp a = 5) (x : Int32) : zpF 5 29 a (.int x) (Z k m) = some (Z k (mu m a 29 x)) := by
  have hb := (shp_all a (shp_le (by omega))).2 (by omega) (by omega)
  unfold zpF
  rw [if_neg (by omega), ZO_5 h]
  exact congrArg some (Zup (by rw [Ec_5 h]; simp [mu, upd]))
theorem ZI_5_30 {k : zK} {m : Nat → Nat → Int32} {a : Nat} (h : shp a = 5) : zgI 5 30 a (Z k m) = some (m a 30) := by unfold zgI; rw [ZO_5 h]; rfl
theorem ZP_5_30 {k : zK} {m : Nat → Nat → Int32} {a : Nat} (h : shp a = 5) (x : Int32) : zpF 5 30 a (.int x) (Z k m) = some (Z k (mu m a 30 x)) := by
  have hb := (shp_all a (shp_le (by omega))).2 (by omega) (by omega)
  unfold zpF
  rw [if_neg (by omega), ZO_5 h]
  exact congrArg some (Zup (by rw [Ec_5 h]; simp [mu, upd]))
theorem ZA_5_31 {k : zK} {m : Nat → Nat → Int32} {a : Nat} (h : shp a = 5) : zgA 5 31 a (Z k m) = some 101 := by unfold zgA; rw [ZO_5 h]; rfl
theorem ZA_5_32 {k : zK} {m : Nat → Nat → Int32} {a : Nat} (h : shp a = 5) : zgA 5 32 a (Z k m) = some 102 := by unfold zgA; rw [ZO_5 h]; rfl
theorem ZA_5_33 {k : zK} {m : Nat → Nat → Int32} {a : Nat} (h : shp a = 5) : zgA 5 33 a (Z k m) = some 103 := by unfold zgA; rw [ZO_5 h]; rfl
theorem ZI_5_34 {k : zK} {m : Nat → Nat → Int32} {a : Nat} (h : shp a = 5) : zgI 5 34 a (Z k m) = some (m a 34) := by unfold zgI; rw [ZO_5 h]; rfl
theorem ZP_5_34 {k : zK} {m : Nat → Nat → Int32} {a : Nat} (h : shp a = 5) (x : Int32) : zpF 5 34 a (.int x) (Z k m) = some (Z k (mu m a 34 x)) := by
  have hb := (shp_all a (shp_le (by omega))).2 (by omega) (by omega)
  unfold zpF
  rw [if_neg (by omega), ZO_5 h]
  exact congrArg some (Zup (by rw [Ec_5 h]; simp [mu, upd]))
theorem ZI_5_35 {k : zK} {m : Nat → Nat → Int32} {a : Nat} (h : shp a = 5) : zgI 5 35 a (Z k m) = some (m a 35) := by unfold zgI; rw [ZO_5 h]; rfl
theorem ZP_5_35 {k : zK} {m : Nat → Nat → Int32} {a : Nat} (h : shp a = 5) (x : Int32) : zpF 5 35 a (.int x) (Z k m) = some (Z k (mu m a 35 x)) := by
  have hb := (shp_all a (shp_le (by omega))).2 (by omega) (by omega)
  unfold zpF
  rw [if_neg (by omega), ZO_5 h]
  exact congrArg some (Zup (by rw [Ec_5 h]; simp [mu, upd]))
theorem ZL_5_36 {k : zK} {m : Nat → Nat → Int32} {a : Nat} (h : shp a = 5) : zgL 5 36 a (Z k m) = some (k.2.1 4) := by unfold zgL; rw [ZO_5 h]; rfl
theorem shp_45 : ∀ a, a < 104 → (shp a = 4 → a = 2) ∧ (shp a = 5 → a = 81) := by decide +kernel
theorem Ec_kn {k k' : zK} {m : Nat → Nat → Int32} {b : Nat} (h1 : k.1 = k'.1) (hg : k.2.2.2.2.1 = k'.2.2.2.2.1) (h4 : shp b ≠ 4) (h5 : shp b ≠ 5) : Ec k m b = Ec k' m b := by
  unfold Ec
  split <;> first | rfl | (rw [h1]) | (rw [hg]) | (exfalso; omega)
theorem Ec_l4 {k : zK} {m : Nat → Nat → Int32} {b i : Nat} {x : Int64} (hi : i < 2) (h4 : shp b ≠ 4) : Ec (kml k i x) m b = Ec k m b := by
  unfold Ec
  split <;> first | rfl | (exfalso; omega) | (simp [kml]; omega)
theorem Ec_l5 {k : zK} {m : Nat → Nat → Int32} {b i : Nat} {x : Int64} (hi : 2 ≤ i) (h5 : shp b ≠ 5) : Ec (kml k i x) m b = Ec k m b := by
  unfold Ec
  split <;> first | rfl | (exfalso; omega) | (simp [kml]; omega)
theorem Ec_cd4 {k : zK} {m : Nat → Nat → Int32} {b c d : Nat} (h4 : shp b ≠ 4) : Ec (kcd k c d) m b = Ec k m b := by
  unfold Ec
  split <;> first | rfl | (exfalso; omega)
theorem ZW_4_2 {k : zK} {m : Nat → Nat → Int32} {a : Nat} (h : shp a = 4) (c : Nat) : zpF 4 2 a (.ref c) (Z k m) = some (Z (kcd k c k.2.2.2.1) m) := by
  have hl := shp_le (a := a) (by omega)
  have hb := (shp_all a hl).2 (by omega) (by omega)
  unfold zpF
  rw [if_neg (by omega), ZO_4 h]
  refine congrArg some ?_
  show (va_up (Ec k m) a (some _), _) = (Ec (kcd k c k.2.2.2.1) m, _)
  congr 1
  funext b
  by_cases hba : b = a
  · subst hba
    rw [va_up, if_pos rfl, Ec_4 h]
    rfl
  · rw [va_up, if_neg hba]
    by_cases hb4 : shp b = 4
    · exfalso
      have e1 := (shp_45 a hl).1 h
      have e2 := (shp_45 b (shp_le (by omega))).1 hb4
      omega
    · exact (Ec_cd4 hb4).symm
theorem ZW_4_3 {k : zK} {m : Nat → Nat → Int32} {a : Nat} (h : shp a = 4) (c : Nat) : zpF 4 3 a (.ref c) (Z k m) = some (Z (kcd k k.2.2.1 c) m) := by
  have hl := shp_le (a := a) (by omega)
  have hb := (shp_all a hl).2 (by omega) (by omega)
  unfold zpF
  rw [if_neg (by omega), ZO_4 h]
  refine congrArg some ?_
  show (va_up (Ec k m) a (some _), _) = (Ec (kcd k k.2.2.1 c) m, _)
  congr 1
  funext b
  by_cases hba : b = a
  · subst hba
    rw [va_up, if_pos rfl, Ec_4 h]
    rfl
  · rw [va_up, if_neg hba]
    by_cases hb4 : shp b = 4
    · exfalso
      have e1 := (shp_45 a hl).1 h
      have e2 := (shp_45 b (shp_le (by omega))).1 hb4
      omega
    · exact (Ec_cd4 hb4).symm
theorem ZW_4_9 {k : zK} {m : Nat → Nat → Int32} {a : Nat} (h : shp a = 4) (x : Int64) : zpF 4 9 a (.long x) (Z k m) = some (Z (kml k 0 x) m) := by
  have hl := shp_le (a := a) (by omega)
  have hb := (shp_all a hl).2 (by omega) (by omega)
  unfold zpF
  rw [if_neg (by omega), ZO_4 h]
  refine congrArg some ?_
  show (va_up (Ec k m) a (some _), _) = (Ec (kml k 0 x) m, _)
  congr 1
  funext b
  by_cases hba : b = a
  · subst hba
    rw [va_up, if_pos rfl, Ec_4 h]
    rfl
  · rw [va_up, if_neg hba]
    by_cases hb4 : shp b = 4
    · exfalso
      have e1 := (shp_45 a hl).1 h
      have e2 := (shp_45 b (shp_le (by omega))).1 hb4
      omega
    · exact (Ec_l4 (by decide) hb4).symm
theorem ZW_4_10 {k : zK} {m : Nat → Nat → Int32} {a : Nat} (h : shp a = 4) (x : Int64) : zpF 4 10 a (.long x) (Z k m) = some (Z (kml k 1 x) m) := by
  have hl := shp_le (a := a) (by omega)
  have hb := (shp_all a hl).2 (by omega) (by omega)
  unfold zpF
  rw [if_neg (by omega), ZO_4 h]
  refine congrArg some ?_
  show (va_up (Ec k m) a (some _), _) = (Ec (kml k 1 x) m, _)
  congr 1
  funext b
  by_cases hba : b = a
  · subst hba
    rw [va_up, if_pos rfl, Ec_4 h]
    rfl
  · rw [va_up, if_neg hba]
    by_cases hb4 : shp b = 4
    · exfalso
      have e1 := (shp_45 a hl).1 h
      have e2 := (shp_45 b (shp_le (by omega))).1 hb4
      omega
    · exact (Ec_l4 (by decide) hb4).symm
theorem ZW_5_3 {k : zK} {m : Nat → Nat → Int32} {a : Nat} (h : shp a = 5) (x : Int64) : zpF 5 3 a (.long x) (Z k m) = some (Z (kml k 2 x) m) := by
  have hl := shp_le (a := a) (by omega)
  have hb := (shp_all a hl).2 (by omega) (by omega)
  unfold zpF
  rw [if_neg (by omega), ZO_5 h]
  refine congrArg some ?_
  show (va_up (Ec k m) a (some _), _) = (Ec (kml k 2 x) m, _)
  congr 1
  funext b
  by_cases hba : b = a
  · subst hba
    rw [va_up, if_pos rfl, Ec_5 h]
    rfl
  · rw [va_up, if_neg hba]
    by_cases hb4 : shp b = 5
    · exfalso
      have e1 := (shp_45 a hl).2 h
      have e2 := (shp_45 b (shp_le (by omega))).2 hb4
      omega
    · exact (Ec_l5 (by decide) hb4).symm
theorem ZW_5_4 {k : zK} {m : Nat → Nat → Int32} {a : Nat} (h : shp a = 5) (x : Int64) : zpF 5 4 a (.long x) (Z k m) = some (Z (kml k 3 x) m) := by
  have hl := shp_le (a := a) (by omega)
  have hb := (shp_all a hl).2 (by omega) (by omega)
  unfold zpF
  rw [if_neg (by omega), ZO_5 h]
  refine congrArg some ?_
  show (va_up (Ec k m) a (some _), _) = (Ec (kml k 3 x) m, _)
  congr 1
  funext b
  by_cases hba : b = a
  · subst hba
    rw [va_up, if_pos rfl, Ec_5 h]
    rfl
  · rw [va_up, if_neg hba]
    by_cases hb4 : shp b = 5
    · exfalso
      have e1 := (shp_45 a hl).2 h
      have e2 := (shp_45 b (shp_le (by omega))).2 hb4
      omega
    · exact (Ec_l5 (by decide) hb4).symm
theorem ZW_5_36 {k : zK} {m : Nat → Nat → Int32} {a : Nat} (h : shp a = 5) (x : Int64) : zpF 5 36 a (.long x) (Z k m) = some (Z (kml k 4 x) m) := by
  have hl := shp_le (a := a) (by omega)
  have hb := (shp_all a hl).2 (by omega) (by omega)
  unfold zpF
  rw [if_neg (by omega), ZO_5 h]
  refine congrArg some ?_
  show (va_up (Ec k m) a (some _), _) = (Ec (kml k 4 x) m, _)
  congr 1
  funext b
  by_cases hba : b = a
  · subst hba
    rw [va_up, if_pos rfl, Ec_5 h]
    rfl
  · rw [va_up, if_neg hba]
    by_cases hb4 : shp b = 5
    · exfalso
      have e1 := (shp_45 a hl).2 h
      have e2 := (shp_45 b (shp_le (by omega))).2 hb4
      omega
    · exact (Ec_l5 (by decide) hb4).symm
