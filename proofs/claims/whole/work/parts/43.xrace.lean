section
variable {k : zK} {m : Nat → Nat → Int32} {a c : Nat} {H : zHD} {R : zRS}
theorem X_isOf {p q : Nat} {h : zAH} (hp : p ≤ 5) (hq : q ≤ 5) : dn_X0_isOf (nI p) (nI q) h = some (if p = q ∨ (p = 4 ∧ q = 1) ∨ (p = 5 ∧ q = 2) then 1 else 0, h) := by
  unfold dn_X0_isOf jn_X0_isOf_15 jn_X0_isOf_25 jn_X0_isOf_29 jn_X0_isOf_30
  simp (disch := omega) only [nE, nE_0, nL_0, lL_0, nA_0, nB_0, nM_0, nE_1, nL_1, lL_1, nA_1, nB_1, nM_1, nE_2, nL_2, lL_2, nA_2, nB_2, nM_2, nE_3, nL_3, lL_3, nA_3, nB_3, nM_3, nE_4, nL_4, lL_4, nA_4, nB_4, nM_4, nE_5, nL_5, lL_5, nA_5, nB_5, nM_5, nE_6, nL_6, lL_6, nA_6, nB_6, nM_6, nE_7, nL_7, lL_7, nA_7, nB_7, nM_7, nE_8, nL_8, lL_8, nA_8, nB_8, nM_8, nE_9, nL_9, lL_9, nA_9, nB_9, nM_9, nE_10, nL_10, lL_10, nA_10, nB_10, nM_10, nE_13, nL_13, lL_13, nA_13, nB_13, nM_13, nE_18, nL_18, lL_18, nA_18, nB_18, nM_18, nE_23, nL_23, lL_23, nA_23, nB_23, nM_23, nE_28, nL_28, lL_28, nA_28, nB_28, nM_28, nE_32, nL_32, lL_32, nA_32, nB_32, nM_32, nE_33, nL_33, lL_33, nA_33, nB_33, nM_33, nE_39, nL_39, lL_39, nA_39, nB_39, nM_39, nE_40, nL_40, lL_40, nA_40, nB_40, nM_40, nE_60, nL_60, lL_60, nA_60, nB_60, nM_60, nE_100, nL_100, lL_100, nA_100, nB_100, nM_100]
  by_cases h1 : p = q
  · simp [h1]
  · by_cases h2 : p = 4
    · by_cases h3 : q = 1
      · simp [h2, h3]
      · simp [h2, h3, show ¬ 4 = q from fun z => h1 (h2.trans z)]
    · by_cases h3 : p = 5
      · by_cases h4 : q = 2
        · simp [h3, h4]
        · simp [h3, h4, show ¬ 5 = q from fun z => h1 (h3.trans z)]
      · simp [h1, h2, h3]
theorem X_isOf1 {p : Nat} {h : zAH} (hp : p ≤ 5) : dn_X0_isOf (nI p) 1 h = some (if p = 1 ∨ p = 4 then 1 else 0, h) := by
  exact (X_isOf (q := 1) hp (by decide)).trans (by simp)
theorem X_isOf2 {p : Nat} {h : zAH} (hp : p ≤ 5) : dn_X0_isOf (nI p) 2 h = some (if p = 2 ∨ p = 5 then 1 else 0, h) := by
  exact (X_isOf (q := 2) hp (by decide)).trans (by simp)
theorem X_slopeAt {y : Nat} (hO : okH H) (hH : encH c H m) (hy : y < hY H) : dn_X0_slopeAt c (nI y) (Z k m) = some (iI (hS H y), Z k m) := by
  obtain ⟨hc, e0, -, es, -⟩ := hH
  have hY40 := hO.1
  have s2 := (shp_2 c (shp_le (by omega)) hc).1
  unfold dn_X0_slopeAt jn_X0_slopeAt_21 jn_X0_slopeAt_22
  simp (disch := omega) only [ZO_0 hc, Option.bind_some, ZI_0_0 hc, ZA_0_1 hc, e0, nL, nE_0, nL_0, lL_0, nA_0, nB_0, nM_0, nE_1, nL_1, lL_1, nA_1, nB_1, nM_1, nE_2, nL_2, lL_2, nA_2, nB_2, nM_2, nE_3, nL_3, lL_3, nA_3, nB_3, nM_3, nE_4, nL_4, lL_4, nA_4, nB_4, nM_4, nE_5, nL_5, lL_5, nA_5, nB_5, nM_5, nE_6, nL_6, lL_6, nA_6, nB_6, nM_6, nE_7, nL_7, lL_7, nA_7, nB_7, nM_7, nE_8, nL_8, lL_8, nA_8, nB_8, nM_8, nE_9, nL_9, lL_9, nA_9, nB_9, nM_9, nE_10, nL_10, lL_10, nA_10, nB_10, nM_10, nE_13, nL_13, lL_13, nA_13, nB_13, nM_13, nE_18, nL_18, lL_18, nA_18, nB_18, nM_18, nE_23, nL_23, lL_23, nA_23, nB_23, nM_23, nE_28, nL_28, lL_28, nA_28, nB_28, nM_28, nE_32, nL_32, lL_32, nA_32, nB_32, nM_32, nE_33, nL_33, lL_33, nA_33, nB_33, nM_33, nE_39, nL_39, lL_39, nA_39, nB_39, nM_39, nE_40, nL_40, lL_40, nA_40, nB_40, nM_40, nE_60, nL_60, lL_60, nA_60, nB_60, nM_60, nE_100, nL_100, lL_100, nA_100, nB_100, nM_100, hy, Zl40 s2, es y hy, if_true, Nat.not_lt_zero, if_false]
theorem X_isDone {x : Nat} (hR : encX a H R m) (hN5 : hN H ≤ 5) (hx : x < hN H) : dn_X1_isDone a (nI x) (Z k m) = some (if rDn R x = -9 then 0 else 1, Z k m) := by
  obtain ⟨ha, -, -, -, -, -, ex⟩ := hR
  have s := shp_1 a (shp_le (by omega)) ha
  unfold dn_X1_isDone jn_X1_isDone_16
  simp (disch := omega) only [ZO_1 ha, Option.bind_some, ZA_1_9 ha, Zl5 s.2.2.2.1, (ex x hx).2.2.2.1]
  by_cases h : rDn R x = -9 <;> simp [h]
theorem X_plannedPace {x st : Nat} (hO : okH H) (hH : encH c H m) (hx : x < hN H) (hst : st ≤ 60) : dn_X0_plannedPace c (nI x) (nI st) (Z k m) = some (nI (hP H x (st % hZ H x)), Z k m) := by
  obtain ⟨hc, e0, -, es, ex⟩ := hH
  obtain ⟨o1, o2, -, o4⟩ := hO
  obtain ⟨o5, o6, o7, o8⟩ := o4 x hx
  obtain ⟨x1, x2, x3⟩ := ex x hx
  have s2 := shp_2 c (shp_le (by omega)) hc
  have hlt : st % hZ H x < hZ H x := Nat.mod_lt _ (by omega)
  unfold dn_X0_plannedPace jn_X0_plannedPace_23 dn_X0_paceAt jn_X0_paceAt_24 jn_X0_paceAt_25
  simp (disch := omega) only [ZO_0 hc, Option.bind_some, ZA_0_6 hc, ZA_0_7 hc, Zl5 s2.2.2.2.2.1, x2, nE_0, nL_0, lL_0, nA_0, nB_0, nM_0, nE_1, nL_1, lL_1, nA_1, nB_1, nM_1, nE_2, nL_2, lL_2, nA_2, nB_2, nM_2, nE_3, nL_3, lL_3, nA_3, nB_3, nM_3, nE_4, nL_4, lL_4, nA_4, nB_4, nM_4, nE_5, nL_5, lL_5, nA_5, nB_5, nM_5, nE_6, nL_6, lL_6, nA_6, nB_6, nM_6, nE_7, nL_7, lL_7, nA_7, nB_7, nM_7, nE_8, nL_8, lL_8, nA_8, nB_8, nM_8, nE_9, nL_9, lL_9, nA_9, nB_9, nM_9, nE_10, nL_10, lL_10, nA_10, nB_10, nM_10, nE_13, nL_13, lL_13, nA_13, nB_13, nM_13, nE_18, nL_18, lL_18, nA_18, nB_18, nM_18, nE_23, nL_23, lL_23, nA_23, nB_23, nM_23, nE_28, nL_28, lL_28, nA_28, nB_28, nM_28, nE_32, nL_32, lL_32, nA_32, nB_32, nM_32, nE_33, nL_33, lL_33, nA_33, nB_33, nM_33, nE_39, nL_39, lL_39, nA_39, nB_39, nM_39, nE_40, nL_40, lL_40, nA_40, nB_40, nM_40, nE_60, nL_60, lL_60, nA_60, nB_60, nM_60, nE_100, nL_100, lL_100, nA_100, nB_100, nM_100, nMod, nI_add, zbd_s]
  rw [if_pos (by omega), if_neg (by omega), if_neg (by omega), if_pos (by omega), Zl40 s2.2.2.2.2.2 (by omega), x3 _ hlt]
  rfl
theorem ZN0 : zaN 0 (Z k m) = some 4 := rfl
theorem ZT0 {p : Nat} (hp : p < 4) : zaI 0 0 (nI p) (Z k m) = some (zBch p) := by
  unfold zaI
  rw [show (Z k m).1 0 = some (.inl (0, 4, zBch)) from rfl]
  dsimp only
  rw [if_pos rfl, nI_clamp (by omega), if_neg (fun q => q.elim (fun q => nI_pos (by omega) q) (fun q => by omega))]
theorem ZT00 : zaI 0 0 0 (Z k m) = some (zBch 0) := ZT0 (p := 0) (by decide)
theorem iAm1 (z : Int) : iI z + (-1) = iI (z + -1) := by rw [iI_m1, iI_add]
theorem X_breathAfter {x p : Nat} (hO : okH H) (hR : encX a H R m) (hok : okR H R) (hx : x < hN H) (hy : rYd R x < hY H) (hp : p ≤ 3) : dn_X1_breathAfter a (nI (hK H x)) (nI x) (iI (hS H (rYd R x))) (nI p) (Z k m) = some (iI (bAf H R x p), Z k m) := by
  obtain ⟨ha, -, -, -, e3, -, ex⟩ := hR
  have s := shp_1 a (shp_le (by omega)) ha
  have hbr := (ex x hx).2.1
  have hk5 := (hO.2.2.2 x hx).1
  have hN5 := hO.2.1
  obtain ⟨hs1, hs2⟩ := hO.2.2.1 _ hy
  obtain ⟨-, -, -, o4, o5, o6⟩ := hok.2.2 x hx
  have hh : rHd R < 5 := by rcases hok.2.1 with z | z <;> omega
  unfold bAf
  generalize hS H (rYd R x) = sl at *
  generalize hK H x = kd at *
  generalize rBr R x = br at *
  generalize rHd R = hd at *
  have hbr10 : br ≤ 10 := by omega
  have cs : ∀ v5 : Int, jn_X1_breathAfter_86 a (nI kd) (nI x) (iI v5) (Z k m) = some (iI (v5 - (if hd = x ∧ ¬ (kd = 2 ∨ kd = 5) then 1 else 0)), Z k m) := by
    intro v5
    unfold jn_X1_breathAfter_86 jn_X1_breathAfter_105
    simp (disch := omega) only [Option.bind_some, ZI_1_3 ha, e3, nE, X_isOf2, zbd_s, iAm1]
    by_cases h1 : hd = x <;> by_cases h2 : kd = 2 ∨ kd = 5 <;> simp [h1, h2, Int.sub_eq_add_neg]
  have cs2 : ∀ v5 : Int, jn_X1_breathAfter_73 a (nI kd) (nI x) (iI sl) (nI p) (iI v5) (Z k m) = some (iI (v5 + (if sl < 0 ∧ 1 < p then 1 else 0) - (if hd = x ∧ ¬ (kd = 2 ∨ kd = 5) then 1 else 0)), Z k m) := by
    intro v5
    unfold jn_X1_breathAfter_73
    simp (disch := omega) only [nE_0, nL_0, lL_0, nA_0, nB_0, nM_0, nE_1, nL_1, lL_1, nA_1, nB_1, nM_1, nE_2, nL_2, lL_2, nA_2, nB_2, nM_2, nE_3, nL_3, lL_3, nA_3, nB_3, nM_3, nE_4, nL_4, lL_4, nA_4, nB_4, nM_4, nE_5, nL_5, lL_5, nA_5, nB_5, nM_5, nE_6, nL_6, lL_6, nA_6, nB_6, nM_6, nE_7, nL_7, lL_7, nA_7, nB_7, nM_7, nE_8, nL_8, lL_8, nA_8, nB_8, nM_8, nE_9, nL_9, lL_9, nA_9, nB_9, nM_9, nE_10, nL_10, lL_10, nA_10, nB_10, nM_10, nE_13, nL_13, lL_13, nA_13, nB_13, nM_13, nE_18, nL_18, lL_18, nA_18, nB_18, nM_18, nE_23, nL_23, lL_23, nA_23, nB_23, nM_23, nE_28, nL_28, lL_28, nA_28, nB_28, nM_28, nE_32, nL_32, lL_32, nA_32, nB_32, nM_32, nE_33, nL_33, lL_33, nA_33, nB_33, nM_33, nE_39, nL_39, lL_39, nA_39, nB_39, nM_39, nE_40, nL_40, lL_40, nA_40, nB_40, nM_40, nE_60, nL_60, lL_60, nA_60, nB_60, nM_60, nE_100, nL_100, lL_100, nA_100, nB_100, nM_100, iL_0, jL_0, iE_0, iA_0, iL_1, jL_1, iE_1, iA_1, iL_2, jL_2, iE_2, iA_2, iL_3, jL_3, iE_3, iA_3, iL_4, jL_4, iE_4, iA_4, iL_5, jL_5, iE_5, iA_5, iL_6, jL_6, iE_6, iA_6, iL_7, jL_7, iE_7, iA_7, iL_8, jL_8, iE_8, iA_8, iL_9, jL_9, iE_9, iA_9, iL_10, jL_10, iE_10, iA_10, iL_13, jL_13, iE_13, iA_13, iL_18, jL_18, iE_18, iA_18, iL_23, jL_23, iE_23, iA_23, iL_28, jL_28, iE_28, iA_28, iL_32, jL_32, iE_32, iA_32, iL_33, jL_33, iE_33, iA_33, iL_39, jL_39, iE_39, iA_39, iL_40, jL_40, iE_40, iA_40, iL_60, jL_60, iE_60, iA_60, iL_100, jL_100, iE_100, iA_100, cs]
    by_cases h1 : sl < 0 <;> by_cases h2 : 1 < p <;> simp [h1, h2]
  have cs3 : ∀ w0 w1 : Int, jn_X1_breathAfter_52 a (nI kd) (nI x) (iI sl) (nI p) (iI w0) (iI w1) (Z k m) = some (iI (w0 + w1 - (if 0 < sl ∧ ¬ (kd = 1 ∨ kd = 4) then sl else 0) + (if sl < 0 ∧ 1 < p then 1 else 0) - (if hd = x ∧ ¬ (kd = 2 ∨ kd = 5) then 1 else 0)), Z k m) := by
    intro w0 w1
    unfold jn_X1_breathAfter_52
    simp (disch := omega) only [iL_0, jL_0, iE_0, iA_0, iL_1, jL_1, iE_1, iA_1, iL_2, jL_2, iE_2, iA_2, iL_3, jL_3, iE_3, iA_3, iL_4, jL_4, iE_4, iA_4, iL_5, jL_5, iE_5, iA_5, iL_6, jL_6, iE_6, iA_6, iL_7, jL_7, iE_7, iA_7, iL_8, jL_8, iE_8, iA_8, iL_9, jL_9, iE_9, iA_9, iL_10, jL_10, iE_10, iA_10, iL_13, jL_13, iE_13, iA_13, iL_18, jL_18, iE_18, iA_18, iL_23, jL_23, iE_23, iA_23, iL_28, jL_28, iE_28, iA_28, iL_32, jL_32, iE_32, iA_32, iL_33, jL_33, iE_33, iA_33, iL_39, jL_39, iE_39, iA_39, iL_40, jL_40, iE_40, iA_40, iL_60, jL_60, iE_60, iA_60, iL_100, jL_100, iE_100, iA_100, X_isOf1, zbd_s, iI_add, iI_sub, cs2]
    by_cases h1 : 0 < sl <;> by_cases h2 : kd = 1 ∨ kd = 4 <;> simp [h1, h2]
  unfold dn_X1_breathAfter jn_X1_breathAfter_25
  simp (disch := omega) only [ZO_1 ha, Option.bind_some, ZA_1_7 ha, Zl5 s.2.1, hbr, ZN0, nE_0, nL_0, lL_0, nA_0, nB_0, nM_0, nE_1, nL_1, lL_1, nA_1, nB_1, nM_1, nE_2, nL_2, lL_2, nA_2, nB_2, nM_2, nE_3, nL_3, lL_3, nA_3, nB_3, nM_3, nE_4, nL_4, lL_4, nA_4, nB_4, nM_4, nE_5, nL_5, lL_5, nA_5, nB_5, nM_5, nE_6, nL_6, lL_6, nA_6, nB_6, nM_6, nE_7, nL_7, lL_7, nA_7, nB_7, nM_7, nE_8, nL_8, lL_8, nA_8, nB_8, nM_8, nE_9, nL_9, lL_9, nA_9, nB_9, nM_9, nE_10, nL_10, lL_10, nA_10, nB_10, nM_10, nE_13, nL_13, lL_13, nA_13, nB_13, nM_13, nE_18, nL_18, lL_18, nA_18, nB_18, nM_18, nE_23, nL_23, lL_23, nA_23, nB_23, nM_23, nE_28, nL_28, lL_28, nA_28, nB_28, nM_28, nE_32, nL_32, lL_32, nA_32, nB_32, nM_32, nE_33, nL_33, lL_33, nA_33, nB_33, nM_33, nE_39, nL_39, lL_39, nA_39, nB_39, nM_39, nE_40, nL_40, lL_40, nA_40, nB_40, nM_40, nE_60, nL_60, lL_60, nA_60, nB_60, nM_60, nE_100, nL_100, lL_100, nA_100, nB_100, nM_100, ZT0, ZT00]
  rcases (show p = 0 ∨ p = 1 ∨ p = 2 ∨ p = 3 by omega) with rfl | rfl | rfl | rfl
  · by_cases h4 : kd = 4
    · simp [h4, iI_nI, iI_add, show (3 : Int32) = iI 3 from rfl]
    · simp [h4, iI_nI, iI_add, show zBch 0 = iI 2 from rfl]
  · rw [if_pos (by omega), if_pos (by omega), iI_nI br, show zBch 1 = iI 1 from rfl, cs3]
    simp
  · rw [if_pos (by omega), if_pos (by omega), iI_nI br, show zBch 2 = iI (-1) from rfl, cs3]
    simp
  · rw [if_pos (by omega), if_pos (by omega), iI_nI br, show zBch 3 = iI (-3) from rfl, cs3]
    simp
end
