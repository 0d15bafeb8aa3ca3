section
variable {k : zK} {m : Nat → Nat → Int32} {a c : Nat} {H : zHD} {R : zRS}
/-- what lies outside a RACE's seven cells stays -/
def zFr (a : Nat) (m m' : Nat → Nat → Int32) : Prop := ∀ b, (b < a ∨ a + 6 < b) → m' b = m b
theorem zFr.rf : zFr a m m := fun _ _ => rfl
theorem zFr.tr {m1 m2 : Nat → Nat → Int32} (h1 : zFr a m m1) (h2 : zFr a m1 m2) : zFr a m m2 := fun b hb => (h2 b hb).trans (h1 b hb)
theorem zFr.mu {b j : Nat} {v : Int32} (h1 : a ≤ b) (h2 : b ≤ a + 6) : zFr a m (mu m b j v) := fun q hq => mu_ar m j v (by omega)
theorem cntD_cg {R' : zRS} {n : Nat} (h : ∀ x, x < n → rDn R' x = rDn R x) : cntD R' n = cntD R n := by
  induction n with
  | zero => rfl
  | succ n ih => simp only [cntD, ih (fun x hx => h x (by omega)), h n (by omega)]
theorem E_ps (v : Int32) (h : encX a H R m) : encX a H (rSt R, rHd R, v, R.2.2.2) (mu m a 4 v) := by
  obtain ⟨ha, e0, e1, e2, e3, e4, ex⟩ := h
  refine ⟨ha, ?_, ?_, ?_, ?_, ?_, fun x hx => ?_⟩
  · rw [mu_j _ _ (by decide)]; exact e0
  · rw [mu_j _ _ (by decide)]; exact e1
  · rw [mu_j _ _ (by decide)]; exact e2.trans (congrArg nI (cntD_cg (fun _ _ => rfl)))
  · rw [mu_j _ _ (by decide)]; exact e3
  · rw [mu_s]
  · simp only [mu_ar m 4 v (show a + 1 ≠ a by omega), mu_ar m 4 v (show a + 2 ≠ a by omega), mu_ar m 4 v (show a + 3 ≠ a by omega), mu_ar m 4 v (show a + 4 ≠ a by omega), mu_ar m 4 v (show a + 5 ≠ a by omega), mu_ar m 4 v (show a + 6 ≠ a by omega)]
    exact ex x hx
theorem E_hd (d : Nat) (h : encX a H R m) : encX a H (rSt R, d, R.2.2) (mu m a 3 (nI d)) := by
  obtain ⟨ha, e0, e1, e2, e3, e4, ex⟩ := h
  refine ⟨ha, ?_, ?_, ?_, ?_, ?_, fun x hx => ?_⟩
  · rw [mu_j _ _ (by decide)]; exact e0
  · rw [mu_j _ _ (by decide)]; exact e1
  · rw [mu_j _ _ (by decide)]; exact e2.trans (congrArg nI (cntD_cg (fun _ _ => rfl)))
  · rw [mu_s]
  · rw [mu_j _ _ (by decide)]; exact e4
  · simp only [mu_ar m 3 (nI d) (show a + 1 ≠ a by omega), mu_ar m 3 (nI d) (show a + 2 ≠ a by omega), mu_ar m 3 (nI d) (show a + 3 ≠ a by omega), mu_ar m 3 (nI d) (show a + 4 ≠ a by omega), mu_ar m 3 (nI d) (show a + 5 ≠ a by omega), mu_ar m 3 (nI d) (show a + 6 ≠ a by omega)]
    exact ex x hx
theorem E_st (d : Nat) (h : encX a H R m) : encX a H (d, R.2) (mu m a 1 (nI d)) := by
  obtain ⟨ha, e0, e1, e2, e3, e4, ex⟩ := h
  have hc : ∀ n, cntD (d, R.2) n = cntD R n := by
    intro n
    induction n with
    | zero => rfl
    | succ n ih => simp only [cntD, ih]
  refine ⟨ha, ?_, ?_, ?_, ?_, ?_, fun x hx => ?_⟩
  · rw [mu_j _ _ (by decide)]; exact e0
  · rw [mu_s]
  · rw [mu_j _ _ (by decide), hc]; exact e2
  · rw [mu_j _ _ (by decide)]; exact e3
  · rw [mu_j _ _ (by decide)]; exact e4
  · simp only [mu_ar m 1 (nI d) (show a + 1 ≠ a by omega), mu_ar m 1 (nI d) (show a + 2 ≠ a by omega), mu_ar m 1 (nI d) (show a + 3 ≠ a by omega), mu_ar m 1 (nI d) (show a + 4 ≠ a by omega), mu_ar m 1 (nI d) (show a + 5 ≠ a by omega), mu_ar m 1 (nI d) (show a + 6 ≠ a by omega)]
    exact ex x hx
/-- an array of a RACE takes a value: place i of the six -/
theorem E_ar (i x0 : Nat) (v : Int32) (hi1 : 1 ≤ i) (hi : i ≤ 6) (R' : zRS) (h : encX a H R m) (hs : rSt R' = rSt R ∧ rHd R' = rHd R ∧ rPs R' = rPs R ∧ cntD R' (hN H) = cntD R (hN H))
    (he : ∀ x, x < hN H → (x = x0 ∧ i = 1 ∧ nI (min (rYd R' x) (hY H)) = v ∨ ¬ (x = x0 ∧ i = 1) ∧ rYd R' x = rYd R x) ∧ (x = x0 ∧ i = 2 ∧ nI (rBr R' x) = v ∨ ¬ (x = x0 ∧ i = 2) ∧ rBr R' x = rBr R x) ∧ (x = x0 ∧ i = 3 ∧ nI (rMb R' x) = v ∨ ¬ (x = x0 ∧ i = 3) ∧ rMb R' x = rMb R x) ∧ (x = x0 ∧ i = 4 ∧ rDn R' x = v ∨ ¬ (x = x0 ∧ i = 4) ∧ rDn R' x = rDn R x) ∧ (x = x0 ∧ i = 5 ∧ rCr R' x = v ∨ ¬ (x = x0 ∧ i = 5) ∧ rCr R' x = rCr R x) ∧ (x = x0 ∧ i = 6 ∧ rPb R' x = v ∨ ¬ (x = x0 ∧ i = 6) ∧ rPb R' x = rPb R x)) : encX a H R' (mu m (a + i) x0 v) := by
  obtain ⟨ha, e0, e1, e2, e3, e4, ex⟩ := h
  obtain ⟨s1, s2, s3, s4⟩ := hs
  have ho : mu m (a + i) x0 v a = m a := mu_ar m x0 v (by omega)
  refine ⟨ha, by rw [ho]; exact e0, by rw [ho, s1]; exact e1, by rw [ho, s4]; exact e2, by rw [ho, s2]; exact e3, by rw [ho, s3]; exact e4, fun x hx => ?_⟩
  obtain ⟨q1, q2, q3, q4, q5, q6⟩ := ex x hx
  obtain ⟨p1, p2, p3, p4, p5, p6⟩ := he x hx
  have key : ∀ j : Nat, (x = x0 ∧ i = j → mu m (a + i) x0 v (a + j) x = v) ∧ (¬ (x = x0 ∧ i = j) → mu m (a + i) x0 v (a + j) x = m (a + j) x) := by
    intro j
    constructor
    · rintro ⟨rfl, rfl⟩; exact mu_s m _ _ v
    · intro hn
      by_cases hj : i = j
      · subst hj
        exact mu_j m v (fun z => hn ⟨z, rfl⟩)
      · exact mu_a m _ _ v (by omega)
  refine ⟨?_, ?_, ?_, ?_, ?_, ?_⟩
  · rcases p1 with ⟨z1, z2, z3⟩ | ⟨z1, z2⟩
    · rw [(key 1).1 ⟨z1, z2⟩, z3]
    · rw [(key 1).2 z1, z2]; exact q1
  · rcases p2 with ⟨z1, z2, z3⟩ | ⟨z1, z2⟩
    · rw [(key 2).1 ⟨z1, z2⟩, z3]
    · rw [(key 2).2 z1, z2]; exact q2
  · rcases p3 with ⟨z1, z2, z3⟩ | ⟨z1, z2⟩
    · rw [(key 3).1 ⟨z1, z2⟩, z3]
    · rw [(key 3).2 z1, z2]; exact q3
  · rcases p4 with ⟨z1, z2, z3⟩ | ⟨z1, z2⟩
    · rw [(key 4).1 ⟨z1, z2⟩, z3]
    · rw [(key 4).2 z1, z2]; exact q4
  · rcases p5 with ⟨z1, z2, z3⟩ | ⟨z1, z2⟩
    · rw [(key 5).1 ⟨z1, z2⟩, z3]
    · rw [(key 5).2 z1, z2]; exact q5
  · rcases p6 with ⟨z1, z2, z3⟩ | ⟨z1, z2⟩
    · rw [(key 6).1 ⟨z1, z2⟩, z3]
    · rw [(key 6).2 z1, z2]; exact q6
theorem E_pb (x0 : Nat) (v : Int32) (h : encX a H R m) : encX a H (rSt R, rHd R, rPs R, rYd R, rBr R, rMb R, rDn R, rCr R, va_up (rPb R) x0 v) (mu m (a + 6) x0 v) := by
  refine E_ar 6 x0 v (by decide) (by decide) _ h ⟨rfl, rfl, rfl, ?_⟩ ?_
  · exact cntD_cg (fun _ _ => rfl)
  · intro x hx
    by_cases hxx : x = x0 <;> simp [va_up, hxx, rYd, rBr, rMb, rDn, rCr, rPb]
theorem E_br (x0 b : Nat) (h : encX a H R m) : encX a H (rSt R, rHd R, rPs R, rYd R, va_up (rBr R) x0 b, R.2.2.2.2.2) (mu m (a + 2) x0 (nI b)) := by
  refine E_ar 2 x0 _ (by decide) (by decide) _ h ⟨rfl, rfl, rfl, ?_⟩ ?_
  · exact cntD_cg (fun _ _ => rfl)
  · intro x hx
    by_cases hxx : x = x0 <;> simp [va_up, hxx, rYd, rBr, rMb, rDn, rCr, rPb]
theorem E_cr (x0 : Nat) (v : Int32) (h : encX a H R m) : encX a H (rSt R, rHd R, rPs R, rYd R, rBr R, rMb R, rDn R, va_up (rCr R) x0 v, rPb R) (mu m (a + 5) x0 v) := by
  refine E_ar 5 x0 v (by decide) (by decide) _ h ⟨rfl, rfl, rfl, ?_⟩ ?_
  · exact cntD_cg (fun _ _ => rfl)
  · intro x hx
    by_cases hxx : x = x0 <;> simp [va_up, hxx, rYd, rBr, rMb, rDn, rCr, rPb]
theorem E_yd (x0 y : Nat) (h : encX a H R m) : encX a H (rSt R, rHd R, rPs R, va_up (rYd R) x0 y, R.2.2.2.2) (mu m (a + 1) x0 (nI (min y (hY H)))) := by
  refine E_ar 1 x0 _ (by decide) (by decide) _ h ⟨rfl, rfl, rfl, ?_⟩ ?_
  · exact cntD_cg (fun _ _ => rfl)
  · intro x hx
    by_cases hxx : x = x0 <;> simp [va_up, hxx, rYd, rBr, rMb, rDn, rCr, rPb]
theorem X_sackMoves {x lw : Nat} {sl : Int} (hN5 : hN H ≤ 5) (hR : encX a H R m) (hh : rHd R < hN H) (hx : x < hN H) (hlw : lw ≤ 2) (hs1 : -1 ≤ sl) (hs2 : sl ≤ 2) : (mvS (rDn R) lw x sl (rHd R) → dn_X1_sackMoves a (nI x) (nI lw) (iI sl) (Z k m) = some (1, Z k m)) ∧ (¬ mvS (rDn R) lw x sl (rHd R) → dn_X1_sackMoves a (nI x) (nI lw) (iI sl) (Z k m) = some (0, Z k m)) := by
  obtain ⟨ha, -, -, -, e3, -, ex⟩ := hR
  have s := shp_1 a (shp_le (by omega)) ha
  have hdn := (ex _ hh).2.2.2.1
  unfold dn_X1_sackMoves jn_X1_sackMoves_33 jn_X1_sackMoves_42 jn_X1_sackMoves_46 jn_X1_sackMoves_47 mvS
  simp (disch := omega) only [ZO_1 ha, Option.bind_some, ZA_1_9 ha, ZI_1_3 ha, e3, Zl5 s.2.2.2.1, hdn, nE, nE_0, nL_0, lL_0, nA_0, nB_0, nM_0, nE_1, nL_1, lL_1, nA_1, nB_1, nM_1, nE_2, nL_2, lL_2, nA_2, nB_2, nM_2, nE_3, nL_3, lL_3, nA_3, nB_3, nM_3, nE_4, nL_4, lL_4, nA_4, nB_4, nM_4, nE_5, nL_5, lL_5, nA_5, nB_5, nM_5, nE_6, nL_6, lL_6, nA_6, nB_6, nM_6, nE_7, nL_7, lL_7, nA_7, nB_7, nM_7, nE_8, nL_8, lL_8, nA_8, nB_8, nM_8, nE_9, nL_9, lL_9, nA_9, nB_9, nM_9, nE_10, nL_10, lL_10, nA_10, nB_10, nM_10, nE_13, nL_13, lL_13, nA_13, nB_13, nM_13, nE_18, nL_18, lL_18, nA_18, nB_18, nM_18, nE_23, nL_23, lL_23, nA_23, nB_23, nM_23, nE_28, nL_28, lL_28, nA_28, nB_28, nM_28, nE_32, nL_32, lL_32, nA_32, nB_32, nM_32, nE_33, nL_33, lL_33, nA_33, nB_33, nM_33, nE_39, nL_39, lL_39, nA_39, nB_39, nM_39, nE_40, nL_40, lL_40, nA_40, nB_40, nM_40, nE_60, nL_60, lL_60, nA_60, nB_60, nM_60, nE_100, nL_100, lL_100, nA_100, nB_100, nM_100, iL_0, jL_0, iE_0, iA_0, iL_1, jL_1, iE_1, iA_1, iL_2, jL_2, iE_2, iA_2, iL_3, jL_3, iE_3, iA_3, iL_4, jL_4, iE_4, iA_4, iL_5, jL_5, iE_5, iA_5, iL_6, jL_6, iE_6, iA_6, iL_7, jL_7, iE_7, iA_7, iL_8, jL_8, iE_8, iA_8, iL_9, jL_9, iE_9, iA_9, iL_10, jL_10, iE_10, iA_10, iL_13, jL_13, iE_13, iA_13, iL_18, jL_18, iE_18, iA_18, iL_23, jL_23, iE_23, iA_23, iL_28, jL_28, iE_28, iA_28, iL_32, jL_32, iE_32, iA_32, iL_33, jL_33, iE_33, iA_33, iL_39, jL_39, iE_39, iA_39, iL_40, jL_40, iE_40, iA_40, iL_60, jL_60, iE_60, iA_60, iL_100, jL_100, iE_100, iA_100]
  by_cases h1 : rDn R (rHd R) = -9
  · rcases (show lw = 0 ∨ lw = 1 ∨ lw = 2 by omega) with rfl | rfl | rfl
    · simp [h1]
    · by_cases h2 : rHd R = x <;> simp [h1, h2]
    · by_cases h2 : 0 < sl
      · simp [h1, h2, show ¬ sl ≤ 0 by omega]
      · simp [h1, h2, show sl ≤ 0 by omega]
  · simp [h1]
end
