section
variable {k : zK} {m : Nat → Nat → Int32} {a c : Nat} {H : zHD} {R : zRS}
theorem okR_go {x lw w : Nat} (hO : okH H) (hok : okR H R) (hx : x < hN H) (hdn : rDn R x = -9) (hw : w ≤ 3) : okR H (goS H lw R x w) := by
  obtain ⟨o1, o2, o3⟩ := hok
  obtain ⟨d1, d2, d3, d4, d5, d6⟩ := o3 x hx
  have hy : rYd R x < hY H := d1.mp hdn
  have h40 := hO.1
  have hf := farS_le (H := H) (R := R) (x := x) hw
  have hh : rHd R < hN H := by rcases o2 with z | z <;> omega
  refine ⟨o1, Or.inl (psY_hd hh _), fun x' hx' => ?_⟩
  by_cases hxx : x' = x
  · subst hxx
    show (va_up (rDn R) x' _ x' = -9 ↔ va_up (rYd R) x' _ x' < hY H) ∧ (va_up (rDn R) x' _ x' = -9 ∨ ∃ d, d ≤ 60 ∧ va_up (rDn R) x' _ x' = nI d) ∧ va_up (rYd R) x' _ x' ≤ 44 ∧ va_up (rBr R) x' _ x' ≤ rMb R x' ∧ 1 ≤ rMb R x' ∧ rMb R x' ≤ 10
    simp only [va_up, if_true]
    refine ⟨?_, ?_, by omega, by omega, d5, d6⟩
    · by_cases h : rYd R x' + farS H R x' w < hY H
      · simp [h]
      · simp only [h, if_false, iff_false]
        exact nI_ne9 (by omega)
    · by_cases h : rYd R x' + farS H R x' w < hY H
      · simp [h]
      · simp only [h, if_false]
        exact Or.inr ⟨rSt R, o1, rfl⟩
  · show (va_up (rDn R) x _ x' = -9 ↔ va_up (rYd R) x _ x' < hY H) ∧ (va_up (rDn R) x _ x' = -9 ∨ ∃ d, d ≤ 60 ∧ va_up (rDn R) x _ x' = nI d) ∧ va_up (rYd R) x _ x' ≤ 44 ∧ va_up (rBr R) x _ x' ≤ rMb R x' ∧ 1 ≤ rMb R x' ∧ rMb R x' ≤ 10
    simp only [va_up, hxx, if_false]
    exact o3 x' hx'
theorem stL_ok {lw : Nat} {wf : Nat → Nat} (hO : okH H) (hok : okR H R) (hw : ∀ x, x < hN H → wf x ≤ 3) : ∀ n, n ≤ hN H → okR H (stL H lw wf n R) ∧ rSt (stL H lw wf n R) = rSt R := by
  intro n
  induction n with
  | zero => intro _; exact ⟨hok, rfl⟩
  | succ n ih =>
    intro hn
    obtain ⟨i1, i2⟩ := ih (by omega)
    unfold stL
    split
    · next h => exact ⟨okR_go hO i1 (by omega) h (hw n (by omega)), i2⟩
    · exact ⟨i1, i2⟩
theorem okR_step {lw : Nat} {wf : Nat → Nat} (hO : okH H) (hok : okR H R) (hw : ∀ x, x < hN H → wf x ≤ 3) (hst : rSt R < 60) : okR H (stepS H lw wf R) := by
  obtain ⟨⟨i1, i2, i3⟩, j⟩ := stL_ok (lw := lw) hO hok hw (hN H) (Nat.le_refl _)
  exact ⟨by show rSt _ + 1 ≤ 60; omega, i2, i3⟩
/-- which PACES the class takes: chosen ones, or those of PLANS -/
def wfX (H : zHD) (st : Nat) (wf : Nat → Nat) (m : Nat → Nat → Int32) : Prop := ∀ x, x < hN H → (m 35 x = -1 ∧ wf x = hP H x (st % hZ H x)) ∨ (m 35 x = nI (wf x) ∧ wf x ≤ 3)
theorem shp_1_35 : ∀ a, a < 104 → shp a = 1 → (a + 6 < 35 ∨ 35 < a) ∧ (a + 6 < 2 ∨ 2 < a) ∧ (a + 6 < 81) := by decide +kernel
theorem wfX_le {st : Nat} {wf : Nat → Nat} (hO : okH H) (h : wfX H st wf m) : ∀ x, x < hN H → wf x ≤ 3 := by
  intro x hx
  rcases h x hx with ⟨-, e⟩ | ⟨-, e⟩
  · obtain ⟨-, z1, -, z3⟩ := hO.2.2.2 x hx
    rw [e]
    exact z3 _ (Nat.mod_lt _ (by omega))
  · exact e
theorem X_ts3 {lw : Nat} {wf : Nat → Nat} (hO : okH H) (hok : okR H R) (hlw : lw ≤ 2) : ∀ n x m f, x + n = hN H → n < f → encH c H m → wfX H (rSt R) wf m → encX a H (stL H lw wf x R) m → ∃ m', zlp (lb_X1_takeStep_3 a c (nI lw) 35) f (nI x) (Z k m) = some ((), Z k m') ∧ encX a H (stepS H lw wf R) m' ∧ zFr a m m' := by
  intro n
  induction n with
  | zero =>
    intro x m f hx hf hH hwf hE
    obtain ⟨f, rfl⟩ : ∃ g, f = g + 1 := ⟨f - 1, by omega⟩
    obtain rfl : x = hN H := by omega
    have ha := hE.1
    have hw := wfX_le hO hwf
    obtain ⟨-, hs⟩ := stL_ok (lw := lw) hO hok hw (hN H) (Nat.le_refl _)
    have hN5 := hO.2.1
    refine ⟨mu m a 1 (nI (rSt (stL H lw wf (hN H) R) + 1)), ?_, E_st _ hE, zFr.mu (by omega) (by omega)⟩
    rw [zlp_s]
    show (zgI 1 0 a (Z k m)).bind _ = _
    rw [ZI_1_0 ha, Option.bind_some, hE.2.1, ifLf (Nat.le_refl _) (by omega)]
    unfold jn_X1_takeStep_64
    rw [ZI_1_1 ha, Option.bind_some, hE.2.2.1, nA_1, ZP_1_1 ha, Option.bind_some]
  | succ n ih =>
    intro x m f hx hf hH hwf hE
    obtain ⟨f, rfl⟩ : ∃ g, f = g + 1 := ⟨f - 1, by omega⟩
    have hxN : x < hN H := by omega
    have ha := hE.1
    have s35 := shp_1_35 a (shp_le (by omega)) ha
    have hN5 := hO.2.1
    have hw := wfX_le hO hwf
    obtain ⟨hokx, hs⟩ := stL_ok (lw := lw) hO hok hw x (by omega)
    have hd := X_isDone (k := k) hE hN5 hxN
    have hst : rSt R ≤ 60 := hok.1
    rw [zlp_s]
    show ∃ m', (zgI 1 0 a (Z k m)).bind _ = _ ∧ _
    rw [ZI_1_0 ha, Option.bind_some, hE.2.1, ifLt hxN (by omega), hd, zbd_s]
    by_cases hdn : rDn (stL H lw wf x R) x = -9
    · rw [if_pos hdn, ifb0]
      have hnext : stL H lw wf (x + 1) R = goS H lw (stL H lw wf x R) x (wf x) := if_pos hdn
      obtain ⟨m1, r1, r2, r3⟩ := X_goBy (k := k) hO hH hokx hxN hdn hlw (hw x hxN) hE
      have hH1 := encH_fr ha hH r3
      have h35 : m1 35 = m 35 := r3 35 (by omega)
      obtain ⟨m', q1, q2, q3⟩ := ih (x + 1) m1 f (by omega) (by omega) hH1 (fun z hz => by rw [h35]; exact hwf z hz) (by rw [hnext]; exact r2)
      refine ⟨m', ?_, q2, zFr.tr r3 q3⟩
      have hjn : jn_X1_takeStep_46 (zlp (lb_X1_takeStep_3 a c (nI lw) 35) f) a c (nI lw) 35 (nI x) (nI (wf x)) (Z k m) = some ((), Z k m') := by
        unfold jn_X1_takeStep_46 jn_X1_takeStep_58
        rw [r1, zbd_s, nA_1, q1]
      rw [Zl5 (show shp 35 = 6 from rfl) (by omega), Option.bind_some]
      rcases hwf x hxN with ⟨e1, e2⟩ | ⟨e1, e2⟩
      · rw [e1, if_pos rfl, ZI_1_1 ha, Option.bind_some, hE.2.2.1, hs, X_plannedPace hO hH hxN hst, zbd_s, ← e2]
        exact hjn
      · rw [e1, if_neg (fun z => (nm1 (by omega)).mp z), Option.bind_some]
        exact hjn
    · rw [if_neg hdn, ifb1]
      have hnext : stL H lw wf (x + 1) R = stL H lw wf x R := if_neg hdn
      obtain ⟨m', q1, q2, q3⟩ := ih (x + 1) m f (by omega) (by omega) hH hwf (by rw [hnext]; exact hE)
      refine ⟨m', ?_, q2, q3⟩
      unfold jn_X1_takeStep_58
      rw [nA_1, q1]
theorem X_takeStep {lw : Nat} {wf : Nat → Nat} (hO : okH H) (hok : okR H R) (hlw : lw ≤ 2) (hH : encH c H m) (hwf : wfX H (rSt R) wf m) (hE : encX a H R m) : ∃ m', dn_X1_takeStep a c (nI lw) 35 (Z k m) = some ((), Z k m') ∧ encX a H (stepS H lw wf R) m' ∧ zFr a m m' := by
  obtain ⟨m', r1, r2, r3⟩ := X_ts3 (k := k) hO hok hlw (hN H) 0 m 2000 (by omega) (by have := hO.2.1; omega) hH hwf hE
  refine ⟨m', ?_, r2, r3⟩
  unfold dn_X1_takeStep
  rw [ZO_1 hE.1, Option.bind_some]
  exact r1
theorem cntD_le : ∀ n, cntD R n ≤ n := by
  intro n
  induction n with
  | zero => exact Nat.le_refl _
  | succ n ih =>
    unfold cntD
    split <;> omega
theorem X_isOver (hN5 : hN H ≤ 5) (hok : okR H R) (hE : encX a H R m) : (ovS H R → dn_X1_isOver a (Z k m) = some (1, Z k m)) ∧ (¬ ovS H R → dn_X1_isOver a (Z k m) = some (0, Z k m)) := by
  have ha := hE.1
  have hc := cntD_le (R := R) (hN H)
  have hst := hok.1
  unfold dn_X1_isOver jn_X1_isOver_20 jn_X1_isOver_25 ovS
  rw [ZO_1 ha, Option.bind_some, ZI_1_2 ha, Option.bind_some, hE.2.2.2.1, ZI_1_0 ha, Option.bind_some, hE.2.1, ZI_1_1 ha, Option.bind_some, hE.2.2.1]
  by_cases h1 : cntD R (hN H) < hN H
  · rw [ifLt h1 (by omega)]
    by_cases h2 : rSt R < 60
    · rw [if_pos ((nL_60 (by omega)).mpr h2)]
      exact ⟨fun h => by omega, fun _ => rfl⟩
    · rw [if_neg (fun z => h2 ((nL_60 (by omega)).mp z))]
      exact ⟨fun _ => rfl, fun h => by omega⟩
  · rw [ifLf (by omega) (by omega)]
    exact ⟨fun _ => rfl, fun h => by omega⟩
/-- a RACE to its end, by PACES wf of the STEP -/
noncomputable def runS (H : zHD) (lw : Nat) (wf : Nat → Nat → Nat) : Nat → zRS → zRS
  | 0, R => R
  | n + 1, R => by classical exact if ovS H R then R else runS H lw wf n (stepS H lw (wf (rSt R)) R)
/-- PACES by PLANS -/
def plW (H : zHD) (st x : Nat) : Nat := hP H x (st % hZ H x)
theorem stepS_st {lw : Nat} {wf : Nat → Nat} (hO : okH H) (hok : okR H R) (hw : ∀ x, x < hN H → wf x ≤ 3) : rSt (stepS H lw wf R) = rSt R + 1 := by
  show rSt _ + 1 = _
  rw [(stL_ok (lw := lw) hO hok hw (hN H) (Nat.le_refl _)).2]
theorem X_ro3 {lw : Nat} (hO : okH H) (hlw : lw ≤ 2) : ∀ n s R m f, s + n = 60 → 60 ≤ n + rSt R → n < f → okR H R → encH c H m → (∀ x, x < hN H → m 35 x = -1) → encX a H R m → ∃ m', zlp (lb_X1_runOut_3 a c (nI lw) 35) f (nI s) (Z k m) = some ((), Z k m') ∧ encX a H (runS H lw (plW H) n R) m' ∧ okR H (runS H lw (plW H) n R) ∧ ovS H (runS H lw (plW H) n R) ∧ zFr a m m' := by
  intro n
  induction n with
  | zero =>
    intro s R m f hs hn hf hok hH h35 hE
    obtain ⟨f, rfl⟩ : ∃ g, f = g + 1 := ⟨f - 1, by omega⟩
    refine ⟨m, ?_, hE, hok, Or.inl (by show 60 ≤ rSt R; omega), zFr.rf⟩
    rw [zlp_s]
    show (if nI s < 60 then _ else _) = _
    rw [if_neg (fun z => by have := (nL_60 (by omega)).mp z; omega)]
    rfl
  | succ n ih =>
    intro s R m f hs hn hf hok hH h35 hE
    obtain ⟨f, rfl⟩ : ∃ g, f = g + 1 := ⟨f - 1, by omega⟩
    have hov := X_isOver (k := k) hO.2.1 hok hE
    have ha := hE.1
    have s35 := shp_1_35 a (shp_le (by omega)) ha
    rw [zlp_s]
    show ∃ m', (if nI s < 60 then zbd (dn_X1_isOver a (Z k m)) _ else _) = _ ∧ _
    rw [if_pos ((nL_60 (by omega)).mpr (by omega))]
    by_cases h : ovS H R
    · have e : runS H lw (plW H) (n + 1) R = R := if_pos h
      rw [hov.1 h, zbd_s, ifb1, e]
      exact ⟨m, rfl, hE, hok, h, zFr.rf⟩
    · have e : runS H lw (plW H) (n + 1) R = runS H lw (plW H) n (stepS H lw (plW H (rSt R)) R) := if_neg h
      have hst : rSt R < 60 := by unfold ovS at h; omega
      have hwf : wfX H (rSt R) (plW H (rSt R)) m := fun x hx => Or.inl ⟨h35 x hx, rfl⟩
      have hw := wfX_le hO hwf
      obtain ⟨m1, r1, r2, r3⟩ := X_takeStep (k := k) hO hok hlw hH hwf hE
      have h351 : m1 35 = m 35 := r3 35 (by omega)
      obtain ⟨m', q1, q2, q3, q4, q5⟩ := ih (s + 1) (stepS H lw (plW H (rSt R)) R) m1 f (by omega) (by rw [stepS_st hO hok hw]; omega) (by omega) (okR_step hO hok hw hst) (encH_fr ha hH r3) (fun x hx => by rw [h351]; exact h35 x hx) r2
      rw [hov.2 h, zbd_s, ifb0, r1, zbd_s, e]
      exact ⟨m', by rw [nA_1]; exact q1, q2, q3, q4, zFr.tr r3 q5⟩
theorem X_runOut {lw : Nat} (hO : okH H) (hlw : lw ≤ 2) (hok : okR H R) (hH : encH c H m) (h35 : ∀ x, x < hN H → m 35 x = -1) (hE : encX a H R m) : ∃ m', dn_X1_runOut a c (nI lw) 35 (Z k m) = some ((), Z k m') ∧ encX a H (runS H lw (plW H) 60 R) m' ∧ okR H (runS H lw (plW H) 60 R) ∧ ovS H (runS H lw (plW H) 60 R) ∧ zFr a m m' := by
  obtain ⟨m', r1, r2⟩ := X_ro3 (k := k) hO hlw 60 0 R m 2000 (by omega) (by omega) (by omega) hok hH h35 hE
  refine ⟨m', ?_, r2⟩
  unfold dn_X1_runOut
  rw [ZO_1 hE.1, Option.bind_some]
  exact r1
end
