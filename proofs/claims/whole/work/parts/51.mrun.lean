section
variable {k : zK} {m : Nat → Nat → Int32} {q : Nat} {H : zHD} {R : zRS}
theorem M_st2 {lw : Nat} {wf : Nat → Nat} (hO : okH H) (hok : okR H R) (hlw : lw ≤ 2) : ∀ n x m f, x + n = hN H → n < f → encG H m → zMq q lw m → wfM H (rSt R) wf m → encM q H (stL H lw wf x R) m → ∃ m', zlp (lb_X5_step_2 81) f (nI x) (Z k m) = some ((), Z k m') ∧ encM q H (stepS H lw wf R) m' ∧ zFm q m m' := by
  intro n
  induction n with
  | zero =>
    intro x m f hx hf hG hM hwf hE
    obtain ⟨f, rfl⟩ : ∃ g, f = g + 1 := ⟨f - 1, by omega⟩
    obtain rfl : x = hN H := by omega
    have hN5 := hO.2.1
    have hq := hE.1
    refine ⟨mu m 100 (q + 0) (nI (rSt (stL H lw wf (hN H) R) + 1)), ?_, G_st _ hN5 hE, zFm.mu (by omega)⟩
    rw [zlp_s]
    show (zgI 5 12 81 (Z k m)).bind _ = _
    rw [ZI_5_12 s81, Option.bind_some, hG.2.1, ifLf (Nat.le_refl _) (by omega)]
    unfold jn_X5_step_29
    rw [M_v0 hM.1 hq, zbd_s, hE.2.1, nA_1, M_put0 hM.1 hq, zbd_s]
  | succ n ih =>
    intro x m f hx hf hG hM hwf hE
    obtain ⟨f, rfl⟩ : ∃ g, f = g + 1 := ⟨f - 1, by omega⟩
    have hxN : x < hN H := by omega
    have hN5 := hO.2.1
    have hw := wfM_le hO hwf
    obtain ⟨hokx, hs⟩ := stL_ok (lw := lw) hO hok hw x (by omega)
    have hd := M_isDone (k := k) hM.1 hE hN5 hxN
    rw [zlp_s]
    show ∃ m', (zgI 5 12 81 (Z k m)).bind _ = _ ∧ _
    rw [ZI_5_12 s81, Option.bind_some, hG.2.1, ifLt hxN (by omega), hd, zbd_s]
    by_cases hdn : rDn (stL H lw wf x R) x = -9
    · rw [if_pos hdn, ifb0]
      have hnext : stL H lw wf (x + 1) R = goS H lw (stL H lw wf x R) x (wf x) := if_pos hdn
      have hwant := M_wanted (k := k) (wf := wf) hO hG hM.1 hE hokx hxN (by rw [hs]; exact hwf)
      obtain ⟨m1, r1, r2, r3⟩ := M_goesOn (k := k) hO hG hM hlw hE hokx hxN hdn (hw x hxN) hwant
      obtain ⟨m', q1, q2, q3⟩ := ih (x + 1) m1 f (by omega) (by omega) (encG_fr hG r3) (hM.fr r3) (hwf.fr r3) (by rw [hnext]; exact r2)
      refine ⟨m', ?_, q2, zFm.tr r3 q3⟩
      unfold jn_X5_step_23
      rw [r1, zbd_s, nA_1, q1]
    · rw [if_neg hdn, ifb1]
      have hnext : stL H lw wf (x + 1) R = stL H lw wf x R := if_neg hdn
      obtain ⟨m', q1, q2, q3⟩ := ih (x + 1) m f (by omega) (by omega) hG hM hwf (by rw [hnext]; exact hE)
      refine ⟨m', ?_, q2, q3⟩
      unfold jn_X5_step_23
      rw [nA_1, q1]
theorem M_step {lw : Nat} {wf : Nat → Nat} (hO : okH H) (hok : okR H R) (hlw : lw ≤ 2) (hG : encG H m) (hM : zMq q lw m) (hwf : wfM H (rSt R) wf m) (hE : encM q H R m) : ∃ m', dn_X5_step 81 (Z k m) = some ((), Z k m') ∧ encM q H (stepS H lw wf R) m' ∧ zFm q m m' := by
  obtain ⟨m', r1, r2, r3⟩ := M_st2 (k := k) hO hok hlw (hN H) 0 m 2000 (by omega) (by have := hO.2.1; omega) hG hM hwf hE
  refine ⟨m', ?_, r2, r3⟩
  unfold dn_X5_step
  rw [ZO_5 s81, Option.bind_some]
  exact r1
theorem M_dm (hN5 : hN H ≤ 5) (hG : encG H m) (hb : m 81 29 = nI q) (hE : encM q H R m) : ∀ n x f, x + n = hN H → n < f → zlp (lb_X5_doneMany_4 81) f (nI (cntD R x), nI x) (Z k m) = some (nI (cntD R (hN H)), Z k m) := by
  intro n
  induction n with
  | zero =>
    intro x f hx hf
    obtain ⟨f, rfl⟩ : ∃ g, f = g + 1 := ⟨f - 1, by omega⟩
    obtain rfl : x = hN H := by omega
    rw [zlp_s]
    show (zgI 5 12 81 (Z k m)).bind _ = _
    rw [ZI_5_12 s81, Option.bind_some, hG.2.1, ifLf (Nat.le_refl _) (by omega)]
    rfl
  | succ n ih =>
    intro x f hx hf
    obtain ⟨f, rfl⟩ : ∃ g, f = g + 1 := ⟨f - 1, by omega⟩
    have hxN : x < hN H := by omega
    have hd := M_isDone (k := k) hb hE hN5 hxN
    rw [zlp_s]
    show (zgI 5 12 81 (Z k m)).bind _ = _
    rw [ZI_5_12 s81, Option.bind_some, hG.2.1, ifLt hxN (by omega), hd, zbd_s]
    have h9 := ih (x + 1) f (by omega) (by omega)
    unfold jn_X5_doneMany_26
    by_cases hdn : rDn R x = -9
    · have e : cntD R (x + 1) = cntD R x := by show cntD R x + _ = _; rw [if_pos hdn]; rfl
      rw [e] at h9
      rw [if_pos hdn, ifb0, Int32.add_zero, nA_1]
      exact h9
    · have e : cntD R (x + 1) = cntD R x + 1 := by show cntD R x + _ = _; rw [if_neg hdn]
      rw [e] at h9
      rw [if_neg hdn, ifb1, nA_1, nA_1]
      exact h9
theorem M_doneMany (hN5 : hN H ≤ 5) (hG : encG H m) (hb : m 81 29 = nI q) (hE : encM q H R m) : dn_X5_doneMany 81 (Z k m) = some (nI (cntD R (hN H)), Z k m) := by
  unfold dn_X5_doneMany
  rw [ZO_5 s81, Option.bind_some]
  exact M_dm hN5 hG hb hE (hN H) 0 2000 (by omega) (by omega)
theorem M_isEnd (hN5 : hN H ≤ 5) (hok : okR H R) (hG : encG H m) (hb : m 81 29 = nI q) (hE : encM q H R m) : (ovS H R → dn_X5_isEnd 81 (Z k m) = some (1, Z k m)) ∧ (¬ ovS H R → dn_X5_isEnd 81 (Z k m) = some (0, Z k m)) := by
  have hc := cntD_le (R := R) (hN H)
  have hst := hok.1
  have e1 : jn_X5_isEnd_26 1 (Z k m) = some (1, Z k m) := rfl
  have e0 : jn_X5_isEnd_26 0 (Z k m) = some (0, Z k m) := rfl
  unfold dn_X5_isEnd jn_X5_isEnd_21 ovS
  rw [ZO_5 s81, Option.bind_some, M_v0 hb hE.1, zbd_s, hE.2.1, M_doneMany hN5 hG hb hE, zbd_s, ZI_5_12 s81, Option.bind_some, hG.2.1, e1, e0]
  by_cases h1 : rSt R = 60
  · rw [et_60 h1]
    exact ⟨fun _ => rfl, fun h => by omega⟩
  · rw [ef_60 h1 (by omega)]
    by_cases h2 : cntD R (hN H) = hN H
    · rw [ifEt h2]
      exact ⟨fun _ => rfl, fun h => by omega⟩
    · rw [ifEf h2 (by omega) (by omega)]
      exact ⟨fun h => by omega, fun _ => rfl⟩
theorem M_te {lw : Nat} {wf : Nat → Nat → Nat} (hO : okH H) (hlw : lw ≤ 2) : ∀ n R m f, 60 ≤ n + rSt R → n < f → okR H R → encG H m → zMq q lw m → (∀ st, rSt R ≤ st → st < 60 → wfM H st (wf st) m) → encM q H R m → ∃ m', zlp (lb_X5_toEnd_0 81) f () (Z k m) = some ((), Z k m') ∧ encM q H (runS H lw wf n R) m' ∧ okR H (runS H lw wf n R) ∧ ovS H (runS H lw wf n R) ∧ zFm q m m' := by
  intro n
  induction n with
  | zero =>
    intro R m f hn hf hok hG hM hwf hE
    obtain ⟨f, rfl⟩ : ∃ g, f = g + 1 := ⟨f - 1, by omega⟩
    have hov : ovS H R := Or.inl (by show 60 ≤ rSt R; omega)
    refine ⟨m, ?_, hE, hok, hov, zFm.rf⟩
    rw [zlp_s]
    show zbd (dn_X5_isEnd 81 (Z k m)) _ = _
    rw [(M_isEnd hO.2.1 hok hG hM.1 hE).1 hov, zbd_s, ifb1]
    rfl
  | succ n ih =>
    intro R m f hn hf hok hG hM hwf hE
    obtain ⟨f, rfl⟩ : ∃ g, f = g + 1 := ⟨f - 1, by omega⟩
    have hov := M_isEnd (k := k) hO.2.1 hok hG hM.1 hE
    rw [zlp_s]
    show ∃ m', zbd (dn_X5_isEnd 81 (Z k m)) _ = _ ∧ _
    by_cases h : ovS H R
    · have e : runS H lw wf (n + 1) R = R := if_pos h
      rw [hov.1 h, zbd_s, ifb1, e]
      exact ⟨m, rfl, hE, hok, h, zFm.rf⟩
    · have e : runS H lw wf (n + 1) R = runS H lw wf n (stepS H lw (wf (rSt R)) R) := if_neg h
      have hst : rSt R < 60 := by unfold ovS at h; omega
      have hwf0 := hwf (rSt R) (Nat.le_refl _) hst
      have hw := wfM_le hO hwf0
      obtain ⟨m1, r1, r2, r3⟩ := M_step (k := k) hO hok hlw hG hM hwf0 hE
      have hs := stepS_st (lw := lw) hO hok hw
      obtain ⟨m', q1, q2, q3, q4, q5⟩ := ih (stepS H lw (wf (rSt R)) R) m1 f (by rw [hs]; omega) (by omega) (okR_step hO hok hw hst) (encG_fr hG r3) (hM.fr r3) (fun st h1 h2 => (hwf st (by rw [hs] at h1; omega) h2).fr r3) r2
      rw [hov.2 h, zbd_s, ifb0, r1, zbd_s, e]
      exact ⟨m', q1, q2, q3, q4, zFm.tr r3 q5⟩
theorem M_toEnd {lw : Nat} {wf : Nat → Nat → Nat} (hO : okH H) (hlw : lw ≤ 2) (hok : okR H R) (hG : encG H m) (hM : zMq q lw m) (hwf : ∀ st, rSt R ≤ st → st < 60 → wfM H st (wf st) m) (hE : encM q H R m) : ∃ m', dn_X5_toEnd 81 (Z k m) = some ((), Z k m') ∧ encM q H (runS H lw wf 60 R) m' ∧ okR H (runS H lw wf 60 R) ∧ ovS H (runS H lw wf 60 R) ∧ zFm q m m' := by
  obtain ⟨m', r1, r2⟩ := M_te (k := k) hO hlw 60 R m 2000 (by omega) (by omega) hok hG hM hwf hE
  refine ⟨m', ?_, r2⟩
  unfold dn_X5_toEnd
  rw [ZO_5 s81, Option.bind_some]
  exact r1
/-! beginnings -/
theorem encM_cg {R' : zRS} (h0 : rSt R' = rSt R) (h1 : rHd R' = rHd R) (h2 : rPs R' = rPs R) (hx : ∀ x, x < hN H → rYd R' x = rYd R x ∧ rBr R' x = rBr R x ∧ rMb R' x = rMb R x ∧ rDn R' x = rDn R x ∧ rCr R' x = rCr R x ∧ rPb R' x = rPb R x) (h : encM q H R m) : encM q H R' m := by
  obtain ⟨hq, e0, e1, e2, ex⟩ := h
  refine ⟨hq, by rw [h0]; exact e0, by rw [h1]; exact e1, by rw [h2]; exact e2, fun x hxx => ?_⟩
  obtain ⟨a1, a2, a3, a4, a5, a6⟩ := hx x hxx
  rw [a1, a2, a3, a4, a5, a6]
  exact ex x hxx
/-- a RACE at its beginning, of heads hd and breaths br -/
def begS (H : zHD) (hd br : Nat → Nat) : zRS := (0, 0, 0, hd, br, br, (fun x => if hd x < hY H then -9 else 0), (fun _ => 0), fun _ => 0)
theorem okR_beg {hd br : Nat → Nat} (h1 : ∀ x, x < hN H → hd x ≤ 9) (h2 : ∀ x, x < hN H → 1 ≤ br x ∧ br x ≤ 10) : okR H (begS H hd br) := by
  refine ⟨Nat.zero_le _, ?_, fun x hx => ?_⟩
  · show 0 < hN H ∨ hN H = 0 ∧ 0 = 0
    omega
  · have a1 := h1 x hx
    obtain ⟨b1, b2⟩ := h2 x hx
    refine ⟨?_, ?_, by show hd x ≤ 44; omega, Nat.le_refl _, b1, b2⟩
    · show (if hd x < hY H then (-9 : Int32) else 0) = -9 ↔ hd x < hY H
      by_cases h : hd x < hY H <;> simp [h]
    · show (if hd x < hY H then (-9 : Int32) else 0) = -9 ∨ ∃ d, d ≤ 60 ∧ (if hd x < hY H then (-9 : Int32) else 0) = nI d
      by_cases h : hd x < hY H
      · left; rw [if_pos h]
      · right; exact ⟨0, by omega, by rw [if_neg h]; rfl⟩
def stS (H : zHD) (R : zRS) (x b h : Nat) : zRS := (rSt R, rHd R, rPs R, va_up (rYd R) x h, va_up (rBr R) x b, va_up (rMb R) x b, va_up (rDn R) x (if h < hY H then -9 else 0), rCr R, rPb R)
theorem M_starts {x b h : Nat} (hN5 : hN H ≤ 5) (h40 : hY H ≤ 40) (hG : encG H m) (hb : m 81 29 = nI q) (hE : encM q H R m) (hx : x < hN H) (hh : h ≤ 100) : ∃ m', dn_X5_starts 81 (nI x) (nI b) (nI h) (Z k m) = some ((), Z k m') ∧ encM q H (stS H R x b h) m' ∧ zFm q m m' := by
  have hq := hE.1
  have hE1 := G_yd x (by omega) h hN5 hE
  have hF1 : zFm q m (mu m 100 (q + (3 + x)) (nI h)) := zFm.mu (by omega)
  generalize hm1 : mu m 100 (q + (3 + x)) (nI h) = m1 at *
  have hE2 := G_br x (by omega) b hN5 hE1
  have hF2 : zFm q m1 (mu m1 100 (q + (8 + x)) (nI b)) := zFm.mu (by omega)
  generalize hm2 : mu m1 100 (q + (8 + x)) (nI b) = m2 at *
  have hE3 := G_mb x (by omega) b hN5 hE2
  have hF3 : zFm q m2 (mu m2 100 (q + (28 + x)) (nI b)) := zFm.mu (by omega)
  generalize hm3 : mu m2 100 (q + (28 + x)) (nI b) = m3 at *
  have hE4 := G_dn x (by omega) (if h < hY H then -9 else 0) hN5 hE3
  have hF4 : zFm q m3 (mu m3 100 (q + (13 + x)) (if h < hY H then -9 else 0)) := zFm.mu (by omega)
  have hb1 : m1 81 29 = nI q := by rw [hF1.1 81 (by decide)]; exact hb
  have hb2 : m2 81 29 = nI q := by rw [hF2.1 81 (by decide)]; exact hb1
  have hb3 : m3 81 29 = nI q := by rw [hF3.1 81 (by decide)]; exact hb2
  have hY3 : m3 81 10 = nI (hY H) := by rw [hF3.1 81 (by decide), hF2.1 81 (by decide), hF1.1 81 (by decide)]; exact hG.1
  refine ⟨_, ?_, hE4, zFm.tr hF1 (zFm.tr hF2 (zFm.tr hF3 hF4))⟩
  unfold dn_X5_starts jn_X5_starts_45
  rw [ZO_5 s81, Option.bind_some, nB_3, M_put hb (by omega), zbd_s, hm1, nB_8, M_put hb1 (by omega), zbd_s, hm2, nB_28, M_put hb2 (by omega), zbd_s, hm3, ZI_5_10 s81, Option.bind_some, hY3]
  by_cases hlt : h < hY H
  · rw [ifLt hlt (by omega), nB_13, M_put hb3 (by omega), zbd_s, if_pos hlt]
  · rw [ifLf (by omega) (by omega), nB_13, M_put hb3 (by omega), zbd_s, if_neg hlt]
/-- a RACE that is begun for the first n of RUNNERS -/
def agS (H : zHD) (hd br : Nat → Nat) (n : Nat) (R : zRS) : Prop := rSt R = 0 ∧ rHd R = 0 ∧ rPs R = 0 ∧ ∀ i, i < hN H → rCr R i = 0 ∧ rPb R i = 0 ∧ (i < n → rYd R i = hd i ∧ rBr R i = br i ∧ rMb R i = br i ∧ rDn R i = if hd i < hY H then -9 else 0)
theorem agS_st {hd br : Nat → Nat} {n b h : Nat} (hg : agS H hd br n R) (hb : b = br n) (hh : h = hd n) : agS H hd br (n + 1) (stS H R n b h) := by
  subst hb hh
  obtain ⟨a1, a2, a3, a4⟩ := hg
  refine ⟨a1, a2, a3, fun i hi => ?_⟩
  obtain ⟨b1, b2, b3⟩ := a4 i hi
  refine ⟨b1, b2, fun hi' => ?_⟩
  show va_up (rYd R) n (hd n) i = hd i ∧ va_up (rBr R) n (br n) i = br i ∧ va_up (rMb R) n (br n) i = br i ∧ va_up (rDn R) n (if hd n < hY H then -9 else 0) i = if hd i < hY H then -9 else 0
  by_cases hin : i = n
  · subst hin
    simp [va_up]
  · have := b3 (by omega)
    simp only [va_up, hin, if_false]
    exact this
theorem agS_end {hd br : Nat → Nat} (hg : agS H hd br (hN H) R) (hE : encM q H R m) : encM q H (begS H hd br) m := by
  obtain ⟨a1, a2, a3, a4⟩ := hg
  refine encM_cg a1.symm a2.symm a3.symm (fun x hx => ?_) hE
  obtain ⟨b1, b2, b3⟩ := a4 x hx
  obtain ⟨c1, c2, c3, c4⟩ := b3 hx
  exact ⟨c1.symm, c2.symm, c3.symm, c4.symm, b1.symm, b2.symm⟩
theorem M_bg22 {hd br : Nat → Nat} (hN5 : hN H ≤ 5) (h40 : hY H ≤ 40) (h1 : ∀ x, x < hN H → hd x ≤ 9) : ∀ n x R m f, x + n = hN H → n < f → encG H m → m 81 29 = nI q → (∀ i, i < hN H → m 90 i = nI (br i) ∧ m 91 i = nI (hd i)) → encM q H R m → agS H hd br x R → ∃ m', zlp (lb_X5_begins_22 81) f (nI x) (Z k m) = some ((), Z k m') ∧ encM q H (begS H hd br) m' ∧ zFm q m m' := by
  intro n
  induction n with
  | zero =>
    intro x R m f hx hf hG hb hv hE hg
    obtain ⟨f, rfl⟩ : ∃ g, f = g + 1 := ⟨f - 1, by omega⟩
    obtain rfl : x = hN H := by omega
    refine ⟨m, ?_, agS_end hg hE, zFm.rf⟩
    rw [zlp_s]
    show (zgI 5 12 81 (Z k m)).bind _ = _
    rw [ZI_5_12 s81, Option.bind_some, hG.2.1, ifLf (Nat.le_refl _) (by omega)]
    rfl
  | succ n ih =>
    intro x R m f hx hf hG hb hv hE hg
    obtain ⟨f, rfl⟩ : ∃ g, f = g + 1 := ⟨f - 1, by omega⟩
    have hxN : x < hN H := by omega
    obtain ⟨v1, v2⟩ := hv x hxN
    have hh := h1 x hxN
    obtain ⟨m1, r1, r2, r3⟩ := M_starts (k := k) (b := br x) (h := hd x) hN5 h40 hG hb hE hxN (by omega)
    obtain ⟨m', q1, q2, q3⟩ := ih (x + 1) (stS H R x (br x) (hd x)) m1 f (by omega) (by omega) (encG_fr hG r3) (by rw [r3.1 81 (by decide)]; exact hb) (fun i hi => by rw [r3.1 90 (by decide), r3.1 91 (by decide)]; exact hv i hi) r2 (agS_st hg rfl rfl)
    refine ⟨m', ?_, q2, zFm.tr r3 q3⟩
    rw [zlp_s]
    show (zgI 5 12 81 (Z k m)).bind _ = _
    rw [ZI_5_12 s81, Option.bind_some, hG.2.1, ifLt hxN (by omega), ZA_5_14 s81, Option.bind_some, Ml_90 (by omega), Option.bind_some, v1, ZA_5_15 s81, Option.bind_some, Ml_91 (by omega), Option.bind_some, v2, r1, zbd_s, nA_1, q1]
theorem M_bg2 (hq : q + 33 ≤ 165) : ∀ n x m f, x + n = 33 → n < f → m 81 29 = nI q → (∀ i, i < x → m 100 (q + i) = 0) → ∃ m', zlp (lb_X5_begins_2 81) f (nI x) (Z k m) = jn_X5_begins_20 81 (Z k m') ∧ (∀ i, i < 33 → m' 100 (q + i) = 0) ∧ zFm q m m' := by
  intro n
  induction n with
  | zero =>
    intro x m f hx hf hb hz
    obtain ⟨f, rfl⟩ : ∃ g, f = g + 1 := ⟨f - 1, by omega⟩
    obtain rfl : x = 33 := by omega
    refine ⟨m, ?_, hz, zFm.rf⟩
    rw [zlp_s]
    show (if nI 33 < 33 then _ else _) = _
    rw [if_neg (by decide)]
  | succ n ih =>
    intro x m f hx hf hb hz
    obtain ⟨f, rfl⟩ : ∃ g, f = g + 1 := ⟨f - 1, by omega⟩
    have hF : zFm q m (mu m 100 (q + x) 0) := zFm.mu (by omega)
    obtain ⟨m', q1, q2, q3⟩ := ih (x + 1) (mu m 100 (q + x) 0) f (by omega) (by omega) hb (fun i hi => by
      rw [mu100]
      by_cases h : i = x
      · rw [if_pos (by omega)]
      · rw [if_neg (by omega)]; exact hz i (by omega))
    refine ⟨m', ?_, q2, zFm.tr hF q3⟩
    rw [zlp_s]
    show (if nI x < 33 then zbd (dn_X5_put_ 81 (nI x) 0 (Z k m)) _ else _) = _
    rw [if_pos ((nL_33 (by omega)).mpr (by omega)), M_put hb (by omega), zbd_s, nA_1, q1]
theorem M_begins {hd br : Nat → Nat} (hN5 : hN H ≤ 5) (h40 : hY H ≤ 40) (h1 : ∀ x, x < hN H → hd x ≤ 9) (hq : q + 33 ≤ 165) (hG : encG H m) (hb : m 81 29 = nI q) (hv : ∀ i, i < hN H → m 90 i = nI (br i) ∧ m 91 i = nI (hd i)) : ∃ m', dn_X5_begins 81 (Z k m) = some ((), Z k m') ∧ encM q H (begS H hd br) m' ∧ zFm q m m' := by
  obtain ⟨m1, r1, r2, r3⟩ := M_bg2 (k := k) hq 33 0 m 2000 (by omega) (by omega) hb (fun i hi => by omega)
  obtain ⟨m', q1, q2, q3⟩ := M_bg22 (k := k) (hd := hd) (br := br) (q := q) hN5 h40 h1 (hN H) 0 (0, 0, 0, (fun _ => 0), (fun _ => 0), (fun _ => 0), (fun _ => 0), (fun _ => 0), fun _ => 0) m1 2000 (by omega) (by omega) (encG_fr hG r3) (by rw [r3.1 81 (by decide)]; exact hb) (fun i hi => by rw [r3.1 90 (by decide), r3.1 91 (by decide)]; exact hv i hi) ⟨hq, r2 0 (by omega), r2 1 (by omega), r2 2 (by omega), fun x hx => ⟨r2 _ (by omega), r2 _ (by omega), r2 _ (by omega), r2 _ (by omega), r2 _ (by omega), r2 _ (by omega)⟩⟩ ⟨rfl, rfl, rfl, fun i hi => ⟨rfl, rfl, fun z => by omega⟩⟩
  refine ⟨m', ?_, q2, zFm.tr r3 q3⟩
  unfold dn_X5_begins
  rw [ZO_5 s81, Option.bind_some]
  exact r1.trans q1
end
