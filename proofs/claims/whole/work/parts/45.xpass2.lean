section
variable {k : zK} {m : Nat → Nat → Int32} {a c : Nat} {H : zHD} {R : zRS}
def setT (R : zRS) (x : Nat) (t : Int32 × Int32 × Nat) : zRS := (rSt R, t.2.2, t.1, rYd R, rBr R, rMb R, rDn R, rCr R, va_up (rPb R) x t.2.1)
theorem ps1_hd {yd : Nat → Nat} {dn : Nat → Int32} {lw x : Nat} {sl : Int} {y o N : Nat} {t : Int32 × Int32 × Nat} (ht : t.2.2 < N) (ho : o < N) : (ps1 yd dn lw x sl y o t).2.2 < N := by
  unfold ps1
  split
  · dsimp only
    split
    · exact ho
    · exact ht
  · exact ht
theorem psO_hd {yd : Nat → Nat} {dn : Nat → Int32} {lw x : Nat} {sl : Int} {y N : Nat} {t : Int32 × Int32 × Nat} (ht : t.2.2 < N) : ∀ n, n ≤ N → (psO yd dn lw x sl y n t).2.2 < N := by
  intro n
  induction n with
  | zero => intro _; exact ht
  | succ n ih => intro hn; exact ps1_hd (ih (by omega)) (by omega)
theorem psY_hd {yd : Nat → Nat} {dn : Nat → Int32} {lw x : Nat} {sl : Int} {N fr : Nat} {t : Int32 × Int32 × Nat} (ht : t.2.2 < N) : ∀ n, (psY yd dn lw x sl N fr n t).2.2 < N := by
  intro n
  induction n with
  | zero => exact ht
  | succ n ih => exact psO_hd ih N (Nat.le_refl _)
theorem X_po17 {kc : Int32 → zAH → Option (Unit × zAH)} {x lw y : Nat} {sl : Int} {to : Int32} {t0 : Int32 × Int32 × Nat} (hN5 : hN H ≤ 5) (hx : x < hN H) (hlw : lw ≤ 2) (hs1 : -1 ≤ sl) (hs2 : sl ≤ 2) (hy : y < hY H) (h40 : hY H ≤ 40) (ht0 : t0.2.2 < hN H) (hyd : ∀ o, o < hN H → rYd R o ≤ 44) :
    ∀ n o m f, o + n = hN H → n < f → encX a H (setT R x (psO (rYd R) (rDn R) lw x sl y o t0)) m → ∃ m', zlp (lb_X1_passOthers_17 kc a (nI x) to (nI lw) (iI sl) (nI y)) f (nI o) (Z k m) = kc (nI (y + 1)) (Z k m') ∧ encX a H (setT R x (psO (rYd R) (rDn R) lw x sl y (hN H) t0)) m' ∧ zFr a m m' := by
  intro n
  induction n with
  | zero =>
    intro o m f ho hf hE
    obtain ⟨f, rfl⟩ : ∃ g, f = g + 1 := ⟨f - 1, by omega⟩
    obtain rfl : o = hN H := by omega
    refine ⟨m, ?_, hE, zFr.rf⟩
    rw [zlp_s]
    have ha := hE.1
    have e0 := hE.2.1
    unfold lb_X1_passOthers_17 jn_X1_passOthers_99
    rw [ZI_1_0 ha, Option.bind_some, e0, ifLf (Nat.le_refl _) (by omega), nA_1]
  | succ n ih =>
    intro o m f ho hf hE
    obtain ⟨f, rfl⟩ : ∃ g, f = g + 1 := ⟨f - 1, by omega⟩
    have hoN : o < hN H := by omega
    rw [zlp_s]
    have ha := hE.1
    have e0 := hE.2.1
    have e4 := hE.2.2.2.2.2.1
    have ex := hE.2.2.2.2.2.2
    have s := shp_1 a (shp_le (by omega)) ha
    have hyo : m (a + 1) o = nI (min (rYd R o) (hY H)) := (ex o hoN).1
    have hy44 := hyd o hoN
    have hps := psO_hd (yd := rYd R) (dn := rDn R) (lw := lw) (x := x) (sl := sl) (y := y) ht0 o (by omega)
    have hdone : dn_X1_isDone a (nI o) (Z k m) = some (if rDn R o = -9 then 0 else 1, Z k m) := by
      have h9 := X_isDone (k := k) hE hN5 hoN
      exact h9
    unfold lb_X1_passOthers_17 jn_X1_passOthers_93
    rw [ZI_1_0 ha, Option.bind_some, e0, ifLt hoN (by omega), ZA_1_6 ha, Option.bind_some, Zl5 s.1 (by omega), Option.bind_some, hyo]
    by_cases hc : rYd R o = y ∧ o ≠ x ∧ rDn R o = -9
    · obtain ⟨c1, c2, c3⟩ := hc
      have hst : psO (rYd R) (rDn R) lw x sl y (o + 1) t0 = _ := if_pos ⟨c1, c2, c3⟩
      have hmin : min (rYd R o) (hY H) = y := by omega
      generalize hT : psO (rYd R) (rDn R) lw x sl y o t0 = T at *
      have h1 := E_ps (T.1 + 1) hE
      have h1b := E_pb x (T.2.1 ||| (1 <<< (nI o &&& 31))) h1
      have h2 : encX a H (setT R x (T.1 + 1, T.2.1 ||| (1 <<< (nI o &&& 31)), T.2.2)) (mu (mu m a 4 (T.1 + 1)) (a + 6) x (T.2.1 ||| (1 <<< (nI o &&& 31)))) := by
        have e : va_up (va_up (rPb R) x T.2.1) x (T.2.1 ||| (1 <<< (nI o &&& 31))) = va_up (rPb R) x (T.2.1 ||| (1 <<< (nI o &&& 31))) := bx_uu _ _ _ _
        have h1c : encX a H (rSt R, T.2.2, T.1 + 1, rYd R, rBr R, rMb R, rDn R, rCr R, va_up (va_up (rPb R) x T.2.1) x (T.2.1 ||| (1 <<< (nI o &&& 31)))) (mu (mu m a 4 (T.1 + 1)) (a + 6) x (T.2.1 ||| (1 <<< (nI o &&& 31)))) := h1b
        rw [e] at h1c
        exact h1c
      have hpb : mu m a 4 (T.1 + 1) (a + 6) x = T.2.1 := by
        have := (h1.2.2.2.2.2.2 x hx).2.2.2.2.2
        rw [this]
        show va_up (rPb R) x T.2.1 x = T.2.1
        simp [va_up]
      have e4' : m a 4 = T.1 := e4
      have hF2 : zFr a m (mu (mu m a 4 (T.1 + 1)) (a + 6) x (T.2.1 ||| (1 <<< (nI o &&& 31)))) := zFr.tr (zFr.mu (by omega) (by omega)) (zFr.mu (by omega) (by omega))
      have hmv := X_sackMoves (k := k) (x := x) (lw := lw) (sl := sl) hN5 h2 hps hx hlw hs1 hs2
      rw [ifEt hmin, ifEf c2 (by omega) (by omega), hdone, zbd_s, if_pos c3, ifb0, ZI_1_4 ha, Option.bind_some, e4', ZP_1_4 ha, Option.bind_some, ZA_1_11 ha, Option.bind_some, Zl5 s.2.2.2.2.2 (by omega), Option.bind_some, hpb, Zs5 s.2.2.2.2.2 (by omega), Option.bind_some]
      by_cases hq : mvS (rDn R) lw x sl T.2.2
      · rw [hmv.1 hq]
        have h3 := E_hd o h2
        have hst2 : psO (rYd R) (rDn R) lw x sl y (o + 1) t0 = (T.1 + 1, T.2.1 ||| (1 <<< (nI o &&& 31)), o) := by rw [hst, if_pos hq]
        obtain ⟨m', r1, r2, r3⟩ := ih (o + 1) (mu (mu (mu m a 4 (T.1 + 1)) (a + 6) x (T.2.1 ||| (1 <<< (nI o &&& 31)))) a 3 (nI o)) f (by omega) (by omega) (by rw [hst2]; exact h3)
        refine ⟨m', ?_, r2, zFr.tr (zFr.tr hF2 (zFr.mu (by omega) (by omega))) r3⟩
        rw [zbd_s, ifb1, ZP_1_3 ha, Option.bind_some, nA_1]
        exact r1
      · rw [hmv.2 hq]
        have hst2 : psO (rYd R) (rDn R) lw x sl y (o + 1) t0 = (T.1 + 1, T.2.1 ||| (1 <<< (nI o &&& 31)), T.2.2) := by rw [hst, if_neg hq]
        obtain ⟨m', r1, r2, r3⟩ := ih (o + 1) _ f (by omega) (by omega) (by rw [hst2]; exact h2)
        refine ⟨m', ?_, r2, zFr.tr hF2 r3⟩
        rw [zbd_s, ifb0, nA_1]
        exact r1
    · have hst : psO (rYd R) (rDn R) lw x sl y (o + 1) t0 = psO (rYd R) (rDn R) lw x sl y o t0 := if_neg hc
      obtain ⟨m', r1, r2, r3⟩ := ih (o + 1) m f (by omega) (by omega) (by rw [hst]; exact hE)
      refine ⟨m', ?_, r2, r3⟩
      rw [← r1]
      by_cases c1 : rYd R o = y
      · have hmin : min (rYd R o) (hY H) = y := by omega
        by_cases c2 : o = x
        · rw [ifEt hmin, ifEt c2, nA_1]; rfl
        · have c3 : ¬ rDn R o = -9 := fun z => hc ⟨c1, c2, z⟩
          rw [ifEt hmin, ifEf c2 (by omega) (by omega), hdone, zbd_s, if_neg c3, ifb1, nA_1]; rfl
      · have hmin : ¬ min (rYd R o) (hY H) = y := by omega
        rw [ifEf hmin (by omega) (by omega), nA_1]; rfl
/-- passOthers: from from to to - 1 -/
theorem X_po8 {x lw fr : Nat} {sl : Int} {t0 : Int32 × Int32 × Nat} (hN5 : hN H ≤ 5) (hx : x < hN H) (hlw : lw ≤ 2) (hs1 : -1 ≤ sl) (hs2 : sl ≤ 2) (h40 : hY H ≤ 40) (ht0 : t0.2.2 < hN H) (hyd : ∀ o, o < hN H → rYd R o ≤ 44) (tt : Nat) (htt : fr + tt ≤ hY H) :
    ∀ n c m f, c + n = tt → n < f → encX a H (setT R x (psY (rYd R) (rDn R) lw x sl (hN H) fr c t0)) m → ∃ m', zlp (lb_X1_passOthers_8 a (nI x) (nI (fr + tt)) (nI lw) (iI sl)) f (nI (fr + c)) (Z k m) = some ((), Z k m') ∧ encX a H (setT R x (psY (rYd R) (rDn R) lw x sl (hN H) fr tt t0)) m' ∧ zFr a m m' := by
  intro n
  induction n with
  | zero =>
    intro c m f hc hf hE
    obtain ⟨f, rfl⟩ : ∃ g, f = g + 1 := ⟨f - 1, by omega⟩
    obtain rfl : c = tt := by omega
    refine ⟨m, ?_, hE, zFr.rf⟩
    rw [zlp_s]
    unfold lb_X1_passOthers_8 jn_X1_passOthers_105
    rw [ifLf (Nat.le_refl _) (by omega)]
  | succ n ih =>
    intro c m f hc hf hE
    obtain ⟨f, rfl⟩ : ∃ g, f = g + 1 := ⟨f - 1, by omega⟩
    rw [zlp_s]
    obtain ⟨m1, r1, r2, r3⟩ := X_po17 (k := k) (a := a) (kc := zlp (lb_X1_passOthers_8 a (nI x) (nI (fr + tt)) (nI lw) (iI sl)) f) (to := nI (fr + tt)) (y := fr + c) (t0 := psY (rYd R) (rDn R) lw x sl (hN H) fr c t0) hN5 hx hlw hs1 hs2 (by omega) h40 (psY_hd ht0 c) hyd (hN H) 0 m 2000 (by omega) (by omega) hE
    obtain ⟨m', q1, q2, q3⟩ := ih (c + 1) m1 f (by omega) (by omega) r2
    refine ⟨m', ?_, q2, zFr.tr r3 q3⟩
    rw [← q1]
    show (if nI (fr + c) < nI (fr + tt) then _ else _) = _
    rw [ifLt (by omega) (by omega)]
    exact r1
theorem X_passOthers {x lw : Nat} {sl : Int} {tt : Nat} (hN5 : hN H ≤ 5) (hx : x < hN H) (hlw : lw ≤ 2) (hs1 : -1 ≤ sl) (hs2 : sl ≤ 2) (h40 : hY H ≤ 40) (hh : rHd R < hN H) (hyd : ∀ o, o < hN H → rYd R o ≤ 44) (htt : rYd R x + tt ≤ hY H) (hE : encX a H R m) :
    ∃ m', dn_X1_passOthers a (nI x) (nI (rYd R x + tt)) (nI lw) (iI sl) (Z k m) = some ((), Z k m') ∧ encX a H (setT R x (psY (rYd R) (rDn R) lw x sl (hN H) (rYd R x) tt (rPs R, rPb R x, rHd R))) m' ∧ zFr a m m' := by
  have ha := hE.1
  have s := shp_1 a (shp_le (by omega)) ha
  have hyo : m (a + 1) x = nI (min (rYd R x) (hY H)) := (hE.2.2.2.2.2.2 x hx).1
  rw [Nat.min_eq_left (by omega)] at hyo
  have hE0 : encX a H (setT R x (rPs R, rPb R x, rHd R)) m := by
    have e : va_up (rPb R) x (rPb R x) = rPb R := by funext j; by_cases hj : j = x <;> simp [va_up, hj]
    have : setT R x (rPs R, rPb R x, rHd R) = R := by unfold setT; dsimp only; rw [e]
    rw [this]; exact hE
  obtain ⟨m', r1, r2, r3⟩ := X_po8 (k := k) (a := a) (fr := rYd R x) (t0 := (rPs R, rPb R x, rHd R)) hN5 hx hlw hs1 hs2 h40 hh hyd tt htt tt 0 m 2000 (by omega) (by omega) hE0
  refine ⟨m', ?_, r2, r3⟩
  unfold dn_X1_passOthers
  rw [ZO_1 ha, Option.bind_some, ZA_1_6 ha, Option.bind_some, Zl5 s.1 (by omega), Option.bind_some, hyo]
  exact r1
theorem X_noteEnd0 {x : Nat} (hN5 : hN H ≤ 5) (h40 : hY H ≤ 40) (hx : x < hN H) (hdn : rDn R x = -9) (hst : rSt R ≤ 60) (hy : rYd R x ≤ 44) (hc : shp c = 2) (hcy : m c 0 = nI (hY H)) (hE : encX a H R m) :
    ∃ m', dn_X1_noteEnd a c (nI x) (Z k m) = some ((), Z k m') ∧ encX a H (rSt R, rHd R, rPs R, rYd R, rBr R, rMb R, va_up (rDn R) x (if rYd R x < hY H then -9 else nI (rSt R)), R.2.2.2.2.2.2.2) m' ∧ zFr a m m' := by
  have ha := hE.1
  have s := shp_1 a (shp_le (by omega)) ha
  have hyo : m (a + 1) x = nI (min (rYd R x) (hY H)) := (hE.2.2.2.2.2.2 x hx).1
  unfold dn_X1_noteEnd jn_X1_noteEnd_33
  rw [ZO_1 ha, Option.bind_some, ZA_1_6 ha, Option.bind_some, Zl5 s.1 (by omega), Option.bind_some, hyo, ZI_0_0 hc, Option.bind_some, hcy]
  by_cases hlt : rYd R x < hY H
  · refine ⟨m, ?_, ?_, zFr.rf⟩
    · rw [ifLt (by omega) (by omega)]
    · have e : va_up (rDn R) x (if rYd R x < hY H then -9 else nI (rSt R)) = rDn R := by
        funext j
        by_cases hj : j = x
        · subst hj; simp [va_up, hlt, hdn]
        · simp [va_up, hj]
      rw [e]; exact hE
  · have e1 : m a 1 = nI (rSt R) := hE.2.2.1
    have e2 : m a 2 = nI (cntD R (hN H)) := hE.2.2.2.1
    refine ⟨mu (mu m (a + 4) x (nI (rSt R))) a 2 (nI (cntD R (hN H) + 1)), ?_, ?_, zFr.tr (zFr.mu (by omega) (by omega)) (zFr.mu (by omega) (by omega))⟩
    · rw [ifLf (by omega) (by omega), ZA_1_9 ha, Option.bind_some, ZI_1_1 ha, Option.bind_some, e1, Zs5 s.2.2.2.1 (by omega), Option.bind_some, ZI_1_2 ha, Option.bind_some, mu_ar m x _ (show a ≠ a + 4 by omega), e2, ZP_1_2 ha, Option.bind_some, nA_1]
    · rw [if_neg hlt]
      have hcnt : ∀ n, x < n → cntD (rSt R, rHd R, rPs R, rYd R, rBr R, rMb R, va_up (rDn R) x (nI (rSt R)), R.2.2.2.2.2.2.2) n = cntD R n + 1 := by
        intro n
        induction n with
        | zero => intro h; omega
        | succ n ih =>
          intro h
          by_cases hxn : x = n
          · subst hxn
            have hc1 : cntD (rSt R, rHd R, rPs R, rYd R, rBr R, rMb R, va_up (rDn R) x (nI (rSt R)), R.2.2.2.2.2.2.2) x = cntD R x := cntD_cg (fun j hj => by show va_up (rDn R) x _ j = _; rw [va_up, if_neg (by omega)])
            show cntD _ x + (if va_up (rDn R) x (nI (rSt R)) x = -9 then 0 else 1) = cntD R x + (if rDn R x = -9 then 0 else 1) + 1
            rw [hc1, va_up, if_pos rfl, if_neg (nI_ne9 (by omega)), if_pos hdn]
          · show cntD _ n + (if va_up (rDn R) x (nI (rSt R)) n = -9 then 0 else 1) = cntD R n + (if rDn R n = -9 then 0 else 1) + 1
            have e : va_up (rDn R) x (nI (rSt R)) n = rDn R n := by rw [va_up, if_neg (fun z => hxn z.symm)]
            rw [ih (by omega), e]
            omega
      obtain ⟨ha, e0, e1, e2, e3, e4, ex⟩ := hE
      have hA : mu (mu m (a + 4) x (nI (rSt R))) a 2 (nI (cntD R (hN H) + 1)) a = upd (m a) 2 (nI (cntD R (hN H) + 1)) := by simp [mu]
      refine ⟨ha, ?_, ?_, ?_, ?_, ?_, fun x' hx' => ?_⟩
      · rw [hA]; exact e0
      · rw [hA]; exact e1
      · rw [hA, hcnt _ hx]; rfl
      · rw [hA]; exact e3
      · rw [hA]; exact e4
      · obtain ⟨q1, q2, q3, q4, q5, q6⟩ := ex x' hx'
        have hB : ∀ j, 1 ≤ j → j ≤ 6 → j ≠ 4 → mu (mu m (a + 4) x (nI (rSt R))) a 2 (nI (cntD R (hN H) + 1)) (a + j) = m (a + j) := fun j h1 h2 h3 => by rw [mu_ar _ _ _ (by omega), mu_ar _ _ _ (by omega)]
        rw [hB 1 (by omega) (by omega) (by omega), hB 2 (by omega) (by omega) (by omega), hB 3 (by omega) (by omega) (by omega), hB 5 (by omega) (by omega) (by omega), hB 6 (by omega) (by omega) (by omega), mu_ar _ _ _ (show a + 4 ≠ a by omega)]
        refine ⟨q1, q2, q3, ?_, q5, q6⟩
        show mu m (a + 4) x (nI (rSt R)) (a + 4) x' = va_up (rDn R) x (nI (rSt R)) x'
        by_cases hxx : x' = x
        · subst hxx; rw [mu_s, va_up, if_pos rfl]
        · rw [mu_j _ _ hxx, va_up, if_neg hxx]; exact q4
theorem X_noteEnd {x : Nat} (hN5 : hN H ≤ 5) (h40 : hY H ≤ 40) (hx : x < hN H) (hdn : rDn R x = -9) (hst : rSt R ≤ 60) (yv : Nat) (hyv : rYd R x = yv) (hy : yv ≤ 44) (hc : shp c = 2) (hcy : m c 0 = nI (hY H)) (hE : encX a H R m) :
    ∃ m', dn_X1_noteEnd a c (nI x) (Z k m) = some ((), Z k m') ∧ encX a H (rSt R, rHd R, rPs R, rYd R, rBr R, rMb R, va_up (rDn R) x (if yv < hY H then -9 else nI (rSt R)), R.2.2.2.2.2.2.2) m' ∧ zFr a m m' := by
  subst hyv
  exact X_noteEnd0 hN5 h40 hx hdn hst hy hc hcy hE
end
