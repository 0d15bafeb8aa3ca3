section
variable {k : zK} {m : Nat → Nat → Int32} {a c : Nat} {H : zHD} {R : zRS}
theorem encH_fr {m' : Nat → Nat → Int32} (ha : shp a = 1) (h : encH c H m) (hf : zFr a m m') : encH c H m' := by
  obtain ⟨hc, e0, e2, es, ex⟩ := h
  have hd := shp_12 a (shp_le (by omega)) c (shp_le (by omega)) ha hc
  have q : ∀ j, j ≤ 6 → m' (c + j) = m (c + j) := fun j hj => hf (c + j) (by omega)
  have q0 : m' c = m c := q 0 (by omega)
  refine ⟨hc, by rw [q0]; exact e0, by rw [q0]; exact e2, fun y hy => by rw [q 1 (by omega)]; exact es y hy, fun x hx => ?_⟩
  obtain ⟨x1, x2, x3⟩ := ex x hx
  exact ⟨by rw [q 2 (by omega)]; exact x1, by rw [q 5 (by omega)]; exact x2, fun i hi => by rw [q 6 (by omega)]; exact x3 i hi⟩
theorem bAf_bd {x p : Nat} (hO : okH H) (hok : okR H R) (hx : x < hN H) (hy : rYd R x < hY H) : -10 ≤ bAf H R x p ∧ bAf H R x p ≤ 20 := by
  obtain ⟨hs1, hs2⟩ := hO.2.2.1 _ hy
  obtain ⟨-, -, -, o4, o5, o6⟩ := hok.2.2 x hx
  unfold bAf
  split
  · split <;> omega
  · split <;> split <;> split <;> (try split) <;> (try split) <;> omega
theorem pcS_le {x : Nat} : ∀ p, pcS H R x p ≤ p := by
  intro p
  induction p with
  | zero => exact Nat.le_refl _
  | succ p ih =>
    unfold pcS
    split
    · omega
    · omega
theorem pcS_ok {x : Nat} : ∀ p, 0 ≤ bAf H R x (pcS H R x p) := by
  intro p
  induction p with
  | zero =>
    unfold pcS bAf
    rw [if_pos rfl]
    split <;> omega
  | succ p ih =>
    unfold pcS
    split
    · exact ih
    · next h => omega
theorem X_go44 {x lw : Nat} (hO : okH H) (hE : encX a H R m) (hok : okR H R) (hx : x < hN H) (hy : rYd R x < hY H) : ∀ p f, p ≤ 3 → p < f → zlp (lb_X1_goBy_44 a c (nI lw) (nI x) (nI (hK H x)) (nI (rYd R x)) (iI (hS H (rYd R x)))) f (nI p) (Z k m) = jn_X1_goBy_69 a c (nI lw) (nI x) (nI (hK H x)) (nI (rYd R x)) (iI (hS H (rYd R x))) (nI (pcS H R x p)) (Z k m) := by
  intro p
  induction p with
  | zero =>
    intro f _ hf
    obtain ⟨f, rfl⟩ : ∃ g, f = g + 1 := ⟨f - 1, by omega⟩
    rw [zlp_s]
    rfl
  | succ p ih =>
    intro f hp hf
    obtain ⟨f, rfl⟩ : ∃ g, f = g + 1 := ⟨f - 1, by omega⟩
    rw [zlp_s]
    show (if 0 < nI (p + 1) then zbd (dn_X1_breathAfter a (nI (hK H x)) (nI x) (iI (hS H (rYd R x))) (nI (p + 1)) (Z k m)) _ else _) = _
    rw [if_pos ((lL_0 (by omega)).mpr (by omega)), X_breathAfter hO hE hok hx hy hp, zbd_s]
    have hb := bAf_bd (p := p + 1) hO hok hx hy
    by_cases hlt : bAf H R x (p + 1) < 0
    · rw [if_pos ((iL_0 (by omega) (by omega)).mpr hlt), nDec, ih f (by omega) (by omega)]
      rw [show pcS H R x (p + 1) = pcS H R x p from if_pos hlt]
    · rw [if_neg (fun z => hlt ((iL_0 (by omega) (by omega)).mp z))]
      rw [show pcS H R x (p + 1) = p + 1 from if_neg hlt]
theorem psO_out {yd : Nat → Nat} {dn : Nat → Int32} {lw x : Nat} {sl : Int} {y : Nat} {t : Int32 × Int32 × Nat} : ∀ n, (∀ o, o < n → ¬ (yd o = y ∧ o ≠ x ∧ dn o = -9)) → psO yd dn lw x sl y n t = t := by
  intro n
  induction n with
  | zero => intro _; rfl
  | succ n ih =>
    intro h
    show ps1 yd dn lw x sl y n (psO yd dn lw x sl y n t) = t
    rw [ih (fun o ho => h o (by omega))]
    exact if_neg (h n (by omega))
theorem psY_cut {yd : Nat → Nat} {dn : Nat → Int32} {lw x : Nat} {sl : Int} {N fr Y : Nat} {t : Int32 × Int32 × Nat} (h : ∀ o, o < N → dn o = -9 → yd o < Y) (hf : fr ≤ Y) : ∀ n, psY yd dn lw x sl N fr n t = psY yd dn lw x sl N fr (min (fr + n) Y - fr) t := by
  intro n
  induction n with
  | zero => rw [show min (fr + 0) Y - fr = 0 by omega]
  | succ n ih =>
    by_cases hn : fr + n < Y
    · rw [show min (fr + (n + 1)) Y - fr = n + 1 by omega]
    · rw [show min (fr + (n + 1)) Y - fr = min (fr + n) Y - fr by omega, ← ih]
      exact psO_out N (fun o ho hc => by have := h o ho hc.2.2; omega)
theorem paceS_le {x w : Nat} (hw : w ≤ 3) : paceS H R x w ≤ 3 := by
  unfold paceS
  refine Nat.le_trans (pcS_le _) ?_
  split <;> omega
theorem farS_le {x w : Nat} (hw : w ≤ 3) : farS H R x w ≤ 4 := by
  unfold farS
  have := paceS_le (H := H) (R := R) (x := x) hw
  split <;> omega
theorem X_go113 {x lw w : Nat} (hO : okH H) (hH : encH c H m) (R0 : zRS) (hok : okR H R0) (hx : x < hN H) (hdn : rDn R0 x = -9) (hlw : lw ≤ 2) (hh : rHd R0 < hN H) (b : Nat) (hE : encX a H (rSt R0, rHd R0, rPs R0, rYd R0, va_up (rBr R0) x b, R0.2.2.2.2.2) m) (far : Nat) (hfar : far ≤ 4) :
    ∃ m', jn_X1_goBy_113 a c (nI lw) (nI x) (nI (rYd R0 x)) (iI (hS H (rYd R0 x))) (nI far) (Z k m) = some ((), Z k m') ∧
      encX a H (rSt R0, (psY (rYd R0) (rDn R0) lw x (hS H (rYd R0 x)) (hN H) (rYd R0 x) far (rPs R0, rPb R0 x, rHd R0)).2.2, (psY (rYd R0) (rDn R0) lw x (hS H (rYd R0 x)) (hN H) (rYd R0 x) far (rPs R0, rPb R0 x, rHd R0)).1, va_up (rYd R0) x (rYd R0 x + far), va_up (rBr R0) x b, rMb R0, va_up (rDn R0) x (if rYd R0 x + far < hY H then -9 else nI (rSt R0)), va_up (rCr R0) x (if rHd R0 = x then rCr R0 x + nI (min (rYd R0 x + far) (hY H) - rYd R0 x) else rCr R0 x), va_up (rPb R0) x (psY (rYd R0) (rDn R0) lw x (hS H (rYd R0 x)) (hN H) (rYd R0 x) far (rPs R0, rPb R0 x, rHd R0)).2.1) m' ∧ zFr a m m' := by
  have ha := hE.1
  have s := shp_1 a (shp_le (by omega)) ha
  have hN5 := hO.2.1
  have h40 := hO.1
  obtain ⟨o1, o2, o3⟩ := hok
  obtain ⟨d1, d2, d3, d4, d5, d6⟩ := o3 x hx
  have hy : rYd R0 x < hY H := d1.mp hdn
  obtain ⟨hs1, hs2⟩ := hO.2.2.1 _ hy
  have hyd : ∀ o, o < hN H → rYd R0 o ≤ 44 := fun o ho => (o3 o ho).2.2.1
  have hcut := psY_cut (yd := rYd R0) (dn := rDn R0) (lw := lw) (x := x) (sl := hS H (rYd R0 x)) (N := hN H) (fr := rYd R0 x) (Y := hY H) (t := (rPs R0, rPb R0 x, rHd R0)) (fun o ho hd => (o3 o ho).1.mp hd) (by omega) far
  have e3 : m a 3 = nI (rHd R0) := hE.2.2.2.2.1
  have hcar : m (a + 5) x = rCr R0 x := (hE.2.2.2.2.2.2 x hx).2.2.2.2.1
  -- the carried yards
  have hC : ∃ m1, encX a H (rSt R0, rHd R0, rPs R0, rYd R0, va_up (rBr R0) x b, rMb R0, rDn R0, va_up (rCr R0) x (if rHd R0 = x then rCr R0 x + nI (min (rYd R0 x + far) (hY H) - rYd R0 x) else rCr R0 x), rPb R0) m1 ∧ zFr a m m1 ∧ jn_X1_goBy_113 a c (nI lw) (nI x) (nI (rYd R0 x)) (iI (hS H (rYd R0 x))) (nI far) (Z k m) = jn_X1_goBy_151 a c (nI lw) (nI x) (iI (hS H (rYd R0 x))) (nI (min (rYd R0 x + far) (hY H))) (Z k m1) := by
    unfold jn_X1_goBy_113
    rw [ZI_0_0 hH.1, Option.bind_some, hH.2.1, ZI_1_3 ha, Option.bind_some, e3, nI_add, zmn_n (by omega) (by omega)]
    by_cases hhx : rHd R0 = x
    · refine ⟨mu m (a + 5) x (rCr R0 x + nI (min (rYd R0 x + far) (hY H) - rYd R0 x)), ?_, zFr.mu (by omega) (by omega), ?_⟩
      · rw [if_pos hhx]
        exact E_cr x _ hE
      · rw [ifEt hhx, ZA_1_10 ha, Option.bind_some, Zl5 s.2.2.2.2.1 (by omega), Option.bind_some, hcar, pk_sub (by omega), Zs5 s.2.2.2.2.1 (by omega), Option.bind_some]
    · refine ⟨m, ?_, zFr.rf, ?_⟩
      · rw [if_neg hhx]
        have e : va_up (rCr R0) x (rCr R0 x) = rCr R0 := by funext j; by_cases hj : j = x <;> simp [va_up, hj]
        rw [e]; exact hE
      · rw [ifEf hhx (by omega) (by omega)]
  obtain ⟨m1, hE1, hF1, hj⟩ := hC
  rw [hj]
  obtain ⟨m2, r1, r2, r3⟩ := X_passOthers (k := k) (R := (rSt R0, rHd R0, rPs R0, rYd R0, va_up (rBr R0) x b, rMb R0, rDn R0, va_up (rCr R0) x (if rHd R0 = x then rCr R0 x + nI (min (rYd R0 x + far) (hY H) - rYd R0 x) else rCr R0 x), rPb R0)) (lw := lw) (sl := hS H (rYd R0 x)) (tt := min (rYd R0 x + far) (hY H) - rYd R0 x) hN5 hx hlw hs1 hs2 h40 hh hyd (show rYd R0 x + (min (rYd R0 x + far) (hY H) - rYd R0 x) ≤ hY H by omega) hE1
  have r2' : encX a H (setT (rSt R0, rHd R0, rPs R0, rYd R0, va_up (rBr R0) x b, rMb R0, rDn R0, va_up (rCr R0) x (if rHd R0 = x then rCr R0 x + nI (min (rYd R0 x + far) (hY H) - rYd R0 x) else rCr R0 x), rPb R0) x (psY (rYd R0) (rDn R0) lw x (hS H (rYd R0 x)) (hN H) (rYd R0 x) far (rPs R0, rPb R0 x, rHd R0))) m2 := by rw [hcut]; exact r2
  have r1' : dn_X1_passOthers a (nI x) (nI (min (rYd R0 x + far) (hY H))) (nI lw) (iI (hS H (rYd R0 x))) (Z k m1) = some ((), Z k m2) := by
    have e : rYd R0 x + (min (rYd R0 x + far) (hY H) - rYd R0 x) = min (rYd R0 x + far) (hY H) := by omega
    have r9 : dn_X1_passOthers a (nI x) (nI (rYd R0 x + (min (rYd R0 x + far) (hY H) - rYd R0 x))) (nI lw) (iI (hS H (rYd R0 x))) (Z k m1) = some ((), Z k m2) := r1
    rw [e] at r9
    exact r9
  have hE3 := E_yd x (rYd R0 x + far) r2'
  have hF3 : zFr a m (mu m2 (a + 1) x (nI (min (rYd R0 x + far) (hY H)))) := zFr.tr (zFr.tr hF1 r3) (zFr.mu (by omega) (by omega))
  have hH3 := encH_fr ha hH hF3
  have hval : va_up (rYd R0) x (rYd R0 x + far) x = rYd R0 x + far := by simp [va_up]
  obtain ⟨m4, w1, w2, w3⟩ := X_noteEnd (k := k) (x := x) hN5 h40 hx (by exact hdn) (by exact o1) (rYd R0 x + far) (by exact hval) (by omega) hH3.1 hH3.2.1 hE3
  refine ⟨m4, ?_, ?_, zFr.tr hF3 w3⟩
  · unfold jn_X1_goBy_151
    rw [r1', zbd_s, ZA_1_6 ha, Option.bind_some, Zs5 s.1 (by omega), Option.bind_some, w1, zbd_s]
  · exact w2
theorem X_goBy {x lw w : Nat} (hO : okH H) (hH : encH c H m) (hok : okR H R) (hx : x < hN H) (hdn : rDn R x = -9) (hlw : lw ≤ 2) (hw : w ≤ 3) (hE : encX a H R m) : ∃ m', dn_X1_goBy a c (nI lw) (nI x) (nI w) (Z k m) = some ((), Z k m') ∧ encX a H (goS H lw R x w) m' ∧ zFr a m m' := by
  have ha := hE.1
  have s := shp_1 a (shp_le (by omega)) ha
  have hN5 := hO.2.1
  have h40 := hO.1
  obtain ⟨o1, o2, o3⟩ := id hok
  obtain ⟨d1, d2, d3, d4, d5, d6⟩ := o3 x hx
  have hy : rYd R x < hY H := d1.mp hdn
  have hh : rHd R < hN H := by rcases o2 with z | z <;> omega
  have s2 := shp_2 c (shp_le (by have := hH.1; omega)) hH.1
  have hk := (hH.2.2.2.2 x hx).1
  have hk5 := (hO.2.2.2 x hx).1
  have hyo : m (a + 1) x = nI (rYd R x) := by
    have := (hE.2.2.2.2.2.2 x hx).1
    rw [Nat.min_eq_left (by omega)] at this
    exact this
  have hbr : m (a + 2) x = nI (rBr R x) := (hE.2.2.2.2.2.2 x hx).2.1
  have hmb : m (a + 3) x = nI (rMb R x) := (hE.2.2.2.2.2.2 x hx).2.2.1
  have hloop : ∀ p, p ≤ 3 → lp_X1_goBy_44 a c (nI lw) (nI x) (nI (hK H x)) (nI (rYd R x)) (iI (hS H (rYd R x))) (nI p) (Z k m) = jn_X1_goBy_69 a c (nI lw) (nI x) (nI (hK H x)) (nI (rYd R x)) (iI (hS H (rYd R x))) (nI (pcS H R x p)) (Z k m) := fun p hp => X_go44 hO hE hok hx hy p 2000 hp (by omega)
  have hpre : dn_X1_goBy a c (nI lw) (nI x) (nI w) (Z k m) = jn_X1_goBy_69 a c (nI lw) (nI x) (nI (hK H x)) (nI (rYd R x)) (iI (hS H (rYd R x))) (nI (paceS H R x w)) (Z k m) := by
    unfold dn_X1_goBy jn_X1_goBy_40 jn_X1_goBy_42 paceS
    rw [ZO_1 ha, Option.bind_some, ZA_0_3 hH.1, Option.bind_some, Zl5 s2.2.1 (by omega), Option.bind_some, hk, ZA_1_6 ha, Option.bind_some, Zl5 s.1 (by omega), Option.bind_some, hyo, X_slopeAt hO hH hy, zbd_s]
    by_cases h5 : hK H x = 5
    · rw [if_pos ((nE_5 (by omega)).mpr h5)]
      by_cases h3 : w = 3
      · rw [if_pos ((nE_3 (by omega)).mpr h3), if_pos ⟨h5, h3⟩]
        exact hloop 2 (by omega)
      · rw [if_neg (fun z => h3 ((nE_3 (by omega)).mp z)), if_neg (fun z => h3 z.2)]
        exact hloop w hw
    · rw [if_neg (fun z => h5 ((nE_5 (by omega)).mp z)), if_neg (fun z => h5 z.1)]
      exact hloop w hw
  have hp3 := paceS_le (H := H) (R := R) (x := x) hw
  have hpo : 0 ≤ bAf H R x (paceS H R x w) := pcS_ok _
  have hb := bAf_bd (p := paceS H R x w) hO hok hx hy
  have hE1 := E_br x (min (rMb R x) (bAf H R x (paceS H R x w)).toNat) hE
  have hF1 : zFr a m (mu m (a + 2) x (nI (min (rMb R x) (bAf H R x (paceS H R x w)).toNat))) := zFr.mu (by omega) (by omega)
  have hH1 := encH_fr ha hH hF1
  obtain ⟨m', r1, r2, r3⟩ := X_go113 (k := k) (w := w) hO hH1 R hok hx hdn hlw hh _ hE1 (farS H R x w) (farS_le hw)
  refine ⟨m', ?_, r2, zFr.tr hF1 r3⟩
  rw [hpre, ← r1]
  unfold jn_X1_goBy_69 jn_X1_goBy_111
  rw [ZA_1_7 ha, Option.bind_some, ZA_1_8 ha, Option.bind_some, Zl5 s.2.2.1 (by omega), Option.bind_some, hmb, X_breathAfter hO hE hok hx hy hp3, zbd_s, show iI (bAf H R x (paceS H R x w)) = nI (bAf H R x (paceS H R x w)).toNat by rw [iI_nI, Int.toNat_of_nonneg hpo], zmn_n (by omega) (by omega), Zs5 s.2.1 (by omega), Option.bind_some]
  unfold farS
  by_cases h3 : hK H x = 3
  · rw [if_pos ((nE_3 (by omega)).mpr h3)]
    by_cases hp : paceS H R x w = 3
    · rw [if_pos ((nE_3 (by omega)).mpr hp), if_pos ⟨h3, hp⟩]
      rfl
    · rw [if_neg (fun z => hp ((nE_3 (by omega)).mp z)), if_neg (fun z => hp z.2)]
  · rw [if_neg (fun z => h3 ((nE_3 (by omega)).mp z)), if_neg (fun z => h3 z.1)]
end
