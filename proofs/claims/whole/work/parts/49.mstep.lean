section
variable {k : zK} {m : Nat → Nat → Int32} {q : Nat} {H : zHD} {R : zRS}
theorem M_passes {x o lw fr : Nat} {sl : Int} (hN5 : hN H ≤ 5) (h40 : hY H ≤ 40) (hb : m 81 29 = nI q) (hl : m 81 18 = nI lw) (hlw : lw ≤ 2) (hE : encM q H R m) (hh : rHd R < hN H) (hx : x < hN H) (ho : o < hN H) (hfr : fr < hY H) (hsl : m 88 fr = iI sl) (hs1 : -1 ≤ sl) (hs2 : sl ≤ 2) :
    ∃ m', dn_X5_passes 81 (nI x) (nI o) (nI fr) (Z k m) = some ((), Z k m') ∧ (mvS (rDn R) lw x sl (rHd R) → encM q H (rSt R, o, rPs R + 1, rYd R, rBr R, rMb R, rDn R, rCr R, va_up (rPb R) x (rPb R x ||| (1 <<< (nI o &&& 31)))) m') ∧ (¬ mvS (rDn R) lw x sl (rHd R) → encM q H (rSt R, rHd R, rPs R + 1, rYd R, rBr R, rMb R, rDn R, rCr R, va_up (rPb R) x (rPb R x ||| (1 <<< (nI o &&& 31)))) m') ∧ zFm q m m' := by
  have hq := hE.1
  have hE1 := G_ps (rPs R + 1) hN5 hE
  have hE2 := G_pb x (by omega) (rPb R x ||| (1 <<< (nI o &&& 31))) hN5 hE1
  have hF2 : zFm q m (mu (mu m 100 (q + 2) (rPs R + 1)) 100 (q + (23 + x)) (rPb R x ||| (1 <<< (nI o &&& 31)))) := zFm.tr (zFm.mu (by omega)) (zFm.mu (by omega))
  have hb1 : mu m 100 (q + 2) (rPs R + 1) 81 29 = nI q := hb
  generalize hm2 : mu (mu m 100 (q + 2) (rPs R + 1)) 100 (q + (23 + x)) (rPb R x ||| (1 <<< (nI o &&& 31))) = m2 at *
  have hb2 : m2 81 29 = nI q := by rw [hF2.1 81 (by decide)]; exact hb
  have hl2 : m2 81 18 = nI lw := by rw [hF2.1 81 (by decide)]; exact hl
  have hs : m2 88 fr = iI sl := by rw [hF2.1 88 (by decide)]; exact hsl
  have hsack : dn_X5_v 81 1 (Z k m2) = some (nI (rHd R), Z k m2) := by rw [M_v1 hb2 hq, hE2.2.2.1]
  have hdone : dn_X5_isDone 81 (nI (rHd R)) (Z k m2) = some (if rDn R (rHd R) = -9 then 0 else 1, Z k m2) := by
    have := M_isDone (k := k) hb2 hE2 hN5 hh
    exact this
  have hpre : dn_X5_passes 81 (nI x) (nI o) (nI fr) (Z k m) = (if lw = 1 then (if rHd R = x then jn_X5_passes_78 81 (nI o) 1 (Z k m2) else jn_X5_passes_78 81 (nI o) 0 (Z k m2)) else if lw = 0 then jn_X5_passes_78 81 (nI o) 1 (Z k m2) else if 0 < sl then jn_X5_passes_78 81 (nI o) 0 (Z k m2) else jn_X5_passes_78 81 (nI o) 1 (Z k m2)) := by
    unfold dn_X5_passes jn_X5_passes_73
    have hpb : mu m 100 (q + 2) (rPs R + 1) 100 (q + (23 + x)) = rPb R x := (hE1.2.2.2.2 x hx).2.2.2.2.1
    rw [ZO_5 s81, Option.bind_some, M_v2 hb hq, zbd_s, hE.2.2.2.1, M_put2 hb hq, zbd_s, nB_23, M_v hb1 (by omega), zbd_s, hpb, M_put hb1 (by omega), zbd_s, hm2, ZI_5_18 s81, Option.bind_some, hl2]
    by_cases h1 : lw = 1
    · rw [if_pos ((nE_1 (by omega)).mpr h1), if_pos h1, hsack, zbd_s]
      by_cases h2 : rHd R = x
      · rw [ifEt h2, if_pos h2]
      · rw [ifEf h2 (by omega) (by omega), if_neg h2]
    · rw [if_neg (fun z => h1 ((nE_1 (by omega)).mp z)), if_neg h1, Option.bind_some]
      by_cases h0 : lw = 0
      · rw [if_pos ((nE_0 (by omega)).mpr h0), if_pos h0]
      · rw [if_neg (fun z => h0 ((nE_0 (by omega)).mp z)), if_neg h0, ZA_5_11 s81, Option.bind_some, Zl40 (show shp 88 = 7 from rfl) (by omega), Option.bind_some, hs]
        by_cases h3 : 0 < sl
        · rw [if_pos ((jL_0 (by omega) (by omega)).mpr h3), if_pos h3]
        · rw [if_neg (fun z => h3 ((jL_0 (by omega) (by omega)).mp z)), if_neg h3]
  have hno : jn_X5_passes_78 81 (nI o) 0 (Z k m2) = some ((), Z k m2) := by
    unfold jn_X5_passes_78 jn_X5_passes_103
    rw [ifb0]
  have hyes : rDn R (rHd R) = -9 → jn_X5_passes_78 81 (nI o) 1 (Z k m2) = some ((), Z k (mu m2 100 (q + 1) (nI o))) := by
    intro hd
    unfold jn_X5_passes_78 jn_X5_passes_103
    rw [ifb1, hsack, zbd_s, hdone, zbd_s, if_pos hd, ifb0, M_put1 hb2 hq, zbd_s]
  have hyes2 : ¬ rDn R (rHd R) = -9 → jn_X5_passes_78 81 (nI o) 1 (Z k m2) = some ((), Z k m2) := by
    intro hd
    unfold jn_X5_passes_78 jn_X5_passes_103
    rw [ifb1, hsack, zbd_s, hdone, zbd_s, if_neg hd, ifb1]
  by_cases hmv : mvS (rDn R) lw x sl (rHd R)
  · refine ⟨mu m2 100 (q + 1) (nI o), ?_, fun _ => G_hd o hN5 hE2, fun z => absurd hmv z, zFm.tr hF2 (zFm.mu (by omega))⟩
    rw [hpre]
    obtain ⟨hd, hc⟩ := hmv
    rcases hc with h0 | ⟨h1, h2⟩ | ⟨h1, h2⟩
    · rw [if_neg (by omega), if_pos h0]; exact hyes hd
    · rw [if_pos h1, if_pos h2]; exact hyes hd
    · rw [if_neg (by omega), if_neg (by omega), if_neg (by omega)]; exact hyes hd
  · refine ⟨m2, ?_, fun z => absurd z hmv, fun _ => hE2, hF2⟩
    rw [hpre]
    by_cases hd : rDn R (rHd R) = -9
    · have hc : ¬ (lw = 0 ∨ (lw = 1 ∧ rHd R = x) ∨ (lw = 2 ∧ sl ≤ 0)) := fun z => hmv ⟨hd, z⟩
      by_cases h1 : lw = 1
      · rw [if_pos h1, if_neg (by omega)]; exact hno
      · rw [if_neg h1, if_neg (by omega), if_pos (by omega)]; exact hno
    · by_cases h1 : lw = 1
      · rw [if_pos h1]
        by_cases h2 : rHd R = x
        · rw [if_pos h2]; exact hyes2 hd
        · rw [if_neg h2]; exact hno
      · rw [if_neg h1]
        by_cases h0 : lw = 0
        · rw [if_pos h0]; exact hyes2 hd
        · rw [if_neg h0]
          by_cases h3 : 0 < sl
          · rw [if_pos h3]; exact hno
          · rw [if_neg h3]; exact hyes2 hd
/-- what stays while a RUNNER of the reference goes -/
def zMq (q lw : Nat) (m : Nat → Nat → Int32) : Prop := m 81 29 = nI q ∧ m 81 18 = nI lw
theorem zMq.fr {lw : Nat} {m' : Nat → Nat → Int32} (h : zMq q lw m) (hf : zFm q m m') : zMq q lw m' := ⟨by rw [hf.1 81 (by decide)]; exact h.1, by rw [hf.1 81 (by decide)]; exact h.2⟩
theorem M_go148 {kc : Int32 → zAH → Option (Unit × zAH)} {x lw y fr : Nat} {sl : Int} {v4 : Int32} {t0 : Int32 × Int32 × Nat} (hN5 : hN H ≤ 5) (h40 : hY H ≤ 40) (hx : x < hN H) (hlw : lw ≤ 2) (hs1 : -1 ≤ sl) (hs2 : sl ≤ 2) (hfr : fr < hY H) (hy : y ≤ 44) (ht0 : t0.2.2 < hN H) (hyd : ∀ o, o < hN H → rYd R o ≤ 44) :
    ∀ n o m f, o + n = hN H → n < f → encG H m → m 88 fr = iI sl → zMq q lw m → encM q H (setT R x (psO (rYd R) (rDn R) lw x sl y o t0)) m → ∃ m', zlp (lb_X5_goesOn_148 kc 81 (nI x) v4 (nI fr) (nI y)) f (nI o) (Z k m) = kc (nI (y + 1)) (Z k m') ∧ encM q H (setT R x (psO (rYd R) (rDn R) lw x sl y (hN H) t0)) m' ∧ zFm q m m' := by
  intro n
  induction n with
  | zero =>
    intro o m f ho hf hG hsl hM hE
    obtain ⟨f, rfl⟩ : ∃ g, f = g + 1 := ⟨f - 1, by omega⟩
    obtain rfl : o = hN H := by omega
    refine ⟨m, ?_, hE, zFm.rf⟩
    rw [zlp_s]
    show (zgI 5 12 81 (Z k m)).bind _ = _
    rw [ZI_5_12 s81, Option.bind_some, hG.2.1, ifLf (Nat.le_refl _) (by omega)]
    unfold jn_X5_goesOn_200
    rw [nA_1]
  | succ n ih =>
    intro o m f ho hf hG hsl hM hE
    obtain ⟨f, rfl⟩ : ∃ g, f = g + 1 := ⟨f - 1, by omega⟩
    have hoN : o < hN H := by omega
    have hq := hE.1
    have hps := psO_hd (yd := rYd R) (dn := rDn R) (lw := lw) (x := x) (sl := sl) (y := y) ht0 o (by omega)
    have hdone : dn_X5_isDone 81 (nI o) (Z k m) = some (if rDn R o = -9 then 0 else 1, Z k m) := by
      have h9 := M_isDone (k := k) hM.1 hE hN5 hoN
      exact h9
    have hyo : dn_X5_v 81 (nI (3 + o)) (Z k m) = some (nI (rYd R o), Z k m) := by
      rw [M_v hM.1 (by omega), (hE.2.2.2.2 o hoN).1]; rfl
    have hyo44 := hyd o hoN
    rw [zlp_s]
    show ∃ m', (zgI 5 12 81 (Z k m)).bind _ = _ ∧ _
    rw [ZI_5_12 s81, Option.bind_some, hG.2.1, ifLt hoN (by omega)]
    have hskip : jn_X5_goesOn_194 kc (zlp (lb_X5_goesOn_148 kc 81 (nI x) v4 (nI fr) (nI y)) f) 81 (nI x) v4 (nI fr) (nI y) (nI o) (Z k m) = zlp (lb_X5_goesOn_148 kc 81 (nI x) v4 (nI fr) (nI y)) f (nI (o + 1)) (Z k m) := by
      unfold jn_X5_goesOn_194
      rw [nA_1]
    by_cases hc : rYd R o = y ∧ o ≠ x ∧ rDn R o = -9
    · obtain ⟨c1, c2, c3⟩ := hc
      have hst : psO (rYd R) (rDn R) lw x sl y (o + 1) t0 = _ := if_pos ⟨c1, c2, c3⟩
      generalize hT : psO (rYd R) (rDn R) lw x sl y o t0 = T at *
      obtain ⟨m1, r1, r2, r3, r4⟩ := M_passes (k := k) (R := setT R x T) (sl := sl) hN5 h40 hM.1 hM.2 hlw hE hps hx hoN hfr hsl hs1 hs2
      have epb : rPb (setT R x T) x = T.2.1 := by show va_up (rPb R) x T.2.1 x = _; simp [va_up]
      have euu : ∀ v : Int32, va_up (rPb (setT R x T)) x v = va_up (rPb R) x v := fun v => bx_uu _ _ _ _
      have hE1 : encM q H (setT R x (psO (rYd R) (rDn R) lw x sl y (o + 1) t0)) m1 := by
        rw [hst]
        by_cases hq2 : mvS (rDn R) lw x sl T.2.2
        · rw [if_pos hq2]
          have h9 := r2 hq2
          rw [epb, euu] at h9
          exact h9
        · rw [if_neg hq2]
          have h9 := r3 hq2
          rw [epb, euu] at h9
          exact h9
      obtain ⟨m', w1, w2, w3⟩ := ih (o + 1) m1 f (by omega) (by omega) (encG_fr hG r4) (by rw [r4.1 88 (by decide)]; exact hsl) (hM.fr r4) hE1
      refine ⟨m', ?_, w2, zFm.tr r4 w3⟩
      rw [ifEf c2 (by omega) (by omega), hdone, zbd_s, if_pos c3, ifb0, nB_3, hyo, zbd_s, ifEt c1, r1, zbd_s]
      unfold jn_X5_goesOn_194
      rw [nA_1]
      exact w1
    · have hst : psO (rYd R) (rDn R) lw x sl y (o + 1) t0 = psO (rYd R) (rDn R) lw x sl y o t0 := if_neg hc
      obtain ⟨m', w1, w2, w3⟩ := ih (o + 1) m f (by omega) (by omega) hG hsl hM (by rw [hst]; exact hE)
      refine ⟨m', ?_, w2, w3⟩
      rw [← w1]
      by_cases c2 : o = x
      · rw [ifEt c2]; exact hskip
      · rw [ifEf c2 (by omega) (by omega), hdone, zbd_s]
        by_cases c3 : rDn R o = -9
        · have c1 : ¬ rYd R o = y := fun z => hc ⟨z, c2, c3⟩
          rw [if_pos c3, ifb0, nB_3, hyo, zbd_s, ifEf c1 (by omega) (by omega)]; exact hskip
        · rw [if_neg c3, ifb1]; exact hskip
theorem M_go135 {x lw fr far : Nat} {sl : Int} {t0 : Int32 × Int32 × Nat} (hN5 : hN H ≤ 5) (h40 : hY H ≤ 40) (hx : x < hN H) (hlw : lw ≤ 2) (hs1 : -1 ≤ sl) (hs2 : sl ≤ 2) (hfr : fr < hY H) (hfar : far ≤ 4) (ht0 : t0.2.2 < hN H) (hyd : ∀ o, o < hN H → rYd R o ≤ 44) :
    ∀ n c m f, c + n = far → n < f → encG H m → m 88 fr = iI sl → zMq q lw m → encM q H (setT R x (psY (rYd R) (rDn R) lw x sl (hN H) fr c t0)) m → ∃ m', zlp (lb_X5_goesOn_135 81 (nI x) (nI far) (nI fr)) f (nI (fr + c)) (Z k m) = jn_X5_goesOn_206 81 (nI x) (nI far) (nI fr) (Z k m') ∧ encM q H (setT R x (psY (rYd R) (rDn R) lw x sl (hN H) fr far t0)) m' ∧ zFm q m m' := by
  intro n
  induction n with
  | zero =>
    intro c m f hc hf hG hsl hM hE
    obtain ⟨f, rfl⟩ : ∃ g, f = g + 1 := ⟨f - 1, by omega⟩
    obtain rfl : c = far := by omega
    refine ⟨m, ?_, hE, zFm.rf⟩
    rw [zlp_s]
    show (if nI (fr + c) < nI fr + nI c then _ else _) = _
    rw [nI_add, ifLf (Nat.le_refl _) (by omega)]
  | succ n ih =>
    intro c m f hc hf hG hsl hM hE
    obtain ⟨f, rfl⟩ : ∃ g, f = g + 1 := ⟨f - 1, by omega⟩
    rw [zlp_s]
    obtain ⟨m1, r1, r2, r3⟩ := M_go148 (k := k) (kc := zlp (lb_X5_goesOn_135 81 (nI x) (nI far) (nI fr)) f) (v4 := nI far) (y := fr + c) (t0 := psY (rYd R) (rDn R) lw x sl (hN H) fr c t0) hN5 h40 hx hlw hs1 hs2 hfr (by omega) (psY_hd ht0 c) hyd (hN H) 0 m 2000 (by omega) (by omega) hG hsl hM hE
    obtain ⟨m', w1, w2, w3⟩ := ih (c + 1) m1 f (by omega) (by omega) (encG_fr hG r3) (by rw [r3.1 88 (by decide)]; exact hsl) (hM.fr r3) r2
    refine ⟨m', ?_, w2, zFm.tr r3 w3⟩
    rw [← w1]
    show (if nI (fr + c) < nI fr + nI far then _ else _) = _
    rw [nI_add, ifLt (by omega) (by omega)]
    exact r1
theorem M_go27 {x : Nat} (hO : okH H) (hG : encG H m) (hb : m 81 29 = nI q) (hE : encM q H R m) (hok : okR H R) (hx : x < hN H) (hy : rYd R x < hY H) : ∀ p f, p ≤ 3 → p < f → zlp (lb_X5_goesOn_27 81 (nI x)) f (nI p) (Z k m) = jn_X5_goesOn_42 81 (nI x) (nI (pcS H R x p)) (Z k m) := by
  intro p
  have hmb := (hok.2.2 x hx).2.2.2.2
  induction p with
  | zero =>
    intro f _ hf
    obtain ⟨f, rfl⟩ : ∃ g, f = g + 1 := ⟨f - 1, by omega⟩
    rw [zlp_s]
    show zbd (dn_X5_breathBy 81 (nI x) (nI 0) (Z k m)) _ = _
    have hb0 := bAf_bd (p := 0) hO hok hx hy
    have hp0 : 0 ≤ bAf H R x 0 := pcS_ok (H := H) (R := R) (x := x) 0
    rw [M_breathBy hO hG hb hE hok hx hy (by omega), zbd_s, if_neg (fun z => by have := (iL_0 (by omega) (by omega)).mp z; omega)]
    rfl
  | succ p ih =>
    intro f hp hf
    obtain ⟨f, rfl⟩ : ∃ g, f = g + 1 := ⟨f - 1, by omega⟩
    rw [zlp_s]
    show zbd (dn_X5_breathBy 81 (nI x) (nI (p + 1)) (Z k m)) _ = _
    have hb0 := bAf_bd (p := p + 1) hO hok hx hy
    rw [M_breathBy hO hG hb hE hok hx hy hp, zbd_s]
    by_cases hlt : bAf H R x (p + 1) < 0
    · rw [if_pos ((iL_0 (by omega) (by omega)).mpr (by omega)), nDec, ih f (by omega) (by omega)]
      rw [show pcS H R x (p + 1) = pcS H R x p from if_pos hlt]
    · rw [if_neg (fun z => by have := (iL_0 (by omega) (by omega)).mp z; omega)]
      rw [show pcS H R x (p + 1) = p + 1 from if_neg hlt]
end
