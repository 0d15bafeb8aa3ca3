section
variable {k k' : zK} {m m' : Nat → Nat → Int32} {s : zSt} {c : Nat} {H : zHD} {R : zRS}
/-- the STEP in which a RUNNER was DONE, else 60 -/
def endS (R : zRS) (x : Nat) : Nat := if rDn R x = -9 then 60 else (rDn R x).toInt.toNat
def lowL (R : zRS) : Nat → Nat
  | 0 => 60
  | n + 1 => min (lowL R n) (endS R n)
def hiL (R : zRS) : Nat → Nat
  | 0 => 0
  | n + 1 => max (hiL R n) (endS R n)
def apS (H : zHD) (R : zRS) : Nat := hiL R (hN H) - lowL R (hN H)
theorem endS_n {x : Nat} (hok : okR H R) (hx : x < hN H) : endS R x ≤ 60 ∧ (¬ rDn R x = -9 → rDn R x = nI (endS R x)) := by
  unfold endS
  rcases (hok.2.2 x hx).2.1 with h | ⟨d, hd, h⟩
  · rw [if_pos h]
    exact ⟨Nat.le_refl _, fun z => absurd h z⟩
  · have h9 : ¬ rDn R x = -9 := by rw [h]; exact nI_ne9 (by omega)
    have e : (rDn R x).toInt.toNat = d := by rw [h, iI_nI, iI_toInt (by omega) (by omega)]; rfl
    rw [if_neg h9, e]
    exact ⟨hd, fun _ => h⟩
theorem lowL_le : ∀ n, lowL R n ≤ 60
  | 0 => Nat.le_refl _
  | n + 1 => by have := lowL_le n; unfold lowL; omega
theorem hiL_le (hok : okR H R) : ∀ n, n ≤ hN H → hiL R n ≤ 60
  | 0, _ => by unfold hiL; omega
  | n + 1, h => by
    have h1 := hiL_le hok n (by omega)
    have h2 := (endS_n hok (x := n) (by omega)).1
    unfold hiL
    omega
theorem low_hi {n : Nat} : lowL R (n + 1) ≤ hiL R (n + 1) := by unfold lowL hiL; omega
theorem apS_le (hok : okR H R) : apS H R ≤ 60 := by
  have := hiL_le hok _ (Nat.le_refl _)
  unfold apS
  omega
theorem X_apart {a : Nat} (hN5 : hN H ≤ 5) (h0 : hN H ≠ 0) (hok : okR H R) (hE : encX a H R m) : dn_X1_apart a (Z k m) = some (nI (apS H R), Z k m) := by
  have ha := hE.1
  have s := shp_1 a (shp_le (by omega)) ha
  unfold dn_X1_apart lp_X1_apart_7
  rw [ZO_1 ha, Option.bind_some]
  refine lp_fn (N := hN H) (fun x => (nI (lowL R x), nI (hiL R x), nI x)) (fun _ => Z k m) (fun x hx rec => ?_) (fun rec => ?_) (by omega)
  · have l1 := lowL_le (R := R) x
    have l2 := hiL_le hok x (by omega)
    obtain ⟨e1, e2⟩ := endS_n hok hx
    unfold lb_X1_apart_7 jn_X1_apart_34
    dsimp only
    rw [ZI_1_0 ha, Option.bind_some, hE.2.1, ifLt hx (by omega), X_isDone hE hN5 hx, zbd_s]
    by_cases hd : rDn R x = -9
    · have e3 : endS R x = 60 := if_pos hd
      rw [if_pos hd, ifb0, show (60 : Int32) = nI 60 from rfl, zmn_n (by omega) (by omega), zmx_n (by omega) (by omega), nA_1, lowL, hiL, e3]
    · rw [if_neg hd, ifb1, ZA_1_9 ha, Option.bind_some, Zl5 s.2.2.2.1 (by omega), Option.bind_some, (hE.2.2.2.2.2.2 x hx).2.2.2.1, e2 hd, zmn_n (by omega) (by omega), zmx_n (by omega) (by omega), nA_1, lowL, hiL]
  · have l2 := hiL_le hok _ (Nat.le_refl _)
    have l3 : lowL R (hN H) ≤ hiL R (hN H) := by
      obtain ⟨n, hn⟩ : ∃ n, hN H = n + 1 := ⟨hN H - 1, by omega⟩
      rw [hn]
      exact low_hi
    unfold lb_X1_apart_7 jn_X1_apart_56
    dsimp only
    rw [ZI_1_0 ha, Option.bind_some, hE.2.1, ifLf (Nat.le_refl _) (by omega), pk_sub l3]
    rfl
def faH (s : zSt) (code i : Nat) : Nat := dg code (hN (sH s) - 1 - i)
noncomputable def faE (s : zSt) (code : Nat) : zRS := enS (sH s) (sLw s) (begS (sH s) (faH s code) (sB s))
theorem faH_le {code : Nat} : ∀ i, i < hN (sH s) → faH s code i ≤ 9 := fun i _ => by have := dg_le code (hN (sH s) - 1 - i); unfold faH; omega
theorem faE_ok {code : Nat} (hO : okS s) : okR (sH s) (faE s code) := enS_ok hO.2.2.2.1.1 (okR_beg faH_le (stB_le hO))
noncomputable def faL (s : zSt) : Nat → Nat × Nat
  | 0 => (0, 61)
  | c + 1 => if apS (sH s) (faE s c) < (faL s c).2 then (c, apS (sH s) (faE s c)) else faL s c
theorem faL_le (hO : okS s) : ∀ c, (faL s c).1 ≤ c ∧ (faL s c).2 ≤ 61 ∧ (0 < c → (faL s c).2 ≤ 60 ∧ (faL s c).1 < c)
  | 0 => ⟨Nat.le_refl _, Nat.le_refl _, fun h => absurd h (by omega)⟩
  | c + 1 => by
    obtain ⟨h1, h2, h3⟩ := faL_le hO c
    have h4 := apS_le (faE_ok (code := c) hO)
    rw [faL]
    by_cases hc : apS (sH s) (faE s c) < (faL s c).2
    · rw [if_pos hc]
      exact ⟨by dsimp only; omega, by dsimp only; omega, fun _ => by dsimp only; omega⟩
    · rw [if_neg hc]
      refine ⟨by omega, h2, fun _ => by omega⟩
theorem faL_0 {c : Nat} (h : (faL s c).2 = 0) : ∀ d, faL s (c + d) = faL s c
  | 0 => rfl
  | d + 1 => by
    have h1 := faL_0 h d
    show (if apS (sH s) (faE s (c + d)) < (faL s (c + d)).2 then _ else faL s (c + d)) = _
    rw [h1, if_neg (by omega)]
noncomputable def g_fair (r : Int32) (s : zSt) : Int32 × zSt := match ix r 6 with
  | none => (-1, s)
  | some j => if hN (sH s) = 0 then (-4, s) else (nI (faL s (4 ^ hN (sH s))).2, sWs (stW (sW s) j (hN (sH s)) (fun i => nI (faH s (faL s (4 ^ hN (sH s))).1 i))) s)
theorem pow45 {n : Nat} (h : n ≤ 5) : 4 ^ n ≤ 1024 ∧ 1 ≤ 4 ^ n := ⟨Nat.le_trans (Nat.pow_le_pow_right (by omega) h) (by decide), Nat.one_le_pow _ _ (by omega)⟩
theorem X_fa50 {v1 v3 v4 : Int32} {code : Nat} (hO : okS s) (hX : XS s k m) (hc : code < 1024) : ∃ m', (∀ kc, lp_X4_fair_50 kc 2 v1 (nI (hN (sH s))) v3 v4 (nI code) 0 (Z k m) = jn_X4_fair_80 kc 2 v1 (nI (hN (sH s))) v3 v4 (nI code) (Z k m')) ∧ XS s k m' ∧ (∀ i, i < hN (sH s) → m' 36 i = nI (faH s code i)) ∧ ∀ a, a ≠ 36 → m' a = m a := by
  have hOH := hO.2.2.2.1.1
  have hN5 := hOH.2.1
  unfold lp_X4_fair_50
  refine lp_invK (f := fun kc => lb_X4_fair_50 kc 2 v1 (nI (hN (sH s))) v3 v4 (nI code)) (N := hN (sH s)) (I := fun i t h => ∃ m2, t = nI i ∧ h = Z k m2 ∧ XS s k m2 ∧ (∀ j, j < i → m2 36 j = nI (faH s code j)) ∧ ∀ a, a ≠ 36 → m2 a = m a) (P := fun r => ∃ m', (∀ kc, r kc = jn_X4_fair_80 kc 2 v1 (nI (hN (sH s))) v3 v4 (nI code) (Z k m')) ∧ XS s k m' ∧ (∀ i, i < hN (sH s) → m' 36 i = nI (faH s code i)) ∧ ∀ a, a ≠ 36 → m' a = m a) ?_ ?_ (hN (sH s)) 0 2000 _ _ (by omega) (by omega) ⟨m, rfl, rfl, hX, fun j hj => by omega, fun _ _ => rfl⟩
  · rintro i t h hi ⟨m2, rfl, rfl, h1, h2, h3⟩
    refine ⟨nI (i + 1), Z k (mu m2 36 i (nI (faH s code i))), ⟨_, rfl, rfl, h1.sc (fun a g1 g2 g3 => mu_ar _ _ _ (by omega)) (fun y hy => by rw [mu_ar _ _ _ (by omega)]; exact h1.2.2.2.2.2.2 y hy), fun j hj => ?_, fun a ha => by rw [mu_ar _ _ _ ha]; exact h3 a ha⟩, fun kc rec => ?_⟩
    · by_cases hji : j = i
      · subst hji; rw [mu_s]
      · rw [mu_j _ _ hji]; exact h2 j (by omega)
    · unfold lb_X4_fair_50
      rw [ifLt hi (by omega), ZA_4_14 s2, Option.bind_some, show nI (hN (sH s)) - 1 = nI (hN (sH s) - 1) from pk_sub (b := 1) (by omega), pk_sub (by omega), X_fig (by omega) hc, zbd_s, Ms_36 (by omega), Option.bind_some, nA_1]
      rfl
  · rintro t h ⟨m2, rfl, rfl, h1, h2, h3⟩ rec
    refine ⟨m2, fun kc => ?_, h1, h2, h3⟩
    unfold lb_X4_fair_50
    dsimp only
    rw [ifLf (Nat.le_refl _) (by omega)]
noncomputable def sFa (s : zSt) (j c : Nat) : zSt := if c = 0 then s else sWs (stW (sW s) j (hN (sH s)) (fun i => nI (faH s (faL s c).1 i))) s
theorem sFa_p {j c : Nat} (h : 0 < c) : sFa s j c = sWs (stW (sW s) j (hN (sH s)) (fun i => nI (faH s (faL s c).1 i))) s := if_neg (by omega)
theorem sFa_w {j c : Nat} {f : Nat → Int32} : sWs (stW (sW (sFa s j c)) j (hN (sH s)) f) (sFa s j c) = sWs (stW (sW s) j (hN (sH s)) f) s := by
  by_cases h : c = 0
  · rw [show sFa s j c = s from if_pos h]
  · rw [show sFa s j c = _ from if_neg h]
    show sWs (stW (stW (sW s) j (hN (sH s)) _) j (hN (sH s)) f) s = _
    rw [stW_stW]
theorem sFa_h {j c : Nat} : (sFa s j c).2.2 = s.2.2 ∧ (sFa s j c).1 = s.1 := by
  by_cases h : c = 0
  · rw [show sFa s j c = s from if_pos h]
    exact ⟨rfl, rfl⟩
  · rw [show sFa s j c = _ from if_neg h]
    exact ⟨rfl, rfl⟩
theorem sFa_ok {j c : Nat} (hO : okS s) : okS (sFa s j c) := by
  have hN5 := hO.2.2.2.1.1.2.1
  by_cases h : c = 0
  · rw [show sFa s j c = s from if_pos h]
    exact hO
  · rw [show sFa s j c = _ from if_neg h]
    exact hO.w (stW_sz hO.2.1 (by omega))
theorem sFa_H {j c : Nat} : sH (sFa s j c) = sH s ∧ sB (sFa s j c) = sB s ∧ sLw (sFa s j c) = sLw s := by
  obtain ⟨h1, h2⟩ := sFa_h (s := s) (j := j) (c := c)
  refine ⟨?_, ?_, ?_⟩
  · show (sFa s j c).2.2.2.1.1 = _
    rw [h1]
  · show (sFa s j c).2.2.2.1.2.1 = _
    rw [h1]
  · show (sFa s j c).1.1 = _
    rw [h2]
theorem x_fair (r : Int32) : okX (dn_X4_fair 2 r) (g_fair r) := by
  intro s k m hO hX hk
  have hOH := hO.2.2.2.1.1
  have hN5 := hOH.2.1
  have hp := pow45 hN5
  have hG := hX.2.2.2.1
  have hkc := hG.1
  have s7 := shp_2 _ (shp_le (by have := hG.2.1.1; omega)) hG.2.1.1
  unfold dn_X4_fair g_fair
  rw [ZO_4 s2, Option.bind_some, X_isRow, zbd_s]
  cases h : ix r 6 with
  | none => exact ⟨k, m, by rw [ifNo, ifb0], hX, zfX.rf⟩
  | some j =>
    dsimp only
    obtain ⟨rfl, hj⟩ := ix_s (by omega) h
    rw [ifSo, ifb1, ZA_4_2 s2, Option.bind_some, ZI_0_2 hG.2.1.1, Option.bind_some, hG.2.1.2.2.1]
    by_cases h0 : hN (sH s) = 0
    · rw [et_0 h0, if_pos h0]
      exact ⟨k, m, rfl, hX, zfX.rf⟩
    · rw [ef_0 h0 (by omega), if_neg h0, X_pow4 (by omega), zbd_s, ← sFa_p (s := s) (j := j) (show 0 < 4 ^ hN (sH s) by omega)]
      refine lp_inv (N := 4 ^ hN (sH s)) (I := fun c t h => ∃ m2, t = (nI (faL s c).2, nI c) ∧ h = Z k m2 ∧ XS (sFa s j c) k m2 ∧ zfX k m k m2) (Q := fun r => ∃ k' m', r = some (nI (faL s (4 ^ hN (sH s))).2, Z k' m') ∧ XS (sFa s j (4 ^ hN (sH s))) k' m' ∧ zfX k m k' m') ?_ ?_ (4 ^ hN (sH s)) 0 2000 _ _ (by omega) (by omega) ⟨m, rfl, rfl, by rw [show sFa s j 0 = s from if_pos rfl]; exact hX, zfX.rf⟩
      · rintro c t h hc ⟨m2, rfl, rfl, h1, h2⟩
        obtain ⟨l1, l2, l3⟩ := faL_le hO c
        by_cases hl0 : (faL s c).2 = 0
        · right
          intro rec
          have hc0 : 0 < c := by
            rcases Nat.eq_zero_or_pos c with z | z
            · subst z
              exact absurd hl0 (by rw [faL]; decide)
            · exact z
          have e9 : faL s (4 ^ hN (sH s)) = faL s c := by
            rw [show 4 ^ hN (sH s) = c + (4 ^ hN (sH s) - c) by omega]
            exact faL_0 hl0 _
          refine ⟨k, m2, ?_, ?_, h2⟩
          · unfold lb_X4_fair_36 jn_X4_fair_135
            dsimp only
            rw [ifLt hc (by omega), jf_0 (by omega), e9]
          · rw [sFa_p (by omega), e9, ← sFa_p hc0]
            exact h1
        · left
          obtain ⟨eH, eB, eL⟩ := sFa_H (s := s) (j := j) (c := c)
          have hOc := sFa_ok (j := j) (c := c) hO
          obtain ⟨m3, r1, r2, r3, r4⟩ := X_fa50 (v1 := nI j) (v3 := nI (4 ^ hN (sH s))) (v4 := nI (faL s c).2) hOc h1 (show c < 1024 by omega)
          rw [eH] at r1 r3
          have r3' : ∀ i, i < hN (sH s) → m3 36 i = nI (faH s c i) := fun i hi => by
            have := r3 i hi
            unfold faH at this ⊢
            rw [eH] at this
            exact this
          have hG3 := r2.2.2.2.1
          obtain ⟨m4, q1, q2, q3⟩ := X_runT (ah := 36) (ab := kC k + 3) (hd := faH s c) (br := sB s) hOc r2 rfl s7.2.2.1 (by omega) (by omega) (fun i hi => faH_le i (by rw [eH] at hi; exact hi)) (fun i hi => stB_le hO i (by rw [eH] at hi; exact hi)) (fun i hi => ⟨r3' i (by rw [eH] at hi; exact hi), by have := (hG3.2.2 i hi).1; rw [eB] at this; exact this⟩)
          have q2' : encX 26 (sH s) (faE s c) m4 := by
            rw [eH, eL] at q2
            exact q2
          have hap := apS_le (faE_ok (code := c) hO)
          have hX4 := r2.t26 q3
          have hgo : ∀ rec, lb_X4_fair_36 2 (nI j) (nI (hN (sH s))) (nI (4 ^ hN (sH s))) rec (nI (faL s c).2, nI c) (Z k m2) = if nI (apS (sH s) (faE s c)) < nI (faL s c).2 then zbd (dn_X3_fillFrom (40 + 2 * j) 36 (nI (hN (sH s))) (Z k m4)) (fun _ h13 => rec (nI (apS (sH s) (faE s c)), nI (c + 1)) h13) else rec (nI (faL s c).2, nI (c + 1)) (Z k m4) := by
            intro rec
            unfold lb_X4_fair_36
            dsimp only
            rw [ifLt hc (by omega), jt_0 (by omega) (by omega), r1]
            unfold jn_X4_fair_80 jn_X4_fair_129
            rw [ZA_4_14 s2, Option.bind_some, ZA_4_2 s2, Option.bind_some, ZA_0_4 hG.2.1.1, Option.bind_some, q1, zbd_s, ZA_4_5 s2, Option.bind_some, X_apart hN5 h0 (faE_ok hO) q2', zbd_s, ZA_4_0 s2, Option.bind_some, RW_r rwP_r hj, Option.bind_some, ZA_4_14 s2, Option.bind_some, nA_1]
          by_cases hlt : apS (sH s) (faE s c) < (faL s c).2
          · obtain ⟨m5, u1, u2, u3, u4⟩ := X_fillFrom (k := k) (m := m4) (a := 36) (n := hN (sH s)) (f := fun i => nI (faH s c i)) hj rfl (by omega) hN5 (fun i hi => by rw [q3 36 (by omega)]; exact r3' i hi)
            have hX5 := hX4.w (zXQ.st hX4.2.1 hj u2 u3 fun r' g1 g2 => ⟨u4 _ (by omega) (by omega), u4 _ (by omega) (by omega)⟩) (fun a g1 g2 => u4 a (by omega) (by omega))
            have e1 : faL s (c + 1) = (c, apS (sH s) (faE s c)) := by rw [faL, if_pos hlt]
            rw [sFa_w] at hX5
            refine ⟨(nI (faL s (c + 1)).2, nI (c + 1)), Z k m5, ⟨m5, rfl, rfl, ?_, h2.tr0 fun a ha => by rw [u4 a (by omega) (by omega), q3 a (by omega), r4 a (by omega)]⟩, fun rec => ?_⟩
            · rw [sFa_p (by omega), e1]
              exact hX5
            · rw [hgo, ifLt hlt (by omega), u1, zbd_s, e1]
          · have e1 : faL s (c + 1) = faL s c := by rw [faL, if_neg hlt]
            refine ⟨(nI (faL s (c + 1)).2, nI (c + 1)), Z k m4, ⟨m4, rfl, rfl, ?_, h2.tr0 fun a ha => by rw [q3 a (by omega), r4 a (by omega)]⟩, fun rec => ?_⟩
            · have hc0 : 0 < c := by
                rcases Nat.eq_zero_or_pos c with z | z
                · subst z
                  exact absurd (show apS (sH s) (faE s 0) < (faL s 0).2 by rw [faL]; dsimp only; omega) hlt
                · exact z
              rw [sFa_p (by omega), e1, ← sFa_p hc0]
              exact hX4
            · rw [hgo, ifLf (by omega) (by omega), e1]
      · rintro t h ⟨m2, rfl, rfl, h1, h2⟩ rec
        refine ⟨k, m2, ?_, h1, h2⟩
        unfold lb_X4_fair_36 jn_X4_fair_135
        dsimp only
        rw [ifLf (Nat.le_refl _) (by omega)]
end
