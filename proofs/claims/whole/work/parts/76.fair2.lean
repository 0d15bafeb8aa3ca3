section
variable {k k' : zK} {m m' : Nat → Nat → Int32} {s : zSt} {c : Nat} {H : zHD} {R : zRS}
theorem M_dg {code p : Nat} (hc : code < 2 ^ 31) (hp : p ≤ 5) : nI code / nI (4 ^ p) % 4 = nI (dg code p) := by
  have h4 := pow45 hp
  rw [nDiv hc (by omega) (by omega), nR4 (Nat.lt_of_le_of_lt (Nat.div_le_self _ _) hc)]
  rfl
theorem M_fa46 {v1 v2 v3 : Int32} {code : Nat} (hO : okS s) (hM : MS s k m) (hw : zWl m) (hE : encM 132 (sH s) (begS (sH s) (sD s) (sB s)) m) (hc : code < 1024) : ∃ m', (∀ kc, lp_X5_fair_46 kc 81 v1 v2 v3 (nI code) 0 (Z k m) = jn_X5_fair_92 kc 81 v1 v2 v3 (nI code) (Z k m')) ∧ encM 132 (sH s) (begS (sH s) (faH s code) (sB s)) m' ∧ MS s k m' ∧ zWl m' ∧ zFm 132 m m' := by
  have hOH := hO.2.2.2.1.1
  have hN5 := hOH.2.1
  unfold lp_X5_fair_46
  refine lp_invK (f := fun kc => lb_X5_fair_46 kc 81 v1 v2 v3 (nI code)) (N := hN (sH s)) (I := fun i t h => ∃ m2 R, t = nI i ∧ h = Z k m2 ∧ MS s k m2 ∧ zWl m2 ∧ encM 132 (sH s) R m2 ∧ agS (sH s) (faH s code) (sB s) i R ∧ zFm 132 m m2) (P := fun r => ∃ m', (∀ kc, r kc = jn_X5_fair_92 kc 81 v1 v2 v3 (nI code) (Z k m')) ∧ encM 132 (sH s) (begS (sH s) (faH s code) (sB s)) m' ∧ MS s k m' ∧ zWl m' ∧ zFm 132 m m') ?_ ?_ (hN (sH s)) 0 2000 _ _ (by omega) (by omega) ⟨m, _, rfl, rfl, hM, hw, hE, agS_0, zFm.rf⟩
  · rintro i t h hi ⟨m2, R, rfl, rfl, h1, h2, h3, h4, h5⟩
    have hG := h1.2.2.2.1
    have hd := faH_le (s := s) (code := code) i hi
    have h4p := pow45 (n := hN (sH s) - 1 - i) (by omega)
    obtain ⟨m3, r1, r2, r3, r4, r5⟩ := M_startsW (b := sB s i) (h := faH s code i) hO h1 h2 h3 hi (by omega)
    refine ⟨nI (i + 1), Z k m3, ⟨m3, _, rfl, rfl, r3, r4, r2, agS_st h4 rfl rfl, zFm.tr h5 r5⟩, fun kc rec => ?_⟩
    unfold lb_X5_fair_46
    rw [ZI_5_12 s81, Option.bind_some, hG.1.2.1, ifLt hi (by omega), ZA_5_14 s81, Option.bind_some, Ml_90 (by omega), Option.bind_some, (hG.2 i hi).1, Option.bind_some, show nI (hN (sH s)) - 1 = nI (hN (sH s) - 1) from pk_sub (b := 1) (by omega), pk_sub (by omega), show dn_X5_powerOf 4 (nI (hN (sH s) - 1 - i)) (Z k m2) = _ from M_pow (b := 4) (by omega) (by omega), zbd_s, ef_0 (by omega) (by omega), if_neg (by decide), M_dg (by omega) (by omega), show nI (dg code (hN (sH s) - 1 - i)) = nI (faH s code i) from rfl, r1, zbd_s, nA_1]
  · rintro t h ⟨m2, R, rfl, rfl, h1, h2, h3, h4, h5⟩ rec
    refine ⟨m2, fun kc => ?_, agS_end h4 h3, h1, h2, h5⟩
    unfold lb_X5_fair_46
    dsimp only
    rw [ZI_5_12 s81, Option.bind_some, h1.2.2.2.1.1.2.1, ifLf (Nat.le_refl _) (by omega)]
theorem M_fa106 {kc : (Int32 × Int32 × Int32) → zAH → Option (Int32 × zAH)} {v1 v2 v3 v4 : Int32} (hN5 : hN H ≤ 5) (hok : okR H R) (hG : encG H m) (hb : m 81 29 = nI 132) (hE : encM 132 H R m) : lp_X5_fair_106 kc 81 v1 v2 v3 v4 (60, 0, 0) (Z k m) = jn_X5_fair_164 kc 81 v1 v2 v3 v4 (nI (lowL R (hN H))) (nI (hiL R (hN H))) (Z k m) := by
  unfold lp_X5_fair_106
  refine lp_fn (N := hN H) (fun x => (nI (lowL R x), nI (hiL R x), nI x)) (fun _ => Z k m) (fun x hx rec => ?_) (fun rec => ?_) (by omega)
  · have l1 := lowL_le (R := R) x
    have l2 := hiL_le hok x (by omega)
    obtain ⟨e1, e2⟩ := endS_n hok hx
    unfold lb_X5_fair_106 jn_X5_fair_138
    dsimp only
    rw [ZI_5_12 s81, Option.bind_some, hG.2.1, ifLt hx (by omega), M_isDone hb hE hN5 hx, zbd_s]
    by_cases hd : rDn R x = -9
    · have e3 : endS R x = 60 := if_pos hd
      rw [if_pos hd, ifb0, show (60 : Int32) = nI 60 from rfl, M_lesN (by omega) (by omega), zbd_s, M_greN (by omega) (by omega), zbd_s, nA_1, lowL, hiL, e3]
    · rw [if_neg hd, ifb1, nB_13, M_v hb (by omega), zbd_s, (hE.2.2.2.2 x hx).2.2.1, e2 hd, M_lesN (by omega) (by omega), zbd_s, M_greN (by omega) (by omega), zbd_s, nA_1, lowL, hiL]
  · unfold lb_X5_fair_106
    dsimp only
    rw [ZI_5_12 s81, Option.bind_some, hG.2.1, ifLf (Nat.le_refl _) (by omega)]
theorem M_fa205 {v3 : Int32} {j best n : Nat} (hn5 : n ≤ 5) (hj : j < 6) (hb : best < 1024) (hG : m 81 12 = nI n) : ∃ m', lp_X5_fair_205 81 (nI j) (nI best) v3 0 (Z k m) = some (v3, Z k m') ∧ (∀ i, i < n → m' 84 (60 * j + i) = nI (dg best (n - 1 - i))) ∧ (∀ a, a ≠ 84 → m' a = m a) ∧ ∀ i, (i < 60 * j ∨ 60 * j + 60 ≤ i) → m' 84 i = m 84 i := by
  unfold lp_X5_fair_205
  refine lp_inv (N := 60) (I := fun x t h => ∃ m2, t = nI x ∧ h = Z k m2 ∧ (∀ i, i < x → i < n → m2 84 (60 * j + i) = nI (dg best (n - 1 - i))) ∧ (∀ a, a ≠ 84 → m2 a = m a) ∧ ∀ i, (i < 60 * j ∨ 60 * j + 60 ≤ i) → m2 84 i = m 84 i) (Q := fun r => ∃ m', r = some (v3, Z k m') ∧ (∀ i, i < n → m' 84 (60 * j + i) = nI (dg best (n - 1 - i))) ∧ (∀ a, a ≠ 84 → m' a = m a) ∧ ∀ i, (i < 60 * j ∨ 60 * j + 60 ≤ i) → m' 84 i = m 84 i) ?_ ?_ 60 0 2000 _ _ (by omega) (by omega) ⟨m, rfl, rfl, fun i hi => by omega, fun _ _ => rfl, fun _ _ => rfl⟩
  · rintro x t h hx ⟨m2, rfl, rfl, h1, h2, h3⟩
    left
    have hg : m2 81 12 = nI n := by rw [h2 81 (by omega)]; exact hG
    refine ⟨nI (x + 1), Z k (mu m2 84 (60 * j + x) (if x < n then nI (dg best (n - 1 - x)) else 0)), ⟨_, rfl, rfl, fun i hi hin => ?_, fun a ha => by rw [mu_ar _ _ _ ha]; exact h2 a ha, fun i hi => by rw [mu_j _ _ (by omega)]; exact h3 i hi⟩, fun rec => ?_⟩
    · by_cases hix : i = x
      · subst hix; rw [mu_s, if_pos hin]
      · rw [mu_j _ _ (by omega)]; exact h1 i (by omega) hin
    · unfold lb_X5_fair_205 jn_X5_fair_253
      rw [it_60 hx, ZA_5_6 s81, Option.bind_some, ZI_5_12 s81, Option.bind_some, hg]
      by_cases hxn : x < n
      · have h4p := pow45 (n := n - 1 - x) (by omega)
        rw [ifLt hxn (by omega), Option.bind_some, show nI n - 1 = nI (n - 1) from pk_sub (b := 1) (by omega), pk_sub (by omega), show dn_X5_powerOf 4 (nI (n - 1 - x)) (Z k m2) = _ from M_pow (b := 4) (by omega) (by omega), zbd_s, ef_0 (by omega) (by omega), if_neg (by decide), M_dg (by omega) (by omega), nM_60, nI_add, Ms_84 (by omega), Option.bind_some, nA_1, if_pos hxn]
      · rw [ifLf (by omega) (by omega), nM_60, nI_add, Ms_84 (by omega), Option.bind_some, nA_1, if_neg hxn]
  · rintro t h ⟨m2, rfl, rfl, h1, h2, h3⟩ rec
    refine ⟨m2, ?_, fun i hi => h1 i (by omega) hi, h2, h3⟩
    unfold lb_X5_fair_205 jn_X5_fair_260
    rw [if_neg (by decide)]
theorem x5_fair (r : Int32) : okM (dn_X5_fair 81 r) (g_fair r) := by
  intro s k m hO hM
  have hOH := hO.2.2.2.1.1
  have hN5 := hOH.2.1
  have hp := pow45 hN5
  have hG := hM.2.2.2.1
  unfold dn_X5_fair g_fair
  rw [ZO_5 s81, Option.bind_some, M_isRow, zbd_s]
  cases h : ix r 6 with
  | none => exact ⟨k, m, by rw [ifNo, ifb0], hM, zfM.rf⟩
  | some j =>
    dsimp only
    obtain ⟨rfl, hj⟩ := ix_s (by omega) h
    rw [ifSo, ifb1, ZI_5_12 s81, Option.bind_some, hG.1.2.1]
    by_cases h0 : hN (sH s) = 0
    · rw [et_0 h0, if_pos h0]
      exact ⟨k, m, rfl, hM, zfM.rf⟩
    · rw [ef_0 h0 (by omega), if_neg h0]
      refine lp_inv (N := 4 ^ hN (sH s)) (I := fun c t h => ∃ m2, t = (nI (faL s c).1, (if c = 0 then -1 else nI (faL s c).2), nI c) ∧ h = Z k m2 ∧ MS s k m2 ∧ zFw m m2) (Q := fun r => ∃ k' m', r = some (nI (faL s (4 ^ hN (sH s))).2, Z k' m') ∧ MS (sWs (stW (sW s) j (hN (sH s)) (fun i => nI (faH s (faL s (4 ^ hN (sH s))).1 i))) s) k' m' ∧ zfM k m k' m') ?_ ?_ (4 ^ hN (sH s)) 0 2000 _ _ (by omega) (by omega) ⟨m, rfl, rfl, hM, zFw.rf⟩
      · rintro c t h hc ⟨m2, rfl, rfl, h1, h2⟩
        left
        obtain ⟨l1, l2, l3⟩ := faL_le hO c
        have hg1 : m2 81 12 = nI (hN (sH s)) := h1.2.2.2.1.1.2.1
        obtain ⟨m3, r1, r2, r3, r4, r5⟩ := M_layWhole hO h1
        obtain ⟨m4, q1, q2, q3, q4, q5⟩ := M_fa46 (v1 := nI j) (v2 := nI (faL s c).1) (v3 := if c = 0 then -1 else nI (faL s c).2) hO r3 r4 r2 (show c < 1024 by omega)
        obtain ⟨m5, p1, p2, p3, p4, p5⟩ := M_endW hO q3 q4 q2 (okR_beg faH_le (stB_le hO))
        have p2' : encM 132 (sH s) (faE s c) m5 := p2
        have hok := faE_ok (code := c) hO
        have hap := apS_le hok
        have lh : lowL (faE s c) (hN (sH s)) ≤ hiL (faE s c) (hN (sH s)) := by
          obtain ⟨n, hn⟩ : ∃ n, hN (sH s) = n + 1 := ⟨hN (sH s) - 1, by omega⟩
          rw [hn]
          exact low_hi
        refine ⟨(nI (faL s (c + 1)).1, (if c + 1 = 0 then -1 else nI (faL s (c + 1)).2), nI (c + 1)), Z k m5, ⟨m5, rfl, rfl, p3, zFw.tr h2 (zFw.tr r5 (zFw.tr (zFw.wk q5) (zFw.wk p5)))⟩, fun rec => ?_⟩
        unfold lb_X5_fair_26
        dsimp only
        rw [ZI_5_12 s81, Option.bind_some, hg1, show dn_X5_powerOf 4 (nI (hN (sH s))) (Z k m2) = _ from M_pow (b := 4) (by omega) (by omega), zbd_s, ifLt hc (by omega), r1, zbd_s, q1]
        unfold jn_X5_fair_92
        rw [p1, zbd_s, M_fa106 hN5 hok p3.2.2.2.1.1 p4.2 p2', if_neg (show ¬ c + 1 = 0 by omega)]
        unfold jn_X5_fair_164 jn_X5_fair_177 jn_X5_fair_186
        rw [pk_sub lh, show nI (hiL (faE s c) (hN (sH s)) - lowL (faE s c) (hN (sH s))) = nI (apS (sH s) (faE s c)) from rfl, nA_1, faL]
        by_cases hc0 : c = 0
        · subst hc0
          rw [if_pos rfl, if_pos (by decide), show (faL s 0).2 = 61 from rfl, if_pos (show apS (sH s) (faE s 0) < 61 by omega)]
        · have l4 := l3 (by omega)
          rw [if_neg hc0, if_neg (nIn0 (by omega))]
          by_cases hlt : apS (sH s) (faE s c) < (faL s c).2
          · rw [ifLt hlt (by omega), if_pos hlt]
          · rw [ifLf (by omega) (by omega), if_neg hlt]
      · rintro t h ⟨m2, rfl, rfl, h1, h2⟩ rec
        obtain ⟨l1, l2, l3⟩ := faL_le hO (4 ^ hN (sH s))
        have l4 := l3 (by omega)
        have hg1 : m2 81 12 = nI (hN (sH s)) := h1.2.2.2.1.1.2.1
        obtain ⟨m3, w1, w2, w3, w4⟩ := M_fa205 (k := k) (m := mu m2 83 j (nI (hN (sH s)))) (v3 := nI (faL s (4 ^ hN (sH s))).2) (best := (faL s (4 ^ hN (sH s))).1) hN5 hj (by omega) (by rw [mu_a _ _ _ _ (by omega)]; exact hg1)
        refine ⟨k, m3, ?_, h1.w hN5 (zMQ.st hO.2.1 h1.2.1 hj (by rw [w3 83 (by omega), mu_s]) w2 (fun r' g1 g2 => by rw [w3 83 (by omega), mu_j _ _ g2]) (fun r' i g1 g2 g3 => by rw [w4 _ (by omega), mu_a _ _ _ _ (by omega)])) (fun a g1 g2 => by rw [w3 a g2, mu_ar _ _ _ g1]), zfM.tr h2.zfM (zfM.of fun a ha => by rw [w3 a (by omega), mu_ar _ _ _ (by omega)])⟩
        unfold lb_X5_fair_26 jn_X5_fair_192
        dsimp only
        rw [ZI_5_12 s81, Option.bind_some, hg1, show dn_X5_powerOf 4 (nI (hN (sH s))) (Z k m2) = _ from M_pow (b := 4) (by omega) (by omega), zbd_s, ifLf (Nat.le_refl _) (by omega), ZA_5_5 s81, Option.bind_some, ZI_5_12 s81, Option.bind_some, hg1, Ms_83 hj, Option.bind_some, if_neg (show ¬ 4 ^ hN (sH s) = 0 by omega), w1]
theorem o_fair (r : Int32) : okG (g_fair r) := by
  intro s hO
  have hN5 := hO.2.2.2.1.1.2.1
  unfold g_fair
  cases h : ix r 6 with
  | none => exact hO
  | some j =>
    dsimp only
    by_cases h0 : hN (sH s) = 0
    · rw [if_pos h0]; exact hO
    · rw [if_neg h0]; exact hO.w (stW_sz hO.2.1 (by omega))
end
