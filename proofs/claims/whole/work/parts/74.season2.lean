section
variable {k k' : zK} {m m' : Nat → Nat → Int32} {s : zSt} {c : Nat} {H : zHD} {R : zRS}
theorem lI_lot' {q : Nat} (hq : q < 2147483647) : (48271 * lI q) % 2147483647 = lI (q * 48271 % 2147483647) := by
  rw [Int64.mul_comm]
  exact lI_lot hq
theorem stW_1 {W : zWr} {j n : Nat} {f : Nat → Int32} : (stW W j n f).1 j = some n := if_pos rfl
theorem stW_2 {W : zWr} {j n : Nat} {f : Nat → Int32} : (stW W j n f).2 j = f := if_pos rfl
theorem zMQ_at {sa ca ln ct j n : Nat} {f : Nat → Int32} {W : zWr} (h : zMQ sa ca ln ct (stW W j n f) m) (hj : j < ct) : m sa j = nI n ∧ ∀ i, i < n → m ca (ln * j + i) = f i := by
  obtain ⟨h1, h2⟩ := h j hj
  refine ⟨by rw [h1, stW_1]; rfl, fun i hi => ?_⟩
  rw [h2 n stW_1 i hi, stW_2]
theorem M_se53 {v1 v2 : Int32} {j : Nat} (hj : j < 6) : ∃ m', lp_X5_season_53 81 v1 v2 (nI j) 0 (Z k m) = jn_X5_season_79 81 v1 v2 (nI j) (Z k m') ∧ (∀ i, i < 60 → m' 84 (60 * j + i) = 0) ∧ (∀ a, a ≠ 84 → m' a = m a) ∧ ∀ i, (i < 60 * j ∨ 60 * j + 60 ≤ i) → m' 84 i = m 84 i := by
  unfold lp_X5_season_53
  refine lp_inv (N := 60) (I := fun x t h => ∃ m2, t = nI x ∧ h = Z k m2 ∧ (∀ i, i < x → m2 84 (60 * j + i) = 0) ∧ (∀ a, a ≠ 84 → m2 a = m a) ∧ ∀ i, (i < 60 * j ∨ 60 * j + 60 ≤ i) → m2 84 i = m 84 i) (Q := fun r => ∃ m', r = jn_X5_season_79 81 v1 v2 (nI j) (Z k m') ∧ (∀ i, i < 60 → m' 84 (60 * j + i) = 0) ∧ (∀ a, a ≠ 84 → m' a = m a) ∧ ∀ i, (i < 60 * j ∨ 60 * j + 60 ≤ i) → m' 84 i = m 84 i) ?_ ?_ 60 0 2000 _ _ (by omega) (by omega) ⟨m, rfl, rfl, fun i hi => by omega, fun _ _ => rfl, fun _ _ => rfl⟩
  · rintro x t h hx ⟨m2, rfl, rfl, h1, h2, h3⟩
    left
    refine ⟨nI (x + 1), Z k (mu m2 84 (60 * j + x) 0), ⟨_, rfl, rfl, fun i hi => ?_, fun a ha => by rw [mu_ar _ _ _ ha]; exact h2 a ha, fun i hi => by rw [mu_j _ _ (by omega)]; exact h3 i hi⟩, fun rec => ?_⟩
    · by_cases hix : i = x
      · subst hix; rw [mu_s]
      · rw [mu_j _ _ (by omega)]; exact h1 i (by omega)
    · unfold lb_X5_season_53
      rw [it_60 hx, ZA_5_6 s81, Option.bind_some, nM_60, nI_add, Ms_84 (by omega), Option.bind_some, nA_1]
  · rintro t h ⟨m2, rfl, rfl, h1, h2, h3⟩ rec
    refine ⟨m2, ?_, h1, h2, h3⟩
    unfold lb_X5_season_53
    rw [if_neg (by decide)]
theorem M_se99 {v1 v3 v6 : Int32} {seed d : Nat} (hO : okS s) (hM : MS s k m) (hw : zWl m) (hE : encM 132 (sH s) (begS (sH s) (sD s) (sB s)) m) (hseed : seed < 2147483647) : ∃ m', (∀ kc, lp_X5_season_99 kc 81 v1 v3 v6 (lI (qs seed (d * hN (sH s))), 0) (Z k m) = jn_X5_season_160 kc 81 v1 v3 (lI (qs seed ((d + 1) * hN (sH s)))) v6 (Z k m')) ∧ encM 132 (sH s) (begS (sH s) (sD s) (seB s seed d)) m' ∧ MS s k m' ∧ zWl m' ∧ zFm 132 m m' := by
  have hOH := hO.2.2.2.1.1
  have hN5 := hOH.2.1
  unfold lp_X5_season_99
  refine lp_invK (f := fun kc => lb_X5_season_99 kc 81 v1 v3 v6) (N := hN (sH s)) (I := fun i t h => ∃ m2 R, t = (lI (qs seed (d * hN (sH s) + i)), nI i) ∧ h = Z k m2 ∧ MS s k m2 ∧ zWl m2 ∧ encM 132 (sH s) R m2 ∧ agS (sH s) (sD s) (seB s seed d) i R ∧ zFm 132 m m2) (P := fun r => ∃ m', (∀ kc, r kc = jn_X5_season_160 kc 81 v1 v3 (lI (qs seed ((d + 1) * hN (sH s)))) v6 (Z k m')) ∧ encM 132 (sH s) (begS (sH s) (sD s) (seB s seed d)) m' ∧ MS s k m' ∧ zWl m' ∧ zFm 132 m m') ?_ ?_ (hN (sH s)) 0 2000 _ _ (by omega) (by omega) ⟨m, _, rfl, rfl, hM, hw, hE, agS_0, zFm.rf⟩
  · rintro i t h hi ⟨m2, R, rfl, rfl, h1, h2, h3, h4, h5⟩
    have hG := h1.2.2.2.1
    obtain ⟨b1, b2, b3⟩ := hO.2.2.2.2.1 i hi
    have hq := qs_lt hseed (d * hN (sH s) + i)
    have hq1 := qs_lt hseed (d * hN (sH s) + i + 1)
    obtain ⟨m3, r1, r2, r3, r4, r5⟩ := M_startsW (b := seB s seed d i) (h := sD s i) hO h1 h2 h3 hi (by omega)
    refine ⟨(lI (qs seed (d * hN (sH s) + (i + 1))), nI (i + 1)), Z k m3, ⟨m3, _, rfl, rfl, r3, r4, r2, agS_st h4 rfl rfl, zFm.tr h5 r5⟩, fun kc rec => ?_⟩
    unfold lb_X5_season_99
    dsimp only
    rw [ZI_5_12 s81, Option.bind_some, hG.1.2.1, ifLt hi (by omega), if_neg (by decide), ZA_5_14 s81, Option.bind_some, Ml_90 (by omega), Option.bind_some, (hG.2 i hi).1, if_neg (by decide), lI_lot' hq, show qs seed (d * hN (sH s) + i) * 48271 % 2147483647 = qs seed (d * hN (sH s) + i + 1) from rfl, lI_lot3 hq1, M_byLot b1 b2 (by omega), zbd_s, ZA_5_15 s81, Option.bind_some, Ml_91 (by omega), Option.bind_some, (hG.2 i hi).2, show nI (btS (sB s i) (qs seed (d * hN (sH s) + i + 1) % 3)) = nI (seB s seed d i) from rfl, r1, zbd_s, nA_1]
    rfl
  · rintro t h ⟨m2, R, rfl, rfl, h1, h2, h3, h4, h5⟩ rec
    refine ⟨m2, fun kc => ?_, agS_end h4 h3, h1, h2, h5⟩
    unfold lb_X5_season_99
    dsimp only
    rw [ZI_5_12 s81, Option.bind_some, h1.2.2.2.1.1.2.1, ifLf (Nat.le_refl _) (by omega), Nat.succ_mul]
theorem x5_season (n seed r : Int32) : okM (dn_X5_season 81 n seed r) (g_season n seed r) := by
  intro s k m hO hM
  have hOH := hO.2.2.2.1.1
  have hN5 := hOH.2.1
  have hG := hM.2.2.2.1
  unfold dn_X5_season g_season jn_X5_season_28
  rw [ZO_5 s81, Option.bind_some, show dn_X5_in n 1 40 (Z k m) = _ from M_ir n 1 40 (by omega) (by omega) _, zbd_s]
  rcases ir_c n 1 40 (by omega) (by omega) with ⟨n, n1, n2, rfl, e1⟩ | ⟨e1, -⟩
  · rw [e1, ifSo, ifb1, show dn_X5_in seed 1 2147483646 (Z k m) = _ from M_ir seed 1 2147483646 (by omega) (by omega) _, zbd_s]
    dsimp only
    rcases ir_c seed 1 2147483646 (by omega) (by omega) with ⟨seed, p1, p2, rfl, e2⟩ | ⟨e2, -⟩
    · rw [e2, ifSo, ifb1, M_isRow, zbd_s]
      dsimp only
      cases h : ix r 6 with
      | none => exact ⟨k, m, by rw [ifNo, ifb0], hM, zfM.rf⟩
      | some j =>
        dsimp only
        obtain ⟨rfl, hj⟩ := ix_s (by omega) h
        rw [ifSo, ifb1, ZI_5_12 s81, Option.bind_some, hG.1.2.1]
        by_cases hz : hN (sH s) = 0
        · rw [et_0 hz, if_pos hz]
          exact ⟨k, m, rfl, hM, zfM.rf⟩
        · rw [ef_0 hz (by omega), if_neg hz]
          obtain ⟨m1, f1, f2, f3, f4⟩ := M_se53 (k := k) (m := mu m 83 j (nI (hN (sH s)))) (v1 := nI n) (v2 := nI seed) hj
          have hM1 : MS (sWs (stW (sW s) j (hN (sH s)) (fun i => nI (spN s seed 0 i))) s) k m1 := hM.w hN5 (zMQ.st hO.2.1 hM.2.1 hj (by rw [f3 83 (by omega), mu_s]) (fun i hi => f2 i (by omega)) (fun r' g1 g2 => by rw [f3 83 (by omega), mu_j _ _ g2]) (fun r' i g1 g2 g3 => by rw [f4 _ (by omega), mu_a _ _ _ _ (by omega)])) (fun a g1 g2 => by rw [f3 a g2, mu_ar _ _ _ g1])
          have hF1 : zfM k m k m1 := zfM.of fun a ha => by rw [f3 a (by omega), mu_ar _ _ _ (by omega)]
          rw [ZA_5_5 s81, Option.bind_some, Option.bind_some, Ms_83 hj, Option.bind_some, f1]
          have hcl := fun d i => cnt_le (P := fun e => rHd (seE s seed e) = i) d
          have hOd : ∀ f, okS (sWs (stW (sW s) j (hN (sH s)) f) s) := fun f => hO.w (stW_sz hO.2.1 (by omega))
          refine lp_inv (N := n) (I := fun d t h => ∃ m2, t = (lI (qs seed (d * hN (sH s))), nI d) ∧ h = Z k m2 ∧ MS (sWs (stW (sW s) j (hN (sH s)) (fun i => nI (spN s seed d i))) s) k m2 ∧ zfM k m k m2) (Q := fun r => ∃ k' m', r = some (nI (moL (spN s seed n) (hN (sH s) - 1)), Z k' m') ∧ MS (sWs (stW (sW s) j (hN (sH s)) (fun i => nI (spN s seed n i))) s) k' m' ∧ zfM k m k' m') ?_ ?_ n 0 2000 _ _ (by omega) (by omega) ⟨m1, by rw [Nat.zero_mul]; rfl, rfl, hM1, hF1⟩
          · rintro d t h hd ⟨m2, rfl, rfl, h1, h2⟩
            left
            obtain ⟨m3, r1, r2, r3, r4, r5⟩ := M_layWhole (hOd _) h1
            obtain ⟨m4, q1, q2, q3, q4, q5⟩ := M_se99 (v1 := nI n) (v3 := nI j) (v6 := nI d) (seed := seed) (d := d) (hOd _) r3 r4 r2 (by omega)
            obtain ⟨m5, p1, p2, p3, p4, p5⟩ := M_endW (hOd _) q3 q4 q2 (okR_beg (stD9 (hOd _)) (seB_le (hOd _)))
            have p2' : encM 132 (sH s) (seE s seed d) m5 := p2
            have q1' : ∀ kc, lp_X5_season_99 kc 81 (nI n) (nI j) (nI d) (lI (qs seed (d * hN (sH s))), 0) (Z k m3) = jn_X5_season_160 kc 81 (nI n) (nI j) (lI (qs seed ((d + 1) * hN (sH s)))) (nI d) (Z k m4) := q1
            have hh : rHd (seE s seed d) < hN (sH s) := hd_lt (x := 0) (by omega) (seE_ok hO)
            obtain ⟨w1, w2⟩ := zMQ_at p3.2.1 hj
            have hv := w2 _ hh
            have h90 := hcl d (rHd (seE s seed d))
            have hMn := MS.w (s := sWs (stW (sW s) j (hN (sH s)) (fun i => nI (spN s seed d i))) s) hN5 p3 (zMQ.st (hOd _).2.1 p3.2.1 hj (n := hN (sH s)) (f := fun i => nI (spN s seed (d + 1) i)) (m' := mu m5 84 (60 * j + rHd (seE s seed d)) (nI (spN s seed d (rHd (seE s seed d)) + 1))) (by rw [mu_a _ _ _ _ (by omega)]; exact w1) (fun i hi => by
              unfold spN
              by_cases hih : i = rHd (seE s seed d)
              · subst hih
                rw [mu_s, cnt_t (P := fun e => rHd (seE s seed e) = rHd (seE s seed d)) rfl]
              · rw [mu_j _ _ (by omega), cnt_f (P := fun e => rHd (seE s seed e) = i) (fun z => hih z.symm)]
                exact w2 i hi) (fun r' g1 g2 => by rw [mu_a _ _ _ _ (by omega)]) (fun r' i g1 g2 g3 => by rw [mu_j _ _ (by omega)])) (fun a g1 g2 => mu_ar _ _ _ g2)
            have hMn' : MS (sWs (stW (sW s) j (hN (sH s)) (fun i => nI (spN s seed (d + 1) i))) s) k (mu m5 84 (60 * j + rHd (seE s seed d)) (nI (spN s seed d (rHd (seE s seed d)) + 1))) := by
              rw [← stW_stW (sW s) j (hN (sH s)) (hN (sH s)) (fun i => nI (spN s seed d i))]
              exact hMn
            refine ⟨(lI (qs seed ((d + 1) * hN (sH s))), nI (d + 1)), Z k (mu m5 84 (60 * j + rHd (seE s seed d)) (nI (spN s seed d (rHd (seE s seed d)) + 1))), ⟨_, rfl, rfl, hMn', zfM.tr h2 (zfM.tr (zFw.tr r5 (zFw.tr (zFw.wk q5) (zFw.wk p5))).zfM (zfM.of fun a ha => mu_ar _ _ _ (by omega)))⟩, fun rec => ?_⟩
            unfold lb_X5_season_86
            dsimp only
            rw [ifLt hd (by omega), r1, zbd_s, q1']
            unfold jn_X5_season_160
            rw [p1, zbd_s, ZA_5_6 s81, Option.bind_some, M_v1 p4.2 (by omega), zbd_s, p2'.2.2.1, nM_60, nI_add, Ml_84 (by omega), Option.bind_some, hv, nA_1, Ms_84 (by omega), Option.bind_some, nA_1]
          · rintro t h ⟨m2, rfl, rfl, h1, h2⟩ rec
            refine ⟨k, m2, ?_, h1, h2⟩
            obtain ⟨w1, w2⟩ := zMQ_at h1.2.1 hj
            have hG2 := h1.2.2.2.1
            have hg2 : m2 81 12 = nI (hN (sH s)) := hG2.1.2.1
            unfold lb_X5_season_86 jn_X5_season_189 lp_X5_season_195
            dsimp only
            rw [ifLf (Nat.le_refl _) (by omega)]
            refine lp_fn (N := hN (sH s) - 1) (fun x => (nI (moL (spN s seed n) x), nI (x + 1))) (fun _ => Z k m2) (fun x hx rec => ?_) (fun rec => ?_) (by omega)
            · have hl := moL_le (spN s seed n) x
              have c1 := hcl n (x + 1)
              have c2 := hcl n (moL (spN s seed n) x)
              have c1' : spN s seed n (x + 1) ≤ n := c1
              have c2' : spN s seed n (moL (spN s seed n) x) ≤ n := c2
              unfold lb_X5_season_195 jn_X5_season_228
              dsimp only
              rw [ZI_5_12 s81, Option.bind_some, hg2, ifLt (by omega) (by omega), M_rowAt hj (by omega), zbd_s, M_rowAt hj (by omega), zbd_s, w2 _ (by omega), w2 _ (by omega), nA_1, moL]
              by_cases hlt : spN s seed n (moL (spN s seed n) x) < spN s seed n (x + 1)
              · rw [ifLt hlt (by omega), if_pos hlt]
              · rw [ifLf (by omega) (by omega), if_neg hlt]
            · unfold lb_X5_season_195 jn_X5_season_236
              dsimp only
              rw [ZI_5_12 s81, Option.bind_some, hg2, ifLf (by omega) (by omega)]
    · rw [e2]
      exact ⟨k, m, by rw [ifNo, ifb0], hM, zfM.rf⟩
  · rw [e1]
    exact ⟨k, m, by rw [ifNo, ifb0], hM, zfM.rf⟩
theorem o_season (n seed r : Int32) : okG (g_season n seed r) := by
  intro s hO
  have hN5 := hO.2.2.2.1.1.2.1
  unfold g_season
  cases h1 : ir n 1 40 with
  | none => exact hO
  | some n =>
    dsimp only
    cases h2 : ir seed 1 2147483646 with
    | none => exact hO
    | some seed =>
      dsimp only
      cases h : ix r 6 with
      | none => exact hO
      | some j =>
        dsimp only
        by_cases h0 : hN (sH s) = 0
        · rw [if_pos h0]; exact hO
        · rw [if_neg h0]; exact hO.w (stW_sz hO.2.1 (by omega))
end
