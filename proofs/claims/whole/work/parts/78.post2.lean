section
variable {k k' : zK} {m m' : Nat → Nat → Int32} {s : zSt} {c : Nat} {H : zHD} {R : zRS}
/-- only the row j and the race that is tried have changed -/
def zFp (j : Nat) (m m' : Nat → Nat → Int32) : Prop := (∀ a, a ≠ 84 → a ≠ 100 → m' a = m a) ∧ (∀ i, (i < 60 * j ∨ 60 * j + 60 ≤ i) → m' 84 i = m 84 i) ∧ ∀ i, i < 132 → m' 100 i = m 100 i
theorem zFp.rf {j : Nat} : zFp j m m := ⟨fun _ _ _ => rfl, fun _ _ => rfl, fun _ _ => rfl⟩
theorem zFp.tr {j : Nat} {m2 : Nat → Nat → Int32} (h1 : zFp j m m') (h2 : zFp j m' m2) : zFp j m m2 := ⟨fun a g1 g2 => (h2.1 a g1 g2).trans (h1.1 a g1 g2), fun i hi => (h2.2.1 i hi).trans (h1.2.1 i hi), fun i hi => (h2.2.2 i hi).trans (h1.2.2 i hi)⟩
theorem zFp.fm {j : Nat} (h : zFm 132 m m') : zFp j m m' := ⟨fun a _ g => h.1 a g, fun i _ => by rw [h.1 84 (by omega)], fun i hi => h.2 i (by omega)⟩
theorem M_po55 {v1 v3 v4 : Int32} {j : Nat} (hj : j < 6) : ∃ m', lp_X5_post_55 81 v1 (nI j) v3 v4 0 (Z k m) = jn_X5_post_81 81 v1 (nI j) v3 v4 (Z k m') ∧ (∀ a, a ≠ 84 → m' a = m a) ∧ ∀ i, (i < 60 * j ∨ 60 * j + 60 ≤ i) → m' 84 i = m 84 i := by
  unfold lp_X5_post_55
  refine lp_inv (N := 60) (I := fun x t h => ∃ m2, t = nI x ∧ h = Z k m2 ∧ (∀ a, a ≠ 84 → m2 a = m a) ∧ ∀ i, (i < 60 * j ∨ 60 * j + 60 ≤ i) → m2 84 i = m 84 i) (Q := fun r => ∃ m', r = jn_X5_post_81 81 v1 (nI j) v3 v4 (Z k m') ∧ (∀ a, a ≠ 84 → m' a = m a) ∧ ∀ i, (i < 60 * j ∨ 60 * j + 60 ≤ i) → m' 84 i = m 84 i) ?_ ?_ 60 0 2000 _ _ (by omega) (by omega) ⟨m, rfl, rfl, fun _ _ => rfl, fun _ _ => rfl⟩
  · rintro x t h hx ⟨m2, rfl, rfl, h2, h3⟩
    left
    refine ⟨nI (x + 1), Z k (mu m2 84 (60 * j + x) 0), ⟨_, rfl, rfl, fun a ha => by rw [mu_ar _ _ _ ha]; exact h2 a ha, fun i hi => by rw [mu_j _ _ (by omega)]; exact h3 i hi⟩, fun rec => ?_⟩
    unfold lb_X5_post_55
    rw [it_60 hx, ZA_5_6 s81, Option.bind_some, nM_60, nI_add, Ms_84 (by omega), Option.bind_some, nA_1]
  · rintro t h ⟨m2, rfl, rfl, h2, h3⟩ rec
    refine ⟨m2, ?_, h2, h3⟩
    unfold lb_X5_post_55
    rw [if_neg (by decide)]
theorem M_note {j y : Nat} {v5 : Int32} {t : zT3} (hN5 : hN H ≤ 5) (hj : j < 6) (hG : encG H m) (hb : m 81 29 = nI 132) (hE : encM 132 H R m) (hok : okR H R) (hy : y ≤ 40) (ht : okT t) (hr : ∀ i, i < t.2.1 → m 84 (60 * j + i) = t.2.2 i) : ∃ m', (∀ kc, lp_X5_post_94 kc 81 (nI y) (nI j) v5 (nI t.1, nI t.2.1, 0) (Z k m) = jn_X5_post_154 kc 81 (nI y) (nI j) (nI (ntL R y (hN H) t).1) (nI (ntL R y (hN H) t).2.1) v5 (Z k m')) ∧ (∀ i, i < (ntL R y (hN H) t).2.1 → m' 84 (60 * j + i) = (ntL R y (hN H) t).2.2 i) ∧ (∀ a, a ≠ 84 → m' a = m a) ∧ ∀ i, (i < 60 * j ∨ 60 * j + 60 ≤ i) → m' 84 i = m 84 i := by
  unfold lp_X5_post_94
  refine lp_invK (f := fun kc => lb_X5_post_94 kc 81 (nI y) (nI j) v5) (N := hN H) (I := fun x u h => ∃ m2, u = (nI (ntL R y x t).1, nI (ntL R y x t).2.1, nI x) ∧ h = Z k m2 ∧ (∀ i, i < (ntL R y x t).2.1 → m2 84 (60 * j + i) = (ntL R y x t).2.2 i) ∧ (∀ a, a ≠ 84 → m2 a = m a) ∧ ∀ i, (i < 60 * j ∨ 60 * j + 60 ≤ i) → m2 84 i = m 84 i) (P := fun r => ∃ m', (∀ kc, r kc = jn_X5_post_154 kc 81 (nI y) (nI j) (nI (ntL R y (hN H) t).1) (nI (ntL R y (hN H) t).2.1) v5 (Z k m')) ∧ (∀ i, i < (ntL R y (hN H) t).2.1 → m' 84 (60 * j + i) = (ntL R y (hN H) t).2.2 i) ∧ (∀ a, a ≠ 84 → m' a = m a) ∧ ∀ i, (i < 60 * j ∨ 60 * j + 60 ≤ i) → m' 84 i = m 84 i) ?_ ?_ (hN H) 0 2000 _ _ (by omega) (by omega) ⟨m, rfl, rfl, hr, fun _ _ => rfl, fun _ _ => rfl⟩
  · rintro x u h hx ⟨m2, rfl, rfl, h1, h2, h3⟩
    have hk := okT_ntL (R := R) (y := y) ht x (by omega)
    have b4 := (bt_or _ hk.1 x (by omega)).1
    have hz := okT_5 hk
    have hg : m2 81 12 = nI (hN H) := by rw [h2 81 (by omega)]; exact hG.2.1
    have hb2 : m2 81 29 = nI 132 := by rw [h2 81 (by omega)]; exact hb
    have hyx := (hok.2.2 x hx).2.2.1
    have hyd : m2 100 (132 + (3 + x)) = nI (rYd R x) := by rw [h2 100 (by omega)]; exact (hE.2.2.2.2 x hx).1
    have hgo : ∀ kc rec, lb_X5_post_94 kc 81 (nI y) (nI j) v5 rec (nI (ntL R y x t).1, nI (ntL R y x t).2.1, nI x) (Z k m2) = if (if (ntL R y x t).1.testBit x then (1 : Int32) else 0) = 0 then (if nI (rYd R x) < nI y then rec (nI (ntL R y x t).1, nI (ntL R y x t).2.1, nI (x + 1)) (Z k m2) else rec (nI ((ntL R y x t).1 ||| 2 ^ x), nI ((ntL R y x t).2.1 + 1), nI (x + 1)) (Z k (mu m2 84 (60 * j + (ntL R y x t).2.1) (nI x)))) else rec (nI (ntL R y x t).1, nI (ntL R y x t).2.1, nI (x + 1)) (Z k m2) := by
      intro kc rec
      unfold lb_X5_post_94 jn_X5_post_148
      dsimp only
      rw [ZI_5_12 s81, Option.bind_some, hg, ifLt hx (by omega), M_has hk.1 (by omega), zbd_s, nB_3, M_v hb2 (by omega), zbd_s, hyd, ZA_5_6 s81, Option.bind_some, nM_60, nI_add, Ms_84 (by omega), Option.bind_some, nA_1, nA_1, b4]
    by_cases hc : (ntL R y x t).1.testBit x = false ∧ y ≤ rYd R x
    · have e : ntL R y (x + 1) t = ((ntL R y x t).1 ||| 2 ^ x, (ntL R y x t).2.1 + 1, va_up (ntL R y x t).2.2 (ntL R y x t).2.1 (nI x)) := if_pos hc
      refine ⟨(nI (ntL R y (x + 1) t).1, nI (ntL R y (x + 1) t).2.1, nI (x + 1)), Z k (mu m2 84 (60 * j + (ntL R y x t).2.1) (nI x)), ⟨_, rfl, rfl, ?_, fun a ha => by rw [mu_ar _ _ _ ha]; exact h2 a ha, fun i hi => by rw [mu_j _ _ (by omega)]; exact h3 i hi⟩, fun kc rec => ?_⟩
      · rw [e]
        intro i hi
        have hi' : i < (ntL R y x t).2.1 + 1 := hi
        show _ = va_up (ntL R y x t).2.2 (ntL R y x t).2.1 (nI x) i
        by_cases hiz : i = (ntL R y x t).2.1
        · rw [hiz, mu_s]; simp [va_up]
        · rw [mu_j _ _ (by omega), h1 i (by omega)]; simp [va_up, hiz]
      · show lb_X5_post_94 kc 81 (nI y) (nI j) v5 rec _ _ = _
        rw [hgo, hc.1, if_neg (show ¬ false = true by decide), ifb0, ifLf hc.2 (by omega), e]
    · have e : ntL R y (x + 1) t = ntL R y x t := if_neg hc
      refine ⟨(nI (ntL R y (x + 1) t).1, nI (ntL R y (x + 1) t).2.1, nI (x + 1)), Z k m2, ⟨m2, rfl, rfl, by rw [e]; exact h1, h2, h3⟩, fun kc rec => ?_⟩
      show lb_X5_post_94 kc 81 (nI y) (nI j) v5 rec _ _ = _
      rw [hgo, e]
      cases hb : (ntL R y x t).1.testBit x
      · have hlt : rYd R x < y := Nat.not_le.mp fun z => hc ⟨hb, z⟩
        rw [if_neg (show ¬ false = true by decide), ifb0, ifLt hlt (by omega)]
      · rw [if_pos rfl, ifb1]
  · rintro u h ⟨m2, rfl, rfl, h1, h2, h3⟩ rec
    have hg : m2 81 12 = nI (hN H) := by rw [h2 81 (by omega)]; exact hG.2.1
    refine ⟨m2, fun kc => ?_, h1, h2, h3⟩
    unfold lb_X5_post_94
    dsimp only
    rw [ZI_5_12 s81, Option.bind_some, hg, ifLf (Nat.le_refl _) (by omega)]
theorem x5_post (y r : Int32) : okM (dn_X5_post 81 y r) (g_post y r) := by
  intro s k m hO hM
  have hOH := hO.2.2.2.1.1
  have hN5 := hOH.2.1
  have h40 := hOH.1
  have hG := hM.2.2.2.1
  unfold dn_X5_post g_post jn_X5_post_17
  rw [ZO_5 s81, Option.bind_some, show dn_X5_in y 1 40 (Z k m) = _ from M_ir y 1 40 (by omega) (by omega) _, zbd_s]
  rcases ir_c y 1 40 (by omega) (by omega) with ⟨y, y1, y2, rfl, e1⟩ | ⟨e1, -⟩
  · rw [e1, ifSo, ifb1, M_isRow, zbd_s]
    dsimp only
    cases h : ix r 6 with
    | none => exact ⟨k, m, by rw [ifNo, ifb0], hM, zfM.rf⟩
    | some j =>
      dsimp only
      obtain ⟨rfl, hj⟩ := ix_s (by omega) h
      rw [ifSo, ifb1, ZI_5_10 s81, Option.bind_some, hG.1.1]
      by_cases hz : hY (sH s) = 0
      · rw [et_0 hz, if_pos hz]
        exact ⟨k, m, rfl, hM, zfM.rf⟩
      · rw [ef_0 hz (by omega), if_neg hz, Option.bind_some]
        by_cases hyy : hY (sH s) < y
        · obtain ⟨m', f1, f2, f3⟩ := M2 hN5 hM
          rw [ifLt hyy (by omega), if_pos hyy]
          exact ⟨k, m', by rw [f1, zbd_s], f2, f3⟩
        · rw [ifLf (by omega) (by omega), if_neg hyy]
          obtain ⟨m3, r1, r2, r3, r4, r5⟩ := M_layWhole hO hM
          obtain ⟨m4, u1, u2, u3⟩ := M_po55 (k := k) (m := m3) (v1 := nI y) (v3 := 0) (v4 := 0) hj
          have hG3 := r3.2.2.2.1.1
          rw [r1, zbd_s, u1]
          have hP4 : zFp j m3 m4 := ⟨fun a g1 g2 => u2 a g1, u3, fun i _ => by rw [u2 100 (by omega)]⟩
          refine lp_inv (N := 61) (I := fun c u h => ∃ m5, u = (nI (pT s y c).1, nI (pT s y c).2.1, nI c) ∧ h = Z k m5 ∧ encM 132 (sH s) (rnS s c) m5 ∧ (∀ i, i < (pT s y c).2.1 → m5 84 (60 * j + i) = (pT s y c).2.2 i) ∧ zFp j m3 m5) (Q := fun r => ∃ k' m', r = some (nI (pT s y 61).2.1, Z k' m') ∧ MS (sWs (stW (sW s) j (pT s y 61).2.1 (pT s y 61).2.2) s) k' m' ∧ zfM k m k' m') ?_ ?_ 61 0 2000 _ _ (by omega) (by omega) ⟨m4, rfl, rfl, encM_fr hN5 r2 fun i _ _ => by rw [u2 100 (by omega)], fun i hi => absurd hi (Nat.not_lt_zero i), hP4⟩
          · rintro c u h hc ⟨m5, rfl, rfl, h1, h2, h3⟩
            left
            have hok := rnS_ok hO c
            have hG5 : encG (sH s) m5 := encG_cg hG3 ⟨by rw [h3.1 81 (by omega) (by omega)], by rw [h3.1 81 (by omega) (by omega)]⟩ fun a g1 g2 => h3.1 a (by omega) (by omega)
            have hb5 : m5 81 29 = nI 132 := by rw [h3.1 81 (by omega) (by omega)]; exact r4.2
            obtain ⟨m6, q1, q2, q3, q4⟩ := M_note (k := k) (v5 := nI c) hN5 hj hG5 hb5 h1 hok (by omega) (pT_ok hN5 c) h2
            have hP6 : zFp j m5 m6 := ⟨fun a g1 g2 => q3 a g1, q4, fun i _ => by rw [q3 100 (by omega)]⟩
            have hP36 := h3.tr hP6
            have hG6 : encG (sH s) m6 := encG_cg hG3 ⟨by rw [hP36.1 81 (by omega) (by omega)], by rw [hP36.1 81 (by omega) (by omega)]⟩ fun a g1 g2 => hP36.1 a (by omega) (by omega)
            have hb6 : m6 81 29 = nI 132 := by rw [hP36.1 81 (by omega) (by omega)]; exact r4.2
            have hE6 : encM 132 (sH s) (rnS s c) m6 := encM_fr hN5 h1 fun i _ _ => by rw [q3 100 (by omega)]
            have hq1 : ∀ rec, lb_X5_post_84 81 (nI y) (nI j) rec (nI (pT s y c).1, nI (pT s y c).2.1, nI c) (Z k m5) = jn_X5_post_154 rec 81 (nI y) (nI j) (nI (pT s y (c + 1)).1) (nI (pT s y (c + 1)).2.1) (nI c) (Z k m6) := by
              intro rec
              unfold lb_X5_post_84
              dsimp only
              rw [jf_60 (by omega), q1]
              rfl
            have hov := M_isEnd (k := k) hN5 hok hG6 hb6 hE6
            by_cases ho : ovS (sH s) (rnS s c)
            · refine ⟨(nI (pT s y (c + 1)).1, nI (pT s y (c + 1)).2.1, nI (c + 1)), Z k m6, ⟨m6, rfl, rfl, by rw [rnS_o ho]; exact hE6, q2, hP36⟩, fun rec => ?_⟩
              rw [hq1]
              unfold jn_X5_post_154 jn_X5_post_165
              rw [hov.1 ho, zbd_s, ifb1, nA_1]
            · have h101 : ∀ i, i < 5 → m6 101 i = 0 := fun i hi => by rw [hP36.1 101 (by omega) (by omega)]; exact r4.1 i hi
              have h18 : m6 81 18 = nI (sLw s) := by rw [hP36.1 81 (by omega) (by omega)]; exact r3.1.1
              obtain ⟨m7, p1, p2, p3⟩ := M_step (k := k) (q := 132) (wf := plW (sH s) (rSt (rnS s c))) hOH hok hO.1 hG6 ⟨hb6, h18⟩ (wfM_pl hN5 h101) hE6
              refine ⟨(nI (pT s y (c + 1)).1, nI (pT s y (c + 1)).2.1, nI (c + 1)), Z k m7, ⟨m7, rfl, rfl, by rw [rnS_n ho]; exact p2, fun i hi => by rw [p3.1 84 (by omega)]; exact q2 i hi, hP36.tr (zFp.fm p3)⟩, fun rec => ?_⟩
              rw [hq1]
              unfold jn_X5_post_154 jn_X5_post_165
              rw [hov.2 ho, zbd_s, ifb0, p1, zbd_s, nA_1]
          · rintro u h ⟨m5, rfl, rfl, h1, h2, h3⟩ rec
            have hz5 := okT_5 (pT_ok (s := s) (y := y) hN5 61)
            have hFw : zFw m3 (fun a => if a = 100 then m5 100 else m3 a) := ⟨fun a _ _ g _ _ _ _ => if_neg g, fun f _ => rfl, fun i hi => h3.2.2 i hi⟩
            have hMA := r3.sc hN5 hFw
            have hA : ∀ a, a ≠ 84 → m5 a = (fun a => if a = 100 then m5 100 else m3 a) a := fun a ha => by
              by_cases h100 : a = 100
              · subst h100; rfl
              · dsimp only
                rw [if_neg h100]
                exact h3.1 a ha h100
            refine ⟨k, mu m5 83 j (nI (pT s y 61).2.1), ?_, hMA.w hN5 (zMQ.st hO.2.1 hMA.2.1 hj (mu_s _ _ _ _) (fun i hi => by rw [mu_a _ _ _ _ (by omega)]; exact h2 i hi) (fun r' g1 g2 => by rw [mu_j _ _ g2, hA 83 (by omega)]) (fun r' i g1 g2 g3 => by rw [mu_a _ _ _ _ (by omega)]; exact h3.2.1 _ (by omega))) (fun a g1 g2 => by rw [mu_ar _ _ _ g1, hA a g2]), zfM.tr r5.zfM (zfM.of fun a ha => by rw [mu_ar _ _ _ (by omega)]; exact h3.1 a (by omega) (by omega))⟩
            unfold lb_X5_post_84 jn_X5_post_171
            dsimp only
            rw [if_pos (by decide), ZA_5_5 s81, Option.bind_some, Ms_83 hj, Option.bind_some]
  · rw [e1]
    exact ⟨k, m, by rw [ifNo, ifb0], hM, zfM.rf⟩
theorem o_post (y r : Int32) : okG (g_post y r) := by
  intro s hO
  have hN5 := hO.2.2.2.1.1.2.1
  unfold g_post
  cases h1 : ir y 1 40 with
  | none => exact hO
  | some y =>
    dsimp only
    cases h : ix r 6 with
    | none => exact hO
    | some j =>
      dsimp only
      have hz5 := okT_5 (pT_ok (s := s) (y := y) hN5 61)
      by_cases h0 : hY (sH s) = 0
      · rw [if_pos h0]; exact hO
      · rw [if_neg h0]
        by_cases h2 : hY (sH s) < y
        · rw [if_pos h2]; exact hO
        · rw [if_neg h2]; exact hO.w (stW_sz hO.2.1 (by omega))
end
