section
variable {k k' : zK} {m m' : Nat → Nat → Int32} {s : zSt} {c : Nat} {H : zHD} {R : zRS}
noncomputable def frL (H : zHD) (E : zRS) : Nat → Nat
  | 0 => 0
  | n + 1 => if rkS H E n = 1 then n else frL H E n
noncomputable def g_ranks (r : Int32) (s : zSt) : Int32 × zSt := match ix r 6 with
  | none => (-1, s)
  | some j => if hN (sH s) = 0 then (-4, s) else (nI (frL (sH s) (enS (sH s) (sLw s) (sR s)) (hN (sH s))), sWs (stW (sW s) j (hN (sH s)) (fun x => nI (rkS (sH s) (enS (sH s) (sLw s) (sR s)) x))) s)
theorem rkS_le {x : Nat} (hN5 : hN H ≤ 5) : 1 ≤ rkS H R x ∧ rkS H R x ≤ 6 := by
  have := rkL_le (R := R) (x := x) (hN H)
  unfold rkS
  omega
theorem X_rk51 {j : Nat} {E : zRS} {m0 : Nat → Nat → Int32} (hN5 : hN H ≤ 5) (hok : okR H E) (hj : j < 6) (hkc : (kC k = 5 ∧ kD k = 12) ∨ (kC k = 12 ∧ kD k = 5)) (hH : encH (kC k) H m0) (hE : encX 26 H E m0) : ∃ m', zlp (lb_X4_ranks_51 2 (nI j)) 2000 (0, 0) (Z k m0) = some (nI (frL H E (hN H)), Z k m') ∧ (∀ i, i < hN H → m' (40 + 2 * j + 1) i = nI (rkS H E i)) ∧ ∀ a, a ≠ 40 + 2 * j + 1 → m' a = m0 a := by
  refine lp_inv (N := hN H) (I := fun x s h => ∃ m, s = (nI (frL H E x), nI x) ∧ h = Z k m ∧ (∀ i, i < x → m (40 + 2 * j + 1) i = nI (rkS H E i)) ∧ ∀ a, a ≠ 40 + 2 * j + 1 → m a = m0 a) (Q := fun r => ∃ m', r = some (nI (frL H E (hN H)), Z k m') ∧ (∀ i, i < hN H → m' (40 + 2 * j + 1) i = nI (rkS H E i)) ∧ ∀ a, a ≠ 40 + 2 * j + 1 → m' a = m0 a) ?_ ?_ (hN H) 0 2000 (0, 0) (Z k m0) (by omega) (by omega) ⟨m0, rfl, rfl, fun i hi => by omega, fun _ _ => rfl⟩
  · rintro x s h hx ⟨m, rfl, rfl, h1, h2⟩
    left
    have hs := RW_s rwP_r hj
    have hr := rkS_le (R := E) (x := x) hN5
    have hHm : encH (kC k) H m := encH_cg hH fun a h1 h2' => h2 a (by omega)
    have hEm : encX 26 H E m := encX_cg hE fun a h1 h2' => h2 a (by omega)
    refine ⟨(nI (frL H E (x + 1)), nI (x + 1)), Z k (mu m (40 + 2 * j + 1) x (nI (rkS H E x))), ⟨_, rfl, rfl, fun i hi => ?_, fun a ha => by rw [mu_ar _ _ _ ha, h2 a ha]⟩, fun rec => ?_⟩
    · by_cases hix : i = x
      · subst hix; rw [mu_s]
      · rw [mu_j _ _ hix]; exact h1 i (by omega)
    · unfold lb_X4_ranks_51 jn_X4_ranks_93
      dsimp only
      rw [ZA_4_2 s2, Option.bind_some, ZI_0_2 hHm.1, Option.bind_some, hHm.2.2.1, ifLt hx (by omega), ZA_4_5 s2, Option.bind_some, X_rankOf hN5 hEm hok hx, zbd_s, ZA_4_0 s2, Option.bind_some, RW_r rwP_r hj, Option.bind_some, ZA_3_0 hs, Option.bind_some, RW_w rwP_r hj (by omega), Option.bind_some, nA_1]
      by_cases h1 : rkS H E x = 1
      · rw [et_1 h1, show frL H E (x + 1) = x from if_pos h1]
      · rw [ef_1 h1 (by omega), show frL H E (x + 1) = frL H E x from if_neg h1]
  · rintro s h ⟨m, rfl, rfl, h1, h2⟩ rec
    have hHm : encH (kC k) H m := encH_cg hH fun a h1 h2' => h2 a (by omega)
    refine ⟨m, ?_, h1, h2⟩
    unfold lb_X4_ranks_51 jn_X4_ranks_99
    dsimp only
    rw [ZA_4_2 s2, Option.bind_some, ZI_0_2 hHm.1, Option.bind_some, hHm.2.2.1, ifLf (Nat.le_refl _) (by omega)]
theorem x_ranks (r : Int32) : okX (dn_X4_ranks 2 r) (g_ranks r) := by
  intro s k m hO hX hk
  have hOH := hO.2.2.2.1.1
  have hN5 := hOH.2.1
  have hG := hX.2.2.2.1
  have hkc := hG.1
  unfold dn_X4_ranks g_ranks
  rw [ZO_4 s2, Option.bind_some, X_isRow, zbd_s]
  cases h : ix r 6 with
  | none => exact ⟨k, m, by rw [ifNo, ifb0], hX, zfX.rf⟩
  | some j =>
    dsimp only
    obtain ⟨rfl, hj⟩ := ix_s (by omega) h
    rw [ifSo, ifb1, ZA_4_2 s2, Option.bind_some, ZI_0_2 hG.2.1.1, Option.bind_some, hG.2.1.2.2.1]
    by_cases h0 : hN (sH s) = 0
    · rw [et_0 h0, if_pos h0]
      exact ⟨k, m, rfl, hX, zfX.rf⟩
    · rw [ef_0 h0 (by omega), if_neg h0]
      obtain ⟨m1, r1, r2, r3⟩ := X_finish hO hO.1 hX
      have hX1 := hX.t26 r3
      obtain ⟨m2, u1, u2, u3, u4⟩ := X_renew (k := k) (m := m1) (n := nI (hN (sH s))) (v := 0) rwP_r hj
      obtain ⟨m3, w1, w2, w3⟩ := X_rk51 (k := k) (E := enS (sH s) (sLw s) (sR s)) (m0 := m2) hN5 (enS_ok hOH hO.2.2.2.2.2.1) hj hkc (encH_cg hX1.2.2.2.1.2.1 fun a h1 h2 => u4 a (by omega) (by omega)) (encX_cg r2 fun a h1 h2 => u4 a (by omega) (by omega))
      have w1' : lp_X4_ranks_51 2 (nI j) (0, 0) (Z k m2) = _ := w1
      refine ⟨k, m3, ?_, hX1.w (zXQ.st hX1.2.1 hj (by rw [w3 _ (by omega)]; exact u2) w2 fun r' h1 h2 => ⟨by rw [w3 _ (by omega), u4 _ (by omega) (by omega)], by rw [w3 _ (by omega), u4 _ (by omega) (by omega)]⟩) (fun a h1 h2 => by rw [w3 a (by omega), u4 a (by omega) (by omega)]), (zFr26 r3).tr0 fun a ha => by rw [w3 a (by omega), u4 a (by omega) (by omega)]⟩
      rw [ZI_4_7 s2, Option.bind_some, hX.1.1, r1, zbd_s, ZA_4_0 s2, Option.bind_some, RW_r rwP_r hj, Option.bind_some, ZA_4_2 s2, Option.bind_some, ZI_0_2 hG.2.1.1, Option.bind_some, hX1.2.2.2.1.2.1.2.2.1, u1, zbd_s, w1']
theorem M_rk41 {j q : Nat} {E : zRS} {m0 : Nat → Nat → Int32} (hN5 : hN H ≤ 5) (hok : okR H E) (hj : j < 6) (hG : encG H m0) (hb : m0 81 29 = nI q) (hE : encM q H E m0) : ∃ m', zlp (lb_X5_ranks_41 81 (nI j)) 2000 (0, 0) (Z k m0) = some (nI (frL H E (hN H)), Z k m') ∧ (∀ i, i < hN H → m' 84 (60 * j + i) = nI (rkS H E i)) ∧ (∀ a, a ≠ 84 → m' a = m0 a) ∧ ∀ i, (i < 60 * j ∨ 60 * j + 60 ≤ i) → m' 84 i = m0 84 i := by
  refine lp_inv (N := 60) (I := fun x s h => ∃ m, s = (nI (frL H E (min x (hN H))), nI x) ∧ h = Z k m ∧ (∀ i, i < x → i < hN H → m 84 (60 * j + i) = nI (rkS H E i)) ∧ (∀ a, a ≠ 84 → m a = m0 a) ∧ ∀ i, (i < 60 * j ∨ 60 * j + 60 ≤ i) → m 84 i = m0 84 i) (Q := fun r => ∃ m', r = some (nI (frL H E (hN H)), Z k m') ∧ (∀ i, i < hN H → m' 84 (60 * j + i) = nI (rkS H E i)) ∧ (∀ a, a ≠ 84 → m' a = m0 a) ∧ ∀ i, (i < 60 * j ∨ 60 * j + 60 ≤ i) → m' 84 i = m0 84 i) ?_ ?_ 60 0 2000 (0, 0) (Z k m0) (by omega) (by omega) ⟨m0, by rw [Nat.min_eq_left (by omega)]; rfl, rfl, fun i hi => by omega, fun _ _ => rfl, fun _ _ => rfl⟩
  · rintro x s h hx ⟨m, rfl, rfl, h1, h2, h3⟩
    left
    have hr := rkS_le (R := E) (x := x) hN5
    have hGm : encG H m := encG_cg hG ⟨by rw [h2 81 (by omega)], by rw [h2 81 (by omega)]⟩ fun a _ _ => h2 a (by omega)
    have hEm : encM q H E m := encM_fr hN5 hE fun i _ _ => by rw [h2 100 (by omega)]
    have hbm : m 81 29 = nI q := by rw [h2 81 (by omega)]; exact hb
    by_cases hxN : x < hN H
    · refine ⟨(nI (frL H E (min (x + 1) (hN H))), nI (x + 1)), Z k (mu m 84 (60 * j + x) (nI (rkS H E x))), ⟨_, rfl, rfl, fun i hi hiN => ?_, fun a ha => by rw [mu_ar _ _ _ ha, h2 a ha], fun i hi => by rw [mu_j _ _ (by omega), h3 i hi]⟩, fun rec => ?_⟩
      · by_cases hix : i = x
        · subst hix; rw [mu_s]
        · rw [mu_j _ _ (by omega)]; exact h1 i (by omega) hiN
      · have hG2 : encG H (mu m 84 (60 * j + x) (nI (rkS H E x))) := encG_cg hGm ⟨by rw [mu_ar _ _ _ (by omega)], by rw [mu_ar _ _ _ (by omega)]⟩ fun a _ _ => mu_ar _ _ _ (by omega)
        have hE2 : encM q H E (mu m 84 (60 * j + x) (nI (rkS H E x))) := encM_fr hN5 hEm fun i _ _ => by rw [mu_ar _ _ _ (by omega)]
        have hb2 : mu m 84 (60 * j + x) (nI (rkS H E x)) 81 29 = nI q := by rw [mu_ar _ _ _ (by omega)]; exact hbm
        unfold lb_X5_ranks_41 jn_X5_ranks_74 jn_X5_ranks_96 jn_X5_ranks_97
        dsimp only
        rw [it_60 hx, ZA_5_6 s81, Option.bind_some, ZI_5_12 s81, Option.bind_some, hGm.2.1, ifLt hxN (by omega), M_rankOf hN5 hGm hbm hEm hok hxN, zbd_s, nM_60, nI_add, Ms_84 (by omega), Option.bind_some, ZI_5_12 s81, Option.bind_some, hG2.2.1, ifLt hxN (by omega), M_rankOf hN5 hG2 hb2 hE2 hok hxN, zbd_s, nA_1, Nat.min_eq_left (by omega), Nat.min_eq_left (by omega)]
        by_cases h1 : rkS H E x = 1
        · rw [et_1 h1, show frL H E (x + 1) = x from if_pos h1]
        · rw [ef_1 h1 (by omega), show frL H E (x + 1) = frL H E x from if_neg h1]
    · refine ⟨(nI (frL H E (min (x + 1) (hN H))), nI (x + 1)), Z k (mu m 84 (60 * j + x) 0), ⟨_, rfl, rfl, fun i hi hiN => ?_, fun a ha => by rw [mu_ar _ _ _ ha, h2 a ha], fun i hi => by rw [mu_j _ _ (by omega), h3 i hi]⟩, fun rec => ?_⟩
      · rw [mu_j _ _ (by omega)]; exact h1 i (by omega) hiN
      · have hG2 : encG H (mu m 84 (60 * j + x) 0) := encG_cg hGm ⟨by rw [mu_ar _ _ _ (by omega)], by rw [mu_ar _ _ _ (by omega)]⟩ fun a _ _ => mu_ar _ _ _ (by omega)
        unfold lb_X5_ranks_41 jn_X5_ranks_74 jn_X5_ranks_96 jn_X5_ranks_97
        dsimp only
        rw [it_60 hx, ZA_5_6 s81, Option.bind_some, ZI_5_12 s81, Option.bind_some, hGm.2.1, ifLf (by omega) (by omega), nM_60, nI_add, Ms_84 (by omega), Option.bind_some, ZI_5_12 s81, Option.bind_some, hG2.2.1, ifLf (by omega) (by omega), nA_1, Nat.min_eq_right (by omega), Nat.min_eq_right (by omega)]
  · rintro s h ⟨m, rfl, rfl, h1, h2, h3⟩ rec
    refine ⟨m, ?_, fun i hi => h1 i (by omega) hi, h2, h3⟩
    unfold lb_X5_ranks_41 jn_X5_ranks_104
    dsimp only
    rw [if_neg (by decide), Nat.min_eq_right (by omega)]
theorem x5_ranks (r : Int32) : okM (dn_X5_ranks 81 r) (g_ranks r) := by
  intro s k m hO hM
  have hOH := hO.2.2.2.1.1
  have hN5 := hOH.2.1
  have hG := hM.2.2.2.1
  unfold dn_X5_ranks g_ranks
  rw [ZO_5 s81, Option.bind_some, M_isRow, zbd_s]
  cases h : ix r 6 with
  | none => exact ⟨k, m, by rw [ifNo, ifb0], hM, zfM.rf⟩
  | some j =>
    dsimp only
    obtain ⟨rfl, hj⟩ := ix_s (by omega) h
    rw [ifSo, ifb1, ZI_5_12 s81, Option.bind_some, hG.1.2.1]
    by_cases h0 : hN (sH s) = 0
    · rw [et_0 h0, if_pos h0]
      exact ⟨k, m, rfl, hM, zfM.rf⟩
    · rw [ef_0 h0 (by omega), if_neg h0]
      obtain ⟨m1, n1, n2, n3, n4, n5⟩ := M_nc hN5 hM
      obtain ⟨m2, r1, r2, r3, r4⟩ := M_ncEnd hO n3 n2
      have hM2 := n3.sc hN5 r4.w
      have f3 : ∀ b, b ≠ 83 → mu m2 83 j (nI (hN (sH s))) b = m2 b := fun b hb => mu_ar _ _ _ hb
      obtain ⟨m3, w1, w2, w3, w4⟩ := M_rk41 (k := k) (q := 132) (E := enS (sH s) (sLw s) (sR s)) (m0 := mu m2 83 j (nI (hN (sH s)))) hN5 r3 hj (encG_cg hM2.2.2.2.1.1 ⟨by rw [f3 81 (by omega)], by rw [f3 81 (by omega)]⟩ fun a _ _ => f3 a (by omega)) (by rw [f3 81 (by omega)]; exact r4.2.2.1) (encM_fr hN5 r2 fun i _ _ => by rw [f3 100 (by omega)])
      have w1' : lp_X5_ranks_41 81 (nI j) (0, 0) (Z k (mu m2 83 j (nI (hN (sH s))))) = _ := w1
      refine ⟨k, m3, ?_, hM2.w hN5 (zMQ.st hO.2.1 hM2.2.1 hj (by rw [w3 83 (by omega), mu_s]) w2 (fun r' h1 h2 => by rw [w3 83 (by omega), mu_j _ _ h2]) (fun r' i h1 h2 h3 => by rw [w4 _ (by omega), f3 84 (by omega)])) (fun a h1 h2 => by rw [w3 a h2, f3 a h1]), zfM.tr (zFw.tr n5 r4.w).zfM (zfM.of fun a ha => by rw [w3 a (by omega), f3 a (by omega)])⟩
      rw [n1, zbd_s, r1, zbd_s, ZA_5_5 s81, Option.bind_some, ZI_5_12 s81, Option.bind_some, hM2.2.2.2.1.1.2.1, Ms_83 hj, Option.bind_some, w1']
theorem o_ranks (r : Int32) : okG (g_ranks r) := by
  intro s hO
  unfold g_ranks
  have hN5 := hO.2.2.2.1.1.2.1
  cases h : ix r 6 with
  | none => exact hO
  | some j =>
    dsimp only
    by_cases h0 : hN (sH s) = 0
    · rw [if_pos h0]; exact hO
    · rw [if_neg h0]; exact hO.w (stW_sz hO.2.1 (by omega))
/-! laws -/
noncomputable def lwL (s : zSt) (x : Nat) : Nat → Int32
  | 0 => 0
  | n + 1 => if rHd (enS (sH s) n (sR s)) = x then lwL s x n ||| (1 <<< (nI n &&& 31)) else lwL s x n
noncomputable def g_laws (x : Int32) (s : zSt) : Int32 × zSt := match ix x (hN (sH s)) with
  | none => (-1, s)
  | some x => (lwL s x 3, s)
theorem rHd_le (hN5 : hN H ≤ 5) (hok : okR H R) : rHd R ≤ 5 := by rcases hok.2.1 with z | z <;> omega
theorem x_laws (x : Int32) : okX (dn_X4_laws 2 x) (g_laws x) := by
  intro s k m hO hX hk
  have hOH := hO.2.2.2.1.1
  have hN5 := hOH.2.1
  unfold dn_X4_laws g_laws
  rw [ZO_4 s2, Option.bind_some, X_isRunner hN5 hX, zbd_s]
  rcases ix_c x (hN (sH s)) (by omega) with ⟨x, hx, rfl, e⟩ | ⟨e, -⟩
  · rw [e, ifSo, ifb1]
    refine lp_inv (N := 3) (I := fun v t h => ∃ m', t = (lwL s x v, nI v) ∧ h = Z k m' ∧ XS s k m' ∧ zfX k m k m') (Q := fun r => ∃ k' m', r = some (lwL s x 3, Z k' m') ∧ XS s k' m' ∧ zfX k m k' m') ?_ ?_ 3 0 2000 (0, 0) (Z k m) (by omega) (by omega) ⟨m, rfl, rfl, hX, zfX.rf⟩
    · rintro v t h hv ⟨m', rfl, rfl, h1, h2⟩
      left
      obtain ⟨m1, r1, r2, r3⟩ := X_finish (lw := v) hO (by omega) h1
      have hh := rHd_le hN5 (enS_ok (lw := v) hOH hO.2.2.2.2.2.1)
      refine ⟨(lwL s x (v + 1), nI (v + 1)), Z k m1, ⟨m1, rfl, rfl, h1.t26 r3, h2.tr0 fun a ha => r3 a (by omega)⟩, fun rec => ?_⟩
      unfold lb_X4_laws_14 jn_X4_laws_41
      dsimp only
      rw [it_3 hv, r1, zbd_s, ZA_4_5 s2, Option.bind_some, ZI_1_3 rfl, Option.bind_some, r2.2.2.2.2.1, nA_1]
      by_cases hc : rHd (enS (sH s) v (sR s)) = x
      · rw [ifEt hc, show lwL s x (v + 1) = lwL s x v ||| (1 <<< (nI v &&& 31)) from if_pos hc]
      · rw [ifEf hc (by omega) (by omega), show lwL s x (v + 1) = lwL s x v from if_neg hc]
    · rintro t h ⟨m', rfl, rfl, h1, h2⟩ rec
      refine ⟨k, m', ?_, h1, h2⟩
      unfold lb_X4_laws_14 jn_X4_laws_47
      dsimp only
      rw [if_neg (by decide)]
  · rw [e]
    exact ⟨k, m, by rw [ifNo, ifb0], hX, zfX.rf⟩
theorem x5_laws (x : Int32) : okM (dn_X5_laws 81 x) (g_laws x) := by
  intro s k m hO hM
  have hOH := hO.2.2.2.1.1
  have hN5 := hOH.2.1
  unfold dn_X5_laws g_laws
  rw [ZO_5 s81, Option.bind_some, M_isRunner hN5 hM, zbd_s]
  rcases ix_c x (hN (sH s)) (by omega) with ⟨x, hx, rfl, e⟩ | ⟨e, -⟩
  · rw [e, ifSo, ifb1, ZI_5_18 s81, Option.bind_some, hM.1.1]
    obtain ⟨m1, n1, n2, n3, n4, n5⟩ := M_nc hN5 hM
    rw [n1, zbd_s]
    refine lp_inv (N := 3) (I := fun v t h => ∃ m' lw, t = (lwL s x v, nI v) ∧ h = Z k m' ∧ MS (sLs lw s) k m' ∧ (∀ i, i < 5 → m' 101 i = 0) ∧ zfM k m k m') (Q := fun r => ∃ k' m', r = some (lwL s x 3, Z k' m') ∧ MS s k' m' ∧ zfM k m k' m') ?_ ?_ 3 0 2000 (0, 0) (Z k m1) (by omega) (by omega) ⟨m1, sLw s, rfl, rfl, n3, n2, n5.zfM⟩
    · rintro v t h hv ⟨m', lw, rfl, rfl, h1, h2, h3⟩
      left
      obtain ⟨l1, l2⟩ := MS.l (s := sLs lw s) (v := v) hN5 h1
      have l1' : MS (sLs v s) k (mu m' 81 18 (nI v)) := l1
      have hO' : okS (sLs v s) := ⟨by show v ≤ 2; omega, hO.2⟩
      obtain ⟨m2, r1, r2, r3, r4⟩ := M_ncEnd hO' l1' (fun i hi => by rw [mu_ar _ _ _ (by omega)]; exact h2 i hi)
      have r2' : encM 132 (sH s) (enS (sH s) v (sR s)) m2 := r2
      have hh := rHd_le hN5 (enS_ok (lw := v) hOH hO.2.2.2.2.2.1)
      refine ⟨(lwL s x (v + 1), nI (v + 1)), Z k m2, ⟨m2, v, rfl, rfl, l1'.sc hN5 r4.w, fun i hi => by rw [r4.1 101 (by omega) (by omega), mu_ar _ _ _ (by omega)]; exact h2 i hi, zfM.tr h3 (zfM.tr l2 r4.w.zfM)⟩, fun rec => ?_⟩
      unfold lb_X5_laws_24 jn_X5_laws_58
      dsimp only
      rw [it_3 hv, ZP_5_18 s81, Option.bind_some, r1, zbd_s, M_v1 r4.2.2.1 (by omega), zbd_s, r2'.2.2.1, nA_1]
      by_cases hc : rHd (enS (sH s) v (sR s)) = x
      · rw [ifEt hc, show lwL s x (v + 1) = lwL s x v ||| (1 <<< (nI v &&& 31)) from if_pos hc]
      · rw [ifEf hc (by omega) (by omega), show lwL s x (v + 1) = lwL s x v from if_neg hc, Int32.or_zero]
    · rintro t h ⟨m', lw, rfl, rfl, h1, h2, h3⟩ rec
      obtain ⟨l1, l2⟩ := MS.l (s := sLs lw s) (v := sLw s) hN5 h1
      refine ⟨k, mu m' 81 18 (nI (sLw s)), ?_, l1, zfM.tr h3 l2⟩
      unfold lb_X5_laws_24 jn_X5_laws_66
      dsimp only
      rw [if_neg (by decide), ZP_5_18 s81, Option.bind_some]
  · rw [e]
    exact ⟨k, m, by rw [ifNo, ifb0], hM, zfM.rf⟩
theorem o_laws (x : Int32) : okG (g_laws x) := by
  intro s hO
  unfold g_laws
  cases h : ix x (hN (sH s)) with
  | none => exact hO
  | some j => exact hO
end
