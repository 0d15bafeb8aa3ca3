theorem lp_invK {κ σ ρ : Type} {f : κ → (σ → zAH → Option (ρ × zAH)) → σ → zAH → Option (ρ × zAH)} {I : Nat → σ → zAH → Prop} {N : Nat} {P : (κ → Option (ρ × zAH)) → Prop} (hs : ∀ x s h, x < N → I x s h → ∃ s' h', I (x + 1) s' h' ∧ ∀ q rec, f q rec s h = rec s' h') (he : ∀ s h, I N s h → ∀ rec : κ → σ → zAH → Option (ρ × zAH), P (fun q => f q (rec q) s h)) : ∀ n x fuel s h, x + n = N → n < fuel → I x s h → P (fun q => zlp (f q) fuel s h) := by
  intro n
  induction n with
  | zero =>
    intro x fuel s h hx hf hI
    obtain ⟨g, rfl⟩ : ∃ g, fuel = g + 1 := ⟨fuel - 1, by omega⟩
    obtain rfl : x = N := by omega
    exact he s h hI fun q => zlp (f q) g
  | succ n ih =>
    intro x fuel s h hx hf hI
    obtain ⟨g, rfl⟩ : ∃ g, fuel = g + 1 := ⟨fuel - 1, by omega⟩
    obtain ⟨s', h', h1, h2⟩ := hs x s h (by omega) hI
    have e : (fun q => zlp (f q) (g + 1) s h) = fun q => zlp (f q) g s' h' := by
      funext q
      rw [zlp_s, h2]
    rw [e]
    exact ih (x + 1) g s' h' (by omega) (by omega) h1
theorem nD3 {a : Nat} (ha : a < 2 ^ 31) : nI a / 3 = nI (a / 3) := nDiv (d := 3) ha (by omega) (by omega)
theorem nR3 {a : Nat} (ha : a < 2 ^ 31) : nI a % 3 = nI (a % 3) := nMod (d := 3) ha (by omega) (by omega)
section
variable {k k' : zK} {m m' : Nat → Nat → Int32} {s : zSt} {c : Nat} {H : zHD} {R : zRS}
/-- BREATH by a lot -/
def btS (b t : Nat) : Nat := max 1 (b + t - 1)
theorem btS_le {b t : Nat} (h1 : 1 ≤ b) (h2 : b ≤ 9) (h3 : t ≤ 2) : 1 ≤ btS b t ∧ btS b t ≤ 10 := by unfold btS; omega
theorem X_byLot {x t : Nat} (hO : okS s) (hX : XS s k m) (hx : x < hN (sH s)) (ht : t ≤ 2) : dn_X4_breathByLot 2 (nI x) (nI t) (Z k m) = some (nI (btS (sB s x) t), Z k m) := by
  have hOH := hO.2.2.2.1.1
  have hN5 := hOH.2.1
  have hG := hX.2.2.2.1
  have hH := hG.2.1
  have s7 := shp_2 _ (shp_le (by have := hH.1; omega)) hH.1
  obtain ⟨b1, b2, -⟩ := hO.2.2.2.2.1 x hx
  unfold dn_X4_breathByLot btS
  rw [ZO_4 s2, Option.bind_some, ZA_4_2 s2, Option.bind_some, ZA_0_4 hH.1, Option.bind_some, Zl5 s7.2.2.1 (by omega), Option.bind_some, (hG.2.2 x hx).1, nI_add, show nI (sB s x + t) - 1 = nI (sB s x + t - 1) from pk_sub (b := 1) (by omega), show zmx 1 (nI (sB s x + t - 1)) = nI (max 1 (sB s x + t - 1)) from zmx_n (a := 1) (by omega) (by omega)]
theorem M_byLot {b t : Nat} {h : zAH} (h1 : 1 ≤ b) (h2 : b ≤ 9) (ht : t ≤ 2) : dn_X5_greater 1 ((nI b + nI t) - 1) h = some (nI (btS b t), h) := by
  unfold btS
  rw [nI_add, show nI (b + t) - 1 = nI (b + t - 1) from pk_sub (b := 1) (by omega)]
  exact M_greN (a := 1) (by omega) (by omega)
def odB (s : zSt) (code : Nat) (i : Nat) : Nat := btS (sB s i) (code / 3 ^ i % 3)
theorem odB_le {code : Nat} (hO : okS s) : ∀ i, i < hN (sH s) → 1 ≤ odB s code i ∧ odB s code i ≤ 10 := fun i hi => btS_le (hO.2.2.2.2.1 i hi).1 (hO.2.2.2.2.1 i hi).2.1 (by omega)
noncomputable def odE (s : zSt) (code : Nat) : zRS := enS (sH s) (sLw s) (begS (sH s) (sD s) (odB s code))
theorem stD9 (hO : okS s) : ∀ y, y < hN (sH s) → sD s y ≤ 9 := fun y hy => (hO.2.2.2.2.1 y hy).2.2
theorem odE_ok {code : Nat} (hO : okS s) : okR (sH s) (odE s code) := enS_ok hO.2.2.2.1.1 (okR_beg (stD9 hO) (odB_le hO))
noncomputable def g_odds (x : Int32) (s : zSt) : Int32 × zSt := match ix x (hN (sH s)) with
  | none => (-1, s)
  | some x => (nI (cnt (fun c => rHd (odE s c) = x) (3 ^ hN (sH s))), sFr (cnt (fun c => rHd (odE s c) = x) (3 ^ hN (sH s))) (3 ^ hN (sH s)) s)
theorem pow3_le {n : Nat} (h : n ≤ 5) : 3 ^ n ≤ 243 ∧ 1 ≤ 3 ^ n := ⟨Nat.le_trans (Nat.pow_le_pow_right (by omega) h) (by decide), Nat.one_le_pow _ _ (by omega)⟩
theorem X_od53 {x v2 v3 v4 : Int32} {code : Nat} (hO : okS s) (hX : XS s k m) (hc : code < 1000) : ∃ m', (∀ kc, lp_X4_odds_53 kc 2 x v2 v3 v4 (nI code, 0) (Z k m) = jn_X4_odds_94 kc 2 x v2 v3 v4 (Z k m')) ∧ XS s k m' ∧ (∀ i, i < hN (sH s) → m' 37 i = nI (odB s code i)) ∧ ∀ a, a ≠ 37 → m' a = m a := by
  have hOH := hO.2.2.2.1.1
  have hN5 := hOH.2.1
  unfold lp_X4_odds_53
  refine lp_invK (f := fun kc => lb_X4_odds_53 kc 2 x v2 v3 v4) (N := hN (sH s)) (I := fun i t h => ∃ m2, t = (nI (code / 3 ^ i), nI i) ∧ h = Z k m2 ∧ XS s k m2 ∧ (∀ j, j < i → m2 37 j = nI (odB s code j)) ∧ ∀ a, a ≠ 37 → m2 a = m a) (P := fun r => ∃ m', (∀ kc, r kc = jn_X4_odds_94 kc 2 x v2 v3 v4 (Z k m')) ∧ XS s k m' ∧ (∀ i, i < hN (sH s) → m' 37 i = nI (odB s code i)) ∧ ∀ a, a ≠ 37 → m' a = m a) ?_ ?_ (hN (sH s)) 0 2000 _ _ (by omega) (by omega) ⟨m, by rw [Nat.pow_zero, Nat.div_one]; rfl, rfl, hX, fun j hj => by omega, fun _ _ => rfl⟩
  · rintro i t h hi ⟨m2, rfl, rfl, h1, h2, h3⟩
    have hG := h1.2.2.2.1
    have hcd : code / 3 ^ i < 2 ^ 31 := Nat.lt_of_le_of_lt (Nat.div_le_self _ _) (by omega)
    refine ⟨(nI (code / 3 ^ (i + 1)), nI (i + 1)), Z k (mu m2 37 i (nI (odB s code i))), ⟨_, rfl, rfl, h1.sc (fun a g1 g2 g3 => mu_ar _ _ _ (by omega)) (fun y hy => by rw [mu_ar _ _ _ (by omega)]; exact h1.2.2.2.2.2.2 y hy), fun j hj => ?_, fun a ha => by rw [mu_ar _ _ _ ha]; exact h3 a ha⟩, fun kc rec => ?_⟩
    · by_cases hji : j = i
      · subst hji; rw [mu_s]
      · rw [mu_j _ _ hji]; exact h2 j (by omega)
    · unfold lb_X4_odds_53
      dsimp only
      rw [ZA_4_2 s2, Option.bind_some, ZI_0_2 hG.2.1.1, Option.bind_some, hG.2.1.2.2.1, ifLt hi (by omega), ZA_4_15 s2, Option.bind_some, if_neg (by decide), nR3 hcd, X_byLot hO h1 hi (by omega), zbd_s, Ms_37 (by omega), Option.bind_some, if_neg (by decide), nD3 hcd, Nat.div_div_eq_div_mul, ← Nat.pow_succ, nA_1]
      rfl
  · rintro t h ⟨m2, rfl, rfl, h1, h2, h3⟩ rec
    have hG := h1.2.2.2.1
    refine ⟨m2, fun kc => ?_, h1, h2, h3⟩
    unfold lb_X4_odds_53
    dsimp only
    rw [ZA_4_2 s2, Option.bind_some, ZI_0_2 hG.2.1.1, Option.bind_some, hG.2.1.2.2.1, ifLf (Nat.le_refl _) (by omega)]
theorem x_odds (x : Int32) : okX (dn_X4_odds 2 x) (g_odds x) := by
  intro s k m hO hX hk
  have hOH := hO.2.2.2.1.1
  have hN5 := hOH.2.1
  have hp := pow3_le hN5
  have hG := hX.2.2.2.1
  have hkc := hG.1
  have s7 := shp_2 _ (shp_le (by have := hG.2.1.1; omega)) hG.2.1.1
  unfold dn_X4_odds g_odds
  rw [ZO_4 s2, Option.bind_some, X_isRunner hN5 hX, zbd_s]
  rcases ix_c x (hN (sH s)) (by omega) with ⟨x, hx, rfl, e⟩ | ⟨e, -⟩
  · rw [e, ifSo, ifb1]
    have h14 : lp_X4_odds_14 2 (nI x) (1, 0) (Z k m) = jn_X4_odds_35 2 (nI x) (nI (3 ^ hN (sH s))) (Z k m) := by
      unfold lp_X4_odds_14
      refine lp_fn (N := hN (sH s)) (fun i => (nI (3 ^ i), nI i)) (fun _ => Z k m) (fun i hi rec => ?_) (fun rec => ?_) (by omega)
      · unfold lb_X4_odds_14
        dsimp only
        rw [ZA_4_2 s2, Option.bind_some, ZI_0_2 hG.2.1.1, Option.bind_some, hG.2.1.2.2.1, ifLt hi (by omega), show nI (3 ^ i) * 3 = nI (3 ^ i * 3) from pk_mul (3 ^ i) 3, nA_1, Nat.pow_succ]
      · unfold lb_X4_odds_14
        dsimp only
        rw [ZA_4_2 s2, Option.bind_some, ZI_0_2 hG.2.1.1, Option.bind_some, hG.2.1.2.2.1, ifLf (Nat.le_refl _) (by omega)]
    rw [h14]
    have hcl := cnt_le (P := fun c => rHd (odE s c) = x) (3 ^ hN (sH s))
    refine lp_inv (N := 3 ^ hN (sH s)) (I := fun c t h => ∃ m2, t = (nI (cnt (fun c => rHd (odE s c) = x) c), nI c) ∧ h = Z k m2 ∧ XS s k m2 ∧ zfX k m k m2) (Q := fun r => ∃ k' m', r = some (nI (cnt (fun c => rHd (odE s c) = x) (3 ^ hN (sH s))), Z k' m') ∧ XS (sFr (cnt (fun c => rHd (odE s c) = x) (3 ^ hN (sH s))) (3 ^ hN (sH s)) s) k' m' ∧ zfX k m k' m') ?_ ?_ (3 ^ hN (sH s)) 0 2000 _ (Z k m) (by omega) (by omega) ⟨m, rfl, rfl, hX, zfX.rf⟩
    · rintro c t h hc ⟨m2, rfl, rfl, h1, h2⟩
      left
      obtain ⟨m3, r1, r2, r3, r4⟩ := X_od53 (x := nI x) (v2 := nI (3 ^ hN (sH s))) (v3 := nI (cnt (fun c => rHd (odE s c) = x) c)) (v4 := nI c) hO h1 (show c < 1000 by omega)
      have hG3 := r2.2.2.2.1
      obtain ⟨m4, q1, q2, q3⟩ := X_runT (ah := kC k + 4) (ab := 37) (hd := sD s) (br := odB s c) hO r2 s7.2.2.2.1 rfl (by omega) (by omega) (stD9 hO) (odB_le hO) (fun i hi => ⟨(hG3.2.2 i hi).2, r3 i hi⟩)
      have q2' : encX 26 (sH s) (odE s c) m4 := q2
      have hh := rHd_le hN5 (odE_ok (code := c) hO)
      refine ⟨(nI (cnt (fun c => rHd (odE s c) = x) (c + 1)), nI (c + 1)), Z k m4, ⟨m4, rfl, rfl, r2.t26 q3, h2.tr0 fun a ha => by rw [q3 a (by omega), r4 a (by omega)]⟩, fun rec => ?_⟩
      unfold lb_X4_odds_40
      dsimp only
      rw [ifLt hc (by omega), r1]
      unfold jn_X4_odds_94 jn_X4_odds_123
      rw [ZA_4_2 s2, Option.bind_some, ZA_0_5 hG.2.1.1, Option.bind_some, ZA_4_15 s2, Option.bind_some, q1, zbd_s, ZA_4_5 s2, Option.bind_some, ZI_1_3 rfl, Option.bind_some, q2'.2.2.2.2.1, nA_1, nA_1]
      by_cases hcx : rHd (odE s c) = x
      · rw [ifEt hcx, cnt_t (P := fun c => rHd (odE s c) = x) hcx]
      · rw [ifEf hcx (by omega) (by omega), cnt_f (P := fun c => rHd (odE s c) = x) hcx]
    · rintro t h ⟨m2, rfl, rfl, h1, h2⟩ rec
      obtain ⟨k', t1, t2, t3⟩ := X_tell (u := cnt (fun c => rHd (odE s c) = x) (3 ^ hN (sH s))) (l := 3 ^ hN (sH s)) (by omega) (by omega) (by omega) h1
      refine ⟨k', m2, ?_, t2, ⟨fun a ha => h2.1 a ha, t3.2⟩⟩
      have t1' : dn_X4_tellFraction 2 (Int32.toInt64 (nI (cnt (fun c => rHd (odE s c) = x) (3 ^ hN (sH s))))) (Int32.toInt64 (nI (3 ^ hN (sH s)))) (Z k m2) = some ((), Z k' m2) := t1
      unfold lb_X4_odds_40 jn_X4_odds_129
      dsimp only
      rw [ifLf (Nat.le_refl _) (by omega), t1', zbd_s]
  · rw [e]
    exact ⟨k, m, by rw [ifNo, ifb0], hX, zfX.rf⟩
theorem M_od41 {x v2 v3 v4 : Int32} {code : Nat} (hO : okS s) (hM : MS s k m) (hw : zWl m) (hE : encM 132 (sH s) (begS (sH s) (sD s) (sB s)) m) (hc : code < 1000) : ∃ m', (∀ kc, lp_X5_odds_41 kc 81 x v2 v3 v4 (0, nI code) (Z k m) = jn_X5_odds_93 kc 81 x v2 v3 v4 (Z k m')) ∧ encM 132 (sH s) (begS (sH s) (sD s) (odB s code)) m' ∧ MS s k m' ∧ zWl m' ∧ zFm 132 m m' := by
  have hOH := hO.2.2.2.1.1
  have hN5 := hOH.2.1
  unfold lp_X5_odds_41
  refine lp_invK (f := fun kc => lb_X5_odds_41 kc 81 x v2 v3 v4) (N := hN (sH s)) (I := fun i t h => ∃ m2 R, t = (nI i, nI (code / 3 ^ i)) ∧ h = Z k m2 ∧ MS s k m2 ∧ zWl m2 ∧ encM 132 (sH s) R m2 ∧ agS (sH s) (sD s) (odB s code) i R ∧ zFm 132 m m2) (P := fun r => ∃ m', (∀ kc, r kc = jn_X5_odds_93 kc 81 x v2 v3 v4 (Z k m')) ∧ encM 132 (sH s) (begS (sH s) (sD s) (odB s code)) m' ∧ MS s k m' ∧ zWl m' ∧ zFm 132 m m') ?_ ?_ (hN (sH s)) 0 2000 _ _ (by omega) (by omega) ⟨m, _, by rw [Nat.pow_zero, Nat.div_one]; rfl, rfl, hM, hw, hE, agS_0, zFm.rf⟩
  · rintro i t h hi ⟨m2, R, rfl, rfl, h1, h2, h3, h4, h5⟩
    have hG := h1.2.2.2.1
    obtain ⟨b1, b2, b3⟩ := hO.2.2.2.2.1 i hi
    have hcd : code / 3 ^ i < 2 ^ 31 := Nat.lt_of_le_of_lt (Nat.div_le_self _ _) (by omega)
    obtain ⟨m3, r1, r2, r3, r4, r5⟩ := M_startsW (b := odB s code i) (h := sD s i) hO h1 h2 h3 hi (by omega)
    refine ⟨(nI (i + 1), nI (code / 3 ^ (i + 1))), Z k m3, ⟨m3, _, rfl, rfl, r3, r4, r2, agS_st h4 rfl rfl, zFm.tr h5 r5⟩, fun kc rec => ?_⟩
    unfold lb_X5_odds_41
    dsimp only
    rw [ZI_5_12 s81, Option.bind_some, hG.1.2.1, ifLt hi (by omega), ZA_5_14 s81, Option.bind_some, Ml_90 (by omega), Option.bind_some, (hG.2 i hi).1, if_neg (by decide), nR3 hcd, M_byLot b1 b2 (by omega), zbd_s, ZA_5_15 s81, Option.bind_some, Ml_91 (by omega), Option.bind_some, (hG.2 i hi).2, show nI (btS (sB s i) (code / 3 ^ i % 3)) = nI (odB s code i) from rfl, r1, zbd_s, if_neg (by decide), nD3 hcd, Nat.div_div_eq_div_mul, ← Nat.pow_succ, nA_1]
  · rintro t h ⟨m2, R, rfl, rfl, h1, h2, h3, h4, h5⟩ rec
    refine ⟨m2, fun kc => ?_, agS_end h4 h3, h1, h2, h5⟩
    unfold lb_X5_odds_41
    dsimp only
    rw [ZI_5_12 s81, Option.bind_some, h1.2.2.2.1.1.2.1, ifLf (Nat.le_refl _) (by omega)]
theorem x5_odds (x : Int32) : okM (dn_X5_odds 81 x) (g_odds x) := by
  intro s k m hO hM
  have hOH := hO.2.2.2.1.1
  have hN5 := hOH.2.1
  have hp := pow3_le hN5
  unfold dn_X5_odds g_odds
  rw [ZO_5 s81, Option.bind_some, M_isRunner hN5 hM, zbd_s]
  rcases ix_c x (hN (sH s)) (by omega) with ⟨x, hx, rfl, e⟩ | ⟨e, -⟩
  · rw [e, ifSo, ifb1, ZI_5_12 s81, Option.bind_some, hM.2.2.2.1.1.2.1, show dn_X5_powerOf 3 (nI (hN (sH s))) (Z k m) = _ from M_pow (b := 3) (by omega) (by omega), zbd_s]
    have hcl := cnt_le (P := fun c => rHd (odE s c) = x) (3 ^ hN (sH s))
    refine lp_inv (N := 3 ^ hN (sH s)) (I := fun c t h => ∃ m2, t = (nI (cnt (fun c => rHd (odE s c) = x) c), nI c) ∧ h = Z k m2 ∧ MS s k m2 ∧ zFw m m2) (Q := fun r => ∃ k' m', r = some (nI (cnt (fun c => rHd (odE s c) = x) (3 ^ hN (sH s))), Z k' m') ∧ MS (sFr (cnt (fun c => rHd (odE s c) = x) (3 ^ hN (sH s))) (3 ^ hN (sH s)) s) k' m' ∧ zfM k m k' m') ?_ ?_ (3 ^ hN (sH s)) 0 2000 _ (Z k m) (by omega) (by omega) ⟨m, rfl, rfl, hM, zFw.rf⟩
    · rintro c t h hc ⟨m2, rfl, rfl, h1, h2⟩
      left
      obtain ⟨m3, r1, r2, r3, r4, r5⟩ := M_layWhole hO h1
      obtain ⟨m4, q1, q2, q3, q4, q5⟩ := M_od41 (x := nI x) (v2 := nI (3 ^ hN (sH s))) (v3 := nI (cnt (fun c => rHd (odE s c) = x) c)) (v4 := nI c) hO r3 r4 r2 (show c < 1000 by omega)
      obtain ⟨m5, p1, p2, p3, p4, p5⟩ := M_endW hO q3 q4 q2 (okR_beg (stD9 hO) (odB_le hO))
      have p2' : encM 132 (sH s) (odE s c) m5 := p2
      have hh := rHd_le hN5 (odE_ok (code := c) hO)
      refine ⟨(nI (cnt (fun c => rHd (odE s c) = x) (c + 1)), nI (c + 1)), Z k m5, ⟨m5, rfl, rfl, p3, zFw.tr h2 (zFw.tr r5 (zFw.tr (zFw.wk q5) (zFw.wk p5)))⟩, fun rec => ?_⟩
      unfold lb_X5_odds_24
      dsimp only
      rw [ifLt hc (by omega), r1, zbd_s, q1]
      unfold jn_X5_odds_93 jn_X5_odds_112
      rw [p1, zbd_s, M_v1 p4.2 (by omega), zbd_s, p2'.2.2.1, nA_1, nA_1]
      by_cases hcx : rHd (odE s c) = x
      · rw [ifEt hcx, cnt_t (P := fun c => rHd (odE s c) = x) hcx]
      · rw [ifEf hcx (by omega) (by omega), cnt_f (P := fun c => rHd (odE s c) = x) hcx, Int32.add_zero]
    · rintro t h ⟨m2, rfl, rfl, h1, h2⟩ rec
      obtain ⟨k', t1, t2, t3⟩ := M_tell (u := cnt (fun c => rHd (odE s c) = x) (3 ^ hN (sH s))) (l := 3 ^ hN (sH s)) (a := nI (cnt (fun c => rHd (odE s c) = x) (3 ^ hN (sH s)))) (by omega) (by omega) (by omega) h1
      refine ⟨k', m2, ?_, t2, zfM.tr h2.zfM t3⟩
      have t1' : dn_X5_fraction 81 (Int32.toInt64 (nI (cnt (fun c => rHd (odE s c) = x) (3 ^ hN (sH s))))) (Int32.toInt64 (nI (3 ^ hN (sH s)))) (nI (cnt (fun c => rHd (odE s c) = x) (3 ^ hN (sH s)))) (Z k m2) = some (_, Z k' m2) := t1
      unfold lb_X5_odds_24 jn_X5_odds_120
      dsimp only
      rw [ifLf (Nat.le_refl _) (by omega), t1', zbd_s]
  · rw [e]
    exact ⟨k, m, by rw [ifNo, ifb0], hM, zfM.rf⟩
theorem o_odds (x : Int32) : okG (g_odds x) := by
  intro s hO
  unfold g_odds
  cases h : ix x (hN (sH s)) with
  | none => exact hO
  | some j => exact hO
end
