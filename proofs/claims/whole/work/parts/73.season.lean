theorem stW_stW (W : zWr) (j n n' : Nat) (f f' : Nat → Int32) : stW (stW W j n f) j n' f' = stW W j n' f' := by
  unfold stW
  congr 1
  · funext r
    by_cases h : r = j <;> simp [h]
  · funext r
    by_cases h : r = j <;> simp [h]
section
variable {k k' : zK} {m m' : Nat → Nat → Int32} {s : zSt} {c : Nat} {H : zHD} {R : zRS}
theorem X_add {j z : Nat} {v : Int32} (hj : j < 6) (hz : z < 60) (e : m (40 + 2 * j) 1 = nI z) : dn_X3_add (40 + 2 * j) v (Z k m) = some ((), Z k (mu (mu m (40 + 2 * j + 1) z v) (40 + 2 * j) 1 (nI (z + 1)))) := by
  have hs := RW_s rwP_r hj
  have e' : mu m (40 + 2 * j + 1) z v (40 + 2 * j) 1 = nI z := by rw [mu_a _ _ _ _ (by omega)]; exact e
  unfold dn_X3_add jn_X3_add_39
  rw [ZO_3 hs, Option.bind_some, ZI_3_1 hs, Option.bind_some, e, if_neg (nIn0 (by omega)), Option.bind_some, ZA_3_0 hs, Option.bind_some, RW_ln rwP_r hj, Option.bind_some, ifLt hz (by omega), Option.bind_some, Option.bind_some, RW_w rwP_r hj hz, Option.bind_some, ZI_3_1 hs, Option.bind_some, e', nA_1, ZP_3_1 hs, Option.bind_some]
theorem X_fillFrom {j a n : Nat} {f : Nat → Int32} (hj : j < 6) (sa : shp a = 6) (na : a < 40 ∨ 51 < a) (hn : n ≤ 5) (hv : ∀ i, i < n → m a i = f i) : ∃ m', dn_X3_fillFrom (40 + 2 * j) a (nI n) (Z k m) = some ((), Z k m') ∧ m' (40 + 2 * j) 1 = nI n ∧ (∀ i, i < n → m' (40 + 2 * j + 1) i = f i) ∧ ∀ b, b ≠ 40 + 2 * j → b ≠ 40 + 2 * j + 1 → m' b = m b := by
  have hs := RW_s rwP_r hj
  obtain ⟨m1, r1, r2, r3, r4⟩ := X_renew (k := k) (m := m) (n := 0) (v := 0) rwP_r hj
  unfold dn_X3_fillFrom
  rw [ZO_3 hs, Option.bind_some, r1, zbd_s]
  refine lp_inv (N := n) (I := fun i t h => ∃ m2, t = nI i ∧ h = Z k m2 ∧ m2 (40 + 2 * j) 1 = nI i ∧ (∀ q, q < i → m2 (40 + 2 * j + 1) q = f q) ∧ ∀ b, b ≠ 40 + 2 * j → b ≠ 40 + 2 * j + 1 → m2 b = m b) (Q := fun r => ∃ m', r = some ((), Z k m') ∧ m' (40 + 2 * j) 1 = nI n ∧ (∀ i, i < n → m' (40 + 2 * j + 1) i = f i) ∧ ∀ b, b ≠ 40 + 2 * j → b ≠ 40 + 2 * j + 1 → m' b = m b) ?_ ?_ n 0 2000 _ _ (by omega) (by omega) ⟨m1, rfl, rfl, r2, fun q hq => by omega, r4⟩
  · rintro i t h hi ⟨m2, rfl, rfl, h1, h2, h3⟩
    left
    refine ⟨nI (i + 1), Z k (mu (mu m2 (40 + 2 * j + 1) i (f i)) (40 + 2 * j) 1 (nI (i + 1))), ⟨_, rfl, rfl, mu_s _ _ _ _, fun q hq => ?_, fun b b1 b2 => by rw [mu_ar _ _ _ b1, mu_ar _ _ _ b2]; exact h3 b b1 b2⟩, fun rec => ?_⟩
    · rw [mu_a _ _ _ _ (by omega)]
      by_cases hqi : q = i
      · subst hqi; rw [mu_s]
      · rw [mu_j _ _ hqi]; exact h2 q (by omega)
    · have ea : m2 a i = f i := by rw [h3 a (by omega) (by omega)]; exact hv i hi
      unfold lb_X3_fillFrom_8
      rw [ifLt hi (by omega), Zln (by omega) (by omega) (by rw [sa]; rfl), Option.bind_some, sa, show nI (zal 6).2 = nI 5 from rfl, ifLt (by omega) (by omega), Zl5 sa (by omega), Option.bind_some, ea, X_add hj (by omega) h1, zbd_s, nA_1]
  · rintro t h ⟨m2, rfl, rfl, h1, h2, h3⟩ rec
    refine ⟨m2, ?_, h1, h2, h3⟩
    unfold lb_X3_fillFrom_8 jn_X3_fillFrom_32
    rw [ifLf (Nat.le_refl _) (by omega)]
/-! lots -/
def qs (seed : Nat) : Nat → Nat
  | 0 => seed
  | j + 1 => qs seed j * 48271 % 2147483647
theorem qs_lt {seed : Nat} (h : seed < 2147483647) : ∀ j, qs seed j < 2147483647
  | 0 => h
  | j + 1 => Nat.mod_lt _ (by omega)
theorem lI_lot {q : Nat} (hq : q < 2147483647) : (lI q * 48271) % 2147483647 = lI (q * 48271 % 2147483647) := by
  have h1 : q * 48271 % 2147483647 < 2147483647 := Nat.mod_lt _ (by omega)
  rw [← Int64.toInt_inj, Int64.toInt_mod, Int64.toInt_mul, lI_toInt (by omega), lI_toInt (by omega), show (48271 : Int64).toInt = 48271 by decide, show (2147483647 : Int64).toInt = 2147483647 by decide, Int.bmod_eq_of_le (by omega) (by omega)]
  exact (Int.ofNat_tmod (q * 48271) 2147483647).symm
theorem lI_lot3 {q : Nat} (hq : q < 2147483647) : Int64.toInt32 (lI q % 3) = nI (q % 3) := by
  rw [show (3 : Int64) = lI 3 by decide, lI_mod (by omega) (by omega)]
  unfold lI
  exact Int32.toInt32_toInt64 _
def seB (s : zSt) (seed d : Nat) (i : Nat) : Nat := btS (sB s i) (qs seed (d * hN (sH s) + i + 1) % 3)
noncomputable def seE (s : zSt) (seed d : Nat) : zRS := enS (sH s) (sLw s) (begS (sH s) (sD s) (seB s seed d))
theorem seB_le {seed d : Nat} (hO : okS s) : ∀ i, i < hN (sH s) → 1 ≤ seB s seed d i ∧ seB s seed d i ≤ 10 := fun i hi => btS_le (hO.2.2.2.2.1 i hi).1 (hO.2.2.2.2.1 i hi).2.1 (by omega)
theorem seE_ok {seed d : Nat} (hO : okS s) : okR (sH s) (seE s seed d) := enS_ok hO.2.2.2.1.1 (okR_beg (stD9 hO) (seB_le hO))
noncomputable def spN (s : zSt) (seed d i : Nat) : Nat := cnt (fun e => rHd (seE s seed e) = i) d
def moL (f : Nat → Nat) : Nat → Nat
  | 0 => 0
  | n + 1 => if f (moL f n) < f (n + 1) then n + 1 else moL f n
theorem moL_le (f : Nat → Nat) : ∀ n, moL f n ≤ n
  | 0 => Nat.le_refl _
  | n + 1 => by
    have := moL_le f n
    rw [moL]
    split <;> omega
noncomputable def g_season (n seed r : Int32) (s : zSt) : Int32 × zSt := match ir n 1 40 with
  | none => (-1, s)
  | some n => match ir seed 1 2147483646 with
    | none => (-1, s)
    | some seed => match ix r 6 with
      | none => (-1, s)
      | some j => if hN (sH s) = 0 then (-4, s) else (nI (moL (spN s seed n) (hN (sH s) - 1)), sWs (stW (sW s) j (hN (sH s)) (fun i => nI (spN s seed n i))) s)
theorem X_se69 {v1 v3 v6 : Int32} {seed d : Nat} (hO : okS s) (hX : XS s k m) (hseed : seed < 2147483647) : ∃ m', (∀ kc, lp_X4_season_69 kc 2 v1 v3 v6 (lI (qs seed (d * hN (sH s))), 0) (Z k m) = jn_X4_season_119 kc 2 v1 v3 (lI (qs seed ((d + 1) * hN (sH s)))) v6 (Z k m')) ∧ XS s k m' ∧ (∀ i, i < hN (sH s) → m' 37 i = nI (seB s seed d i)) ∧ ∀ a, a ≠ 37 → m' a = m a := by
  have hOH := hO.2.2.2.1.1
  have hN5 := hOH.2.1
  unfold lp_X4_season_69
  refine lp_invK (f := fun kc => lb_X4_season_69 kc 2 v1 v3 v6) (N := hN (sH s)) (I := fun i t h => ∃ m2, t = (lI (qs seed (d * hN (sH s) + i)), nI i) ∧ h = Z k m2 ∧ XS s k m2 ∧ (∀ j, j < i → m2 37 j = nI (seB s seed d j)) ∧ ∀ a, a ≠ 37 → m2 a = m a) (P := fun r => ∃ m', (∀ kc, r kc = jn_X4_season_119 kc 2 v1 v3 (lI (qs seed ((d + 1) * hN (sH s)))) v6 (Z k m')) ∧ XS s k m' ∧ (∀ i, i < hN (sH s) → m' 37 i = nI (seB s seed d i)) ∧ ∀ a, a ≠ 37 → m' a = m a) ?_ ?_ (hN (sH s)) 0 2000 _ _ (by omega) (by omega) ⟨m, rfl, rfl, hX, fun j hj => by omega, fun _ _ => rfl⟩
  · rintro i t h hi ⟨m2, rfl, rfl, h1, h2, h3⟩
    have hG := h1.2.2.2.1
    have hq := qs_lt hseed (d * hN (sH s) + i)
    have hq1 := qs_lt hseed (d * hN (sH s) + i + 1)
    refine ⟨(lI (qs seed (d * hN (sH s) + (i + 1))), nI (i + 1)), Z k (mu m2 37 i (nI (seB s seed d i))), ⟨_, rfl, rfl, h1.sc (fun a g1 g2 g3 => mu_ar _ _ _ (by omega)) (fun y hy => by rw [mu_ar _ _ _ (by omega)]; exact h1.2.2.2.2.2.2 y hy), fun j hj => ?_, fun a ha => by rw [mu_ar _ _ _ ha]; exact h3 a ha⟩, fun kc rec => ?_⟩
    · by_cases hji : j = i
      · subst hji; rw [mu_s]
      · rw [mu_j _ _ hji]; exact h2 j (by omega)
    · unfold lb_X4_season_69
      dsimp only
      rw [ZA_4_2 s2, Option.bind_some, ZI_0_2 hG.2.1.1, Option.bind_some, hG.2.1.2.2.1, ifLt hi (by omega), if_neg (by decide), ZA_4_15 s2, Option.bind_some, if_neg (by decide), lI_lot hq, show qs seed (d * hN (sH s) + i) * 48271 % 2147483647 = qs seed (d * hN (sH s) + i + 1) from rfl, lI_lot3 hq1, X_byLot hO h1 hi (by omega), zbd_s, Ms_37 (by omega), Option.bind_some, nA_1]
      rfl
  · rintro t h ⟨m2, rfl, rfl, h1, h2, h3⟩ rec
    have hG := h1.2.2.2.1
    refine ⟨m2, fun kc => ?_, h1, h2, h3⟩
    unfold lb_X4_season_69
    dsimp only
    rw [ZA_4_2 s2, Option.bind_some, ZI_0_2 hG.2.1.1, Option.bind_some, hG.2.1.2.2.1, ifLf (Nat.le_refl _) (by omega), Nat.succ_mul]
theorem x_season (n seed r : Int32) : okX (dn_X4_season 2 n seed r) (g_season n seed r) := by
  intro s k m hO hX hk
  have hOH := hO.2.2.2.1.1
  have hN5 := hOH.2.1
  have hG := hX.2.2.2.1
  have hkc := hG.1
  have s7 := shp_2 _ (shp_le (by have := hG.2.1.1; omega)) hG.2.1.1
  unfold dn_X4_season g_season jn_X4_season_30
  rw [ZO_4 s2, Option.bind_some]
  rcases ir_c n 1 40 (by omega) (by omega) with ⟨n, n1, n2, rfl, e1⟩ | ⟨e1, h0 | ⟨h0, h1⟩⟩
  · rw [e1, if_neg (fun z => by have := (nL_1 (by omega)).mp z; omega), jf_40 (by omega)]
    dsimp only
    rcases ir_c seed 1 2147483646 (by omega) (by omega) with ⟨seed, p1, p2, rfl, e2⟩ | ⟨e2, h0 | ⟨h0, h1⟩⟩
    · have hlt : nI seed < (2147483647 : Int32) := (nL (a := seed) (b := 2147483647) (by omega) (by omega)).mpr (by omega)
      rw [e2, if_neg (fun z => by have := (nL_1 (by omega)).mp z; omega), if_pos hlt, X_isRow, zbd_s]
      dsimp only
      cases h : ix r 6 with
      | none => exact ⟨k, m, by rw [ifNo, ifb0], hX, zfX.rf⟩
      | some j =>
        dsimp only
        obtain ⟨rfl, hj⟩ := ix_s (by omega) h
        rw [ifSo, ifb1, ZA_4_2 s2, Option.bind_some, ZI_0_2 hG.2.1.1, Option.bind_some, hG.2.1.2.2.1]
        by_cases hz : hN (sH s) = 0
        · rw [et_0 hz, if_pos hz]
          exact ⟨k, m, rfl, hX, zfX.rf⟩
        · rw [ef_0 hz (by omega), if_neg hz]
          obtain ⟨m1, f1, f2, f3⟩ := J_fill (k := k) (m := m) (b := 38) (L := 5) (v := 0) (by decide) (by decide) rfl rfl (by omega)
          have hX1 : XS s k m1 := hX.sc (fun a g1 g2 g3 => f3 a (by omega)) (fun y hy => by rw [f3 35 (by omega)]; exact hX.2.2.2.2.2.2 y hy)
          rw [ZA_4_16 s2, Option.bind_some, f1, zbd_s]
          have hcl := fun d i => cnt_le (P := fun e => rHd (seE s seed e) = i) d
          refine lp_inv (N := n) (I := fun d t h => ∃ m2, t = (lI (qs seed (d * hN (sH s))), nI d) ∧ h = Z k m2 ∧ XS s k m2 ∧ zfX k m k m2 ∧ ∀ i, i < 5 → m2 38 i = nI (spN s seed d i)) (Q := fun r => ∃ k' m', r = some (nI (moL (spN s seed n) (hN (sH s) - 1)), Z k' m') ∧ XS (sWs (stW (sW s) j (hN (sH s)) (fun i => nI (spN s seed n i))) s) k' m' ∧ zfX k m k' m') ?_ ?_ n 0 2000 _ _ (by omega) (by omega) ⟨m1, by rw [Nat.zero_mul]; rfl, rfl, hX1, zfX.of fun a ha => f3 a (by omega), fun i hi => by rw [f2 i hi]; rfl⟩
          · rintro d t h hd ⟨m2, rfl, rfl, h1, h2, h3⟩
            left
            obtain ⟨m3, r1, r2, r3, r4⟩ := X_se69 (v1 := nI n) (v3 := nI j) (v6 := nI d) (d := d) hO h1 (show seed < 2147483647 by omega)
            have hG3 := r2.2.2.2.1
            obtain ⟨m4, q1, q2, q3⟩ := X_runT (ah := kC k + 4) (ab := 37) (hd := sD s) (br := seB s seed d) hO r2 s7.2.2.2.1 rfl (by omega) (by omega) (stD9 hO) (seB_le hO) (fun i hi => ⟨(hG3.2.2 i hi).2, r3 i hi⟩)
            have q2' : encX 26 (sH s) (seE s seed d) m4 := q2
            have hh : rHd (seE s seed d) < hN (sH s) := hd_lt (x := 0) (by omega) (seE_ok hO)
            have hX4 := r2.t26 q3
            have hv : m4 38 (rHd (seE s seed d)) = nI (spN s seed d (rHd (seE s seed d))) := by rw [q3 38 (by omega), r4 38 (by omega)]; exact h3 _ (by omega)
            have h90 := hcl d (rHd (seE s seed d))
            refine ⟨(lI (qs seed ((d + 1) * hN (sH s))), nI (d + 1)), Z k (mu m4 38 (rHd (seE s seed d)) (nI (spN s seed d (rHd (seE s seed d)) + 1))), ⟨_, rfl, rfl, hX4.sc (fun a g1 g2 g3 => mu_ar _ _ _ (by omega)) (fun y hy => by rw [mu_ar _ _ _ (by omega)]; exact hX4.2.2.2.2.2.2 y hy), h2.tr0 fun a ha => by rw [mu_ar _ _ _ (by omega), q3 a (by omega), r4 a (by omega)], fun i hi => ?_⟩, fun rec => ?_⟩
            · unfold spN
              by_cases hih : i = rHd (seE s seed d)
              · subst hih
                rw [mu_s, cnt_t (P := fun e => rHd (seE s seed e) = rHd (seE s seed d)) rfl]
              · rw [mu_j _ _ hih, cnt_f (P := fun e => rHd (seE s seed e) = i) (fun z => hih z.symm), q3 38 (by omega), r4 38 (by omega)]
                exact h3 i hi
            · unfold lb_X4_season_60
              dsimp only
              rw [ifLt hd (by omega), r1]
              unfold jn_X4_season_119
              rw [ZA_4_2 s2, Option.bind_some, ZA_0_5 hG.2.1.1, Option.bind_some, ZA_4_15 s2, Option.bind_some, q1, zbd_s, ZA_4_16 s2, Option.bind_some, ZA_4_5 s2, Option.bind_some, ZI_1_3 rfl, Option.bind_some, q2'.2.2.2.2.1, Ml_38 (by omega), Option.bind_some, hv, nA_1, Ms_38 (by omega), Option.bind_some, nA_1]
          · rintro t h ⟨m2, rfl, rfl, h1, h2, h3⟩ rec
            have hG2 := h1.2.2.2.1
            obtain ⟨m3, u1, u2, u3, u4⟩ := X_fillFrom (k := k) (m := m2) (a := 38) (n := hN (sH s)) (f := fun i => nI (spN s seed n i)) hj rfl (by omega) hN5 (fun i hi => h3 i (by omega))
            have hX3 := h1.w (zXQ.st h1.2.1 hj u2 u3 fun r' g1 g2 => ⟨u4 _ (by omega) (by omega), u4 _ (by omega) (by omega)⟩) (fun a g1 g2 => u4 a (by omega) (by omega))
            refine ⟨k, m3, ?_, hX3, h2.tr0 fun a ha => u4 a (by omega) (by omega)⟩
            have h38 : ∀ i, i < 5 → m3 38 i = nI (spN s seed n i) := fun i hi => by rw [u4 38 (by omega) (by omega)]; exact h3 i hi
            have hH3 : encH (kC k) (sH s) m3 := hX3.2.2.2.1.2.1
            unfold lb_X4_season_60 jn_X4_season_156
            dsimp only
            rw [ifLf (Nat.le_refl _) (by omega), ZA_4_0 s2, Option.bind_some, RW_r rwP_r hj, Option.bind_some, ZA_4_16 s2, Option.bind_some, ZA_4_2 s2, Option.bind_some, ZI_0_2 hG2.2.1.1, Option.bind_some, hG2.2.1.2.2.1, u1, zbd_s]
            unfold lp_X4_season_182
            refine lp_fn (N := hN (sH s) - 1) (fun x => (nI (moL (spN s seed n) x), nI (x + 1))) (fun _ => Z k m3) (fun x hx rec => ?_) (fun rec => ?_) (by omega)
            · have hl := moL_le (spN s seed n) x
              have c1 := hcl n (x + 1)
              have c2 := hcl n (moL (spN s seed n) x)
              have c1' : spN s seed n (x + 1) ≤ n := c1
              have c2' : spN s seed n (moL (spN s seed n) x) ≤ n := c2
              unfold lb_X4_season_182 jn_X4_season_215
              dsimp only
              rw [ZA_4_2 s2, Option.bind_some, ZI_0_2 hH3.1, Option.bind_some, hH3.2.2.1, ifLt (by omega) (by omega), ZA_4_16 s2, Option.bind_some, Ml_38 (by omega), Option.bind_some, h38 _ (by omega), Option.bind_some, Ml_38 (by omega), Option.bind_some, h38 _ (by omega), nA_1, moL]
              by_cases hlt : spN s seed n (moL (spN s seed n) x) < spN s seed n (x + 1)
              · rw [ifLt hlt (by omega), if_pos hlt]
              · rw [ifLf (by omega) (by omega), if_neg hlt]
            · unfold lb_X4_season_182 jn_X4_season_221
              dsimp only
              rw [ZA_4_2 s2, Option.bind_some, ZI_0_2 hH3.1, Option.bind_some, hH3.2.2.1, ifLf (by omega) (by omega)]
    · rw [e2]
      have h0' : seed < 1 := h0
      exact ⟨k, m, by rw [if_pos h0'], hX, zfX.rf⟩
    · rw [e2]
      have h0' : ¬ seed < 1 := h0
      have h1' : ¬ seed < 2147483647 := fun z => by
        have b1 := Int32.le_toInt seed
        have b2 := Int32.toInt_lt seed
        rw [I32_iI seed, iI_nI, iI_lt (by omega) (by omega) b1 (by omega)] at h1
        rw [I32_iI seed, show (2147483647 : Int32) = iI 2147483647 by decide, iI_lt b1 (by omega) (by omega) (by omega)] at z
        omega
      exact ⟨k, m, by rw [if_neg h0', if_neg h1'], hX, zfX.rf⟩
  · rw [e1]
    have h0' : n < 1 := h0
    exact ⟨k, m, by rw [if_pos h0'], hX, zfX.rf⟩
  · rw [e1]
    have h0' : ¬ n < 1 := h0
    have h1' : 40 < n := h1
    exact ⟨k, m, by rw [if_neg h0', if_pos h1'], hX, zfX.rf⟩
end
