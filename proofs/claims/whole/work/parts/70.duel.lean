/-! of each four the least, the most -/
def amnL (f : Nat → Nat) (j : Nat) : Nat → Nat
  | 0 => 0
  | i + 1 => if f (4 * j + (i + 1)) < f (4 * j + amnL f j i) then i + 1 else amnL f j i
def amxL (f : Nat → Nat) (j : Nat) : Nat → Nat
  | 0 => 0
  | i + 1 => if f (4 * j + amxL f j i) < f (4 * j + (i + 1)) then i + 1 else amxL f j i
theorem amnL_le (f : Nat → Nat) (j : Nat) : ∀ i, amnL f j i ≤ i := by
  intro i
  induction i with
  | zero => exact Nat.le_refl _
  | succ i ih => rw [amnL]; split <;> omega
theorem amxL_le (f : Nat → Nat) (j : Nat) : ∀ i, amxL f j i ≤ i := by
  intro i
  induction i with
  | zero => exact Nat.le_refl _
  | succ i ih => rw [amxL]; split <;> omega
def amn (f : Nat → Nat) (j : Nat) : Nat := amnL f j 3
def amx (f : Nat → Nat) (j : Nat) : Nat := amxL f j 3
def mnF (f : Nat → Nat) (j : Nat) : Nat := f (4 * j + amn f j)
def mxF (f : Nat → Nat) (j : Nat) : Nat := f (4 * j + amx f j)
theorem nR2 {a : Nat} (ha : a < 2 ^ 31) : nI a % 2 = nI (a % 2) := nMod (d := 2) ha (by omega) (by omega)
theorem nD16 {a : Nat} (ha : a < 2 ^ 31) : nI a / 16 = nI (a / 16) := nDiv (d := 16) ha (by omega) (by omega)
section
variable {k k' : zK} {m m' : Nat → Nat → Int32} {s : zSt} {c : Nat} {H : zHD} {R : zRS} {f : Nat → Nat}
theorem X_pol {j : Nat} (hj : j < 64) (hf : ∀ i, f i ≤ 2) (hm : ∀ i, i < 4 → m 39 (4 * j + i) = nI (f (4 * j + i))) : dn_X4_placeOfLeast 2 (nI (4 * j)) (Z k m) = some (nI (amn f j), Z k m) := by
  unfold dn_X4_placeOfLeast lp_X4_placeOfLeast_4
  rw [ZO_4 s2, Option.bind_some]
  refine lp_fn (N := 3) (fun x => (nI (amnL f j x), nI (x + 1))) (fun _ => Z k m) (fun x hx rec => ?_) (fun rec => ?_) (by omega)
  · have hl := amnL_le f j x
    have f1 := hf (4 * j + (x + 1))
    have f2 := hf (4 * j + amnL f j x)
    unfold lb_X4_placeOfLeast_4 jn_X4_placeOfLeast_30
    try dsimp only
    rw [it_4 (by omega), ZA_4_17 s2, Option.bind_some, nI_add, Ml_39 (by omega), Option.bind_some, hm (x + 1) (by omega), Option.bind_some, nI_add, Ml_39 (by omega), Option.bind_some, hm _ (by omega), nA_1, amnL]
    by_cases h : f (4 * j + (x + 1)) < f (4 * j + amnL f j x)
    · rw [ifLt h (by omega), if_pos h]
    · rw [ifLf (by omega) (by omega), if_neg h]
  · unfold lb_X4_placeOfLeast_4 jn_X4_placeOfLeast_36
    try dsimp only
    rw [if_neg (by decide)]
    rfl
theorem X_pom {j : Nat} (hj : j < 64) (hf : ∀ i, f i ≤ 2) (hm : ∀ i, i < 4 → m 39 (4 * j + i) = nI (f (4 * j + i))) : dn_X4_placeOfMost 2 (nI (4 * j)) (Z k m) = some (nI (amx f j), Z k m) := by
  unfold dn_X4_placeOfMost lp_X4_placeOfMost_4
  rw [ZO_4 s2, Option.bind_some]
  refine lp_fn (N := 3) (fun x => (nI (amxL f j x), nI (x + 1))) (fun _ => Z k m) (fun x hx rec => ?_) (fun rec => ?_) (by omega)
  · have hl := amxL_le f j x
    have f1 := hf (4 * j + (x + 1))
    have f2 := hf (4 * j + amxL f j x)
    unfold lb_X4_placeOfMost_4 jn_X4_placeOfMost_30
    try dsimp only
    rw [it_4 (by omega), ZA_4_17 s2, Option.bind_some, nI_add, Ml_39 (by omega), Option.bind_some, hm (x + 1) (by omega), Option.bind_some, nI_add, Ml_39 (by omega), Option.bind_some, hm _ (by omega), nA_1, amxL]
    by_cases h : f (4 * j + amxL f j x) < f (4 * j + (x + 1))
    · rw [ifLt h (by omega), if_pos h]
    · rw [ifLf (by omega) (by omega), if_neg h]
  · unfold lb_X4_placeOfMost_4 jn_X4_placeOfMost_36
    try dsimp only
    rw [if_neg (by decide)]
    rfl
theorem mnF_le (hf : ∀ i, f i ≤ 2) (i : Nat) : mnF f i ≤ 2 := hf _
theorem mxF_le (hf : ∀ i, f i ≤ 2) (i : Nat) : mxF f i ≤ 2 := hf _
theorem X_round {n v : Nat} {v2 : Int32} {kc : Int32 × Int32 → zAH → Option (Int32 × zAH)} (hn : n ≤ 16) (hn1 : 1 ≤ n) (hf : ∀ i, f i ≤ 2) (hm : ∀ i, i < 16 * n → m 39 i = nI (f i)) : ∃ m', lp_X4_settleDuel_13 kc 2 v2 (nI (16 * n)) 0 (Z k m) = kc (nI (amx (mnF f) (n - 1)), nI n) (Z k m') ∧ (∀ i, i < n → m' 39 i = nI (mxF (mnF f) i)) ∧ ∀ a, a ≠ 39 → m' a = m a := by
  -- the least
  have h13 : ∃ m1, lp_X4_settleDuel_13 kc 2 v2 (nI (16 * n)) 0 (Z k m) = jn_X4_settleDuel_52 kc 2 v2 (nI (16 * n)) (Z k m1) ∧ (∀ i, i < 4 * n → m1 39 i = nI (mnF f i)) ∧ ∀ a, a ≠ 39 → m1 a = m a := by
    unfold lp_X4_settleDuel_13
    refine lp_inv (N := 4 * n) (I := fun j t h => ∃ m1, t = nI j ∧ h = Z k m1 ∧ (∀ i, i < j → m1 39 i = nI (mnF f i)) ∧ (∀ i, j ≤ i → i < 16 * n → m1 39 i = nI (f i)) ∧ ∀ a, a ≠ 39 → m1 a = m a) (Q := fun r => ∃ m1, r = jn_X4_settleDuel_52 kc 2 v2 (nI (16 * n)) (Z k m1) ∧ (∀ i, i < 4 * n → m1 39 i = nI (mnF f i)) ∧ ∀ a, a ≠ 39 → m1 a = m a) ?_ ?_ (4 * n) 0 2000 _ (Z k m) (by omega) (by omega) ⟨m, rfl, rfl, fun i hi => by omega, fun i _ hi => hm i hi, fun _ _ => rfl⟩
    · rintro j t h hj ⟨m1, rfl, rfl, h1, h2, h3⟩
      left
      have hl : amn f j ≤ 3 := amnL_le f j 3
      refine ⟨nI (j + 1), Z k (mu m1 39 j (nI (mnF f j))), ⟨_, rfl, rfl, fun i hi => ?_, fun i h4 h5 => by rw [mu_j _ _ (by omega)]; exact h2 i (by omega) h5, fun a ha => by rw [mu_ar _ _ _ ha]; exact h3 a ha⟩, fun rec => ?_⟩
      · by_cases hij : i = j
        · subst hij; rw [mu_s]
        · rw [mu_j _ _ hij]; exact h1 i (by omega)
      · unfold lb_X4_settleDuel_13
        try dsimp only
        rw [if_neg (by decide), nD4 (by omega), show 16 * n / 4 = 4 * n by omega, ifLt hj (by omega), ZA_4_17 s2, Option.bind_some, Option.bind_some, nM_4, X_pol (by omega) hf (fun i hi => h2 _ (by omega) (by omega)), zbd_s, nI_add, Ml_39 (by omega), Option.bind_some, h2 _ (by omega) (by omega), Ms_39 (by omega), Option.bind_some, nA_1]
        rfl
    · rintro t h ⟨m1, rfl, rfl, h1, h2, h3⟩ rec
      refine ⟨m1, ?_, h1, h3⟩
      unfold lb_X4_settleDuel_13
      try dsimp only
      rw [if_neg (by decide), nD4 (by omega), show 16 * n / 4 = 4 * n by omega, ifLf (Nat.le_refl _) (by omega)]
  obtain ⟨m1, r1, r2, r3⟩ := h13
  rw [r1]
  unfold jn_X4_settleDuel_52 lp_X4_settleDuel_55
  refine lp_inv (N := n) (I := fun j t h => ∃ m2, (t.2 = nI j ∧ (0 < j → t.1 = nI (amx (mnF f) (j - 1)))) ∧ h = Z k m2 ∧ (∀ i, i < j → m2 39 i = nI (mxF (mnF f) i)) ∧ (∀ i, j ≤ i → i < 4 * n → m2 39 i = nI (mnF f i)) ∧ ∀ a, a ≠ 39 → m2 a = m a) (Q := fun r => ∃ m', r = kc (nI (amx (mnF f) (n - 1)), nI n) (Z k m') ∧ (∀ i, i < n → m' 39 i = nI (mxF (mnF f) i)) ∧ ∀ a, a ≠ 39 → m' a = m a) ?_ ?_ n 0 2000 _ (Z k m1) (by omega) (by omega) ⟨m1, ⟨rfl, fun z => by omega⟩, rfl, fun i hi => by omega, fun i _ hi => r2 i hi, r3⟩
  · rintro j ⟨t1, t2⟩ h hj ⟨m2, ⟨rfl, ht⟩, rfl, h1, h2, h3⟩
    left
    have hl : amx (mnF f) j ≤ 3 := amxL_le (mnF f) j 3
    refine ⟨(nI (amx (mnF f) j), nI (j + 1)), Z k (mu m2 39 j (nI (mxF (mnF f) j))), ⟨_, ⟨rfl, fun _ => by rw [Nat.add_sub_cancel]⟩, rfl, fun i hi => ?_, fun i h4 h5 => by rw [mu_j _ _ (by omega)]; exact h2 i (by omega) h5, fun a ha => by rw [mu_ar _ _ _ ha]; exact h3 a ha⟩, fun rec => ?_⟩
    · by_cases hij : i = j
      · subst hij; rw [mu_s]
      · rw [mu_j _ _ hij]; exact h1 i (by omega)
    · unfold lb_X4_settleDuel_55
      try dsimp only
      rw [if_neg (by decide), nD16 (by omega), show 16 * n / 16 = n by omega, ifLt hj (by omega), nM_4, X_pom (by omega) (mnF_le hf) (fun i hi => h2 _ (by omega) (by omega)), zbd_s, ZA_4_17 s2, Option.bind_some, Option.bind_some, nI_add, Ml_39 (by omega), Option.bind_some, h2 _ (by omega) (by omega), Ms_39 (by omega), Option.bind_some, nA_1]
      rfl
  · rintro ⟨t1, t2⟩ h ⟨m2, ⟨rfl, ht⟩, rfl, h1, h2, h3⟩ rec
    refine ⟨m2, ?_, h1, h3⟩
    have ht' : t1 = nI (amx (mnF f) (n - 1)) := ht (by omega)
    unfold lb_X4_settleDuel_55 jn_X4_settleDuel_97
    try dsimp only
    rw [if_neg (by decide), nD16 (by omega), show 16 * n / 16 = n by omega, ifLf (Nat.le_refl _) (by omega), if_neg (by decide), ht']
noncomputable def wdS (s : zSt) (x y kk code : Nat) : Nat := if rHd (ch2 s x y kk code) = y then 2 else if rHd (ch2 s x y kk code) = x then 0 else 1
theorem wdS_le {x y kk : Nat} : ∀ i, wdS s x y kk i ≤ 2 := fun i => by unfold wdS; split; omega; split <;> omega
/-- what it comes to, and the first PACE -/
noncomputable def dlV (s : zSt) (x y kk : Nat) : Nat := if kk = 0 then wdS s x y kk 0 else if kk = 1 then mxF (mnF (wdS s x y kk)) 0 else mxF (mnF (mxF (mnF (wdS s x y kk)))) 0
noncomputable def dlP (s : zSt) (x y kk : Nat) : Int32 := if kk = 0 then -9 else if kk = 1 then nI (amx (mnF (wdS s x y kk)) 0) else nI (amx (mnF (mxF (mnF (wdS s x y kk)))) 0)
noncomputable def g_duel (x y r : Int32) (s : zSt) : Int32 × zSt := match ix x (hN (sH s)) with
  | none => (-1, s)
  | some x => match ix y (hN (sH s)) with
    | none => (-1, s)
    | some y => if x = y then (-1, s) else match ir r 0 2 with
      | none => (-1, s)
      | some kk => (nI (dlV s x y kk), sAk (dlP s x y kk) s)
theorem X_settle {x y kk : Nat} (hkk : kk ≤ 2) (hm : ∀ i, i < 4 ^ (2 * kk) → m 39 i = nI (wdS s x y kk i)) : ∃ m', dn_X4_settleDuel 2 (nI (4 ^ (2 * kk))) (Z k m) = some (dlP s x y kk, Z k m') ∧ m' 39 0 = nI (dlV s x y kk) ∧ ∀ a, a ≠ 39 → m' a = m a := by
  have hend : ∀ v F (h : zAH), 0 < F → zlp (lb_X4_settleDuel_5 2) F (v, nI 1) h = some (v, h) := by
    intro v F h hF
    obtain ⟨g, rfl⟩ : ∃ g, F = g + 1 := ⟨F - 1, by omega⟩
    rw [zlp_s]
    unfold lb_X4_settleDuel_5 jn_X4_settleDuel_105
    dsimp only
    rw [if_neg (by decide)]
  have hstep : ∀ v n F G (h : zAH), F = G + 1 → 1 ≤ n → n ≤ 16 → zlp (lb_X4_settleDuel_5 2) F (v, nI (16 * n)) h = lp_X4_settleDuel_13 (zlp (lb_X4_settleDuel_5 2) G) 2 v (nI (16 * n)) 0 h := by
    intro v n F G h hF h1 h2
    subst hF
    rw [zlp_s]
    show (if 1 < nI (16 * n) then _ else _) = _
    rw [jt_1 (by omega) (by omega)]
  unfold dn_X4_settleDuel lp_X4_settleDuel_5
  rw [ZO_4 s2, Option.bind_some]
  unfold dlP dlV
  rcases (show kk = 0 ∨ kk = 1 ∨ kk = 2 by omega) with hk | hk | hk
  · subst hk
    have e : (4 : Nat) ^ (2 * 0) = 1 := by decide
    rw [e] at hm ⊢
    rw [hend _ 2000 _ (by omega), if_pos rfl, if_pos rfl]
    exact ⟨m, rfl, hm 0 (by omega), fun _ _ => rfl⟩
  · subst hk
    have e : (4 : Nat) ^ (2 * 1) = 16 * 1 := by decide
    rw [e] at hm ⊢
    obtain ⟨m1, r1, r2, r3⟩ := X_round (k := k) (n := 1) (v := 0) (v2 := -9) (kc := zlp (lb_X4_settleDuel_5 2) 1999) (by omega) (by omega) wdS_le hm
    rw [hstep _ 1 2000 1999 _ (by omega) (by omega) (by omega), r1, hend _ 1999 _ (by omega), if_neg (by omega), if_pos rfl, if_neg (by omega), if_pos rfl]
    exact ⟨m1, rfl, r2 0 (by omega), r3⟩
  · subst hk
    have e : (4 : Nat) ^ (2 * 2) = 16 * 16 := by decide
    rw [e] at hm ⊢
    obtain ⟨m1, r1, r2, r3⟩ := X_round (k := k) (n := 16) (v := 0) (v2 := -9) (kc := zlp (lb_X4_settleDuel_5 2) 1999) (by omega) (by omega) wdS_le hm
    have r2' : ∀ i, i < 16 * 1 → m1 39 i = nI (mxF (mnF (wdS s x y 2)) i) := fun i hi => r2 i (by omega)
    obtain ⟨m2, q1, q2, q3⟩ := X_round (k := k) (n := 1) (v := 0) (v2 := nI (amx (mnF (wdS s x y 2)) (16 - 1))) (kc := zlp (lb_X4_settleDuel_5 2) 1998) (by omega) (by omega) (mxF_le (mnF_le wdS_le)) r2'
    have e16 : nI 16 = nI (16 * 1) := rfl
    rw [hstep _ 16 2000 1999 _ (by omega) (by omega) (by omega), r1, e16, hstep _ 1 1999 1998 _ (by omega) (by omega) (by omega), q1, hend _ 1998 _ (by omega), if_neg (by omega), if_neg (by omega), if_neg (by omega), if_neg (by omega)]
    exact ⟨m2, rfl, q2 0 (by omega), fun a ha => (q3 a ha).trans (r3 a ha)⟩
theorem x_duel (x y r : Int32) : okX (dn_X4_duel 2 x y r) (g_duel x y r) := by
  intro s k m hO hX hk
  have hOH := hO.2.2.2.1.1
  have hN5 := hOH.2.1
  unfold dn_X4_duel g_duel jn_X4_duel_30
  rw [ZO_4 s2, Option.bind_some, X_isRunner hN5 hX, zbd_s]
  rcases ix_c x (hN (sH s)) (by omega) with ⟨a, ha, rfl, e⟩ | ⟨e, -⟩
  · rw [e, ifSo, ifb1, X_isRunner hN5 hX, zbd_s]
    try dsimp only
    rcases ix_c y (hN (sH s)) (by omega) with ⟨b, hb, rfl, e'⟩ | ⟨e', -⟩
    · rw [e', ifSo, ifb1]
      try dsimp only
      by_cases hab : a = b
      · rw [ifEt hab, if_pos hab]
        exact ⟨k, m, rfl, hX, zfX.rf⟩
      · rw [ifEf hab (by omega) (by omega), if_neg hab]
        rcases ir_c r 0 2 (by omega) (by omega) with ⟨kk, k1, k2, rfl, e''⟩ | ⟨e'', h0 | ⟨h0, h1⟩⟩
        · have hp := pow42 k2
          rw [e'', if_neg (nIn0 (by omega)), jf_2 (by omega), nM_2, X_pow4 (by omega), zbd_s]
          try dsimp only
          refine lp_inv (N := 4 ^ (2 * kk)) (I := fun c t h => ∃ m2, t = nI c ∧ h = Z k m2 ∧ XS s k m2 ∧ zfX k m k m2 ∧ ∀ i, i < c → m2 39 i = nI (wdS s a b kk i)) (Q := fun r => ∃ k' m', r = some (nI (dlV s a b kk), Z k' m') ∧ XS (sAk (dlP s a b kk) s) k' m' ∧ zfX k m k' m') ?_ ?_ (4 ^ (2 * kk)) 0 2000 _ (Z k m) (by omega) (by omega) ⟨m, rfl, rfl, hX, zfX.rf, fun i hi => by omega⟩
          · rintro c t h hc ⟨m2, rfl, rfl, h1, h2, h3⟩
            left
            obtain ⟨m3, r1, r2, r3, r4⟩ := X_try2 (code := c) hO h1 ha hb hab k2 (by omega)
            have hh := rHd_le hN5 (ch2_ok (x := a) (y := b) (kk := kk) (code := c) hO)
            have hX3 := h1.tc r3 r4
            refine ⟨nI (c + 1), Z k (mu m3 39 c (nI (wdS s a b kk c))), ⟨_, rfl, rfl, hX3.sc (fun q g1 g2 g3 => mu_ar _ _ _ (by omega)) (fun q hq => by rw [mu_ar _ _ _ (by omega)]; exact r4 q hq), h2.tr0 fun q hq => by rw [mu_ar _ _ _ (by omega)]; exact r3 q (by omega) (by omega), fun i hi => ?_⟩, fun rec => ?_⟩
            · by_cases hic : i = c
              · subst hic; rw [mu_s]
              · rw [mu_j _ _ hic, r3 39 (by omega) (by omega)]; exact h3 i (by omega)
            · unfold lb_X4_duel_43 jn_X4_duel_96
              try dsimp only
              rw [ifLt hc (by omega), r1, zbd_s, ZA_4_17 s2, Option.bind_some, ZA_4_5 s2, Option.bind_some, ZI_1_3 rfl, Option.bind_some, r2.2.2.2.2.1, nA_1]
              unfold wdS
              by_cases hb2 : rHd (ch2 s a b kk c) = b
              · rw [ifEt hb2, if_pos hb2, Ms_39 (by omega), Option.bind_some]
                rfl
              · rw [ifEf hb2 (by omega) (by omega), if_neg hb2, Option.bind_some, ZI_1_3 rfl, Option.bind_some, r2.2.2.2.2.1]
                by_cases ha2 : rHd (ch2 s a b kk c) = a
                · rw [ifEt ha2, if_pos ha2, Ms_39 (by omega), Option.bind_some]
                  rfl
                · rw [ifEf ha2 (by omega) (by omega), if_neg ha2, Ms_39 (by omega), Option.bind_some]
                  rfl
          · rintro t h ⟨m2, rfl, rfl, h1, h2, h3⟩ rec
            obtain ⟨m3, q1, q2, q3⟩ := X_settle (k := k) (s := s) k2 h3
            have hX3 : XS s k m3 := h1.sc (fun q g1 g2 g3 => q3 q (by omega)) (fun q hq => by rw [q3 35 (by omega)]; exact h1.2.2.2.2.2.2 q hq)
            obtain ⟨x1, x2⟩ := hX3.ak (dlP s a b kk)
            refine ⟨k, _, ?_, x1, (h2.tr0 (m2 := m3) fun q hq => q3 q (by omega)).tr0 x2.1⟩
            unfold lb_X4_duel_43 jn_X4_duel_103
            try dsimp only
            rw [ifLf (Nat.le_refl _) (by omega), q1, zbd_s, ZP_4_8 s2, Option.bind_some, ZA_4_17 s2, Option.bind_some, show zaI 0 39 0 (Z k (mu m3 2 8 (dlP s a b kk))) = _ from Ml_39 (j := 0) (by omega), Option.bind_some, mu_a _ _ _ _ (by omega), q2]
        · rw [e'']
          have h0' : r < 0 := h0
          exact ⟨k, m, by rw [if_pos h0'], hX, zfX.rf⟩
        · rw [e'']
          have h0' : ¬ r < 0 := h0
          have h1' : 2 < r := h1
          exact ⟨k, m, by rw [if_neg h0', if_pos h1'], hX, zfX.rf⟩
    · rw [e']
      exact ⟨k, m, by rw [ifNo, ifb0], hX, zfX.rf⟩
  · rw [e]
    exact ⟨k, m, by rw [ifNo, ifb0], hX, zfX.rf⟩
/-! the reference -/
def lvA (t : Nat) (f : Nat → Nat) (j i : Nat) : Nat := if t % 2 = 0 then amxL f j i else amnL f j i
def lvF (t : Nat) (f : Nat → Nat) (j : Nat) : Nat := if t % 2 = 0 then mxF f j else mnF f j
theorem lvA_le (t : Nat) (f : Nat → Nat) (j i : Nat) : lvA t f j i ≤ i := by
  unfold lvA
  split
  · exact amxL_le f j i
  · exact amnL_le f j i
theorem M_l160 {t n j : Nat} {v5 : Int32} {kc : Int32 × Int32 × Int32 → zAH → Option (Int32 × zAH)} {kd : Int32 × Int32 → zAH → Option (Int32 × zAH)} (ht : t ≤ 3) (hj : j < 64) (hf : ∀ i, f i ≤ 2) (hm : ∀ i, i < 4 → m 103 (4 * j + i) = nI (f (4 * j + i))) : lp_X5_duel_160 kc kd 81 (nI n) v5 (nI t) (nI j) (nI (f (4 * j)), 0, 1) (Z k m) = jn_X5_duel_250 kc kd 81 (nI n) v5 (nI t) (nI j) (nI (f (4 * j + lvA t f j 3))) (nI (lvA t f j 3)) (Z k m) := by
  unfold lp_X5_duel_160
  have h0 : lvA t f j 0 = 0 := Nat.le_zero.mp (lvA_le t f j 0)
  have hst : (nI (f (4 * j)), (0 : Int32), (1 : Int32)) = (fun x => (nI (f (4 * j + lvA t f j x)), nI (lvA t f j x), nI (x + 1))) 0 := by
    try dsimp only
    rw [h0]
    rfl
  rw [hst]
  refine lp_fn (N := 3) (fun x => (nI (f (4 * j + lvA t f j x)), nI (lvA t f j x), nI (x + 1))) (fun _ => Z k m) (fun x hx rec => ?_) (fun rec => ?_) (by omega)
  · have hl := lvA_le t f j x
    have f1 := hf (4 * j + (x + 1))
    have f2 := hf (4 * j + lvA t f j x)
    unfold lb_X5_duel_160 jn_X5_duel_214 jn_X5_duel_228 jn_X5_duel_242
    try dsimp only
    rw [it_4 (by omega), ZA_5_33 s81, Option.bind_some, nM_4, nI_add, Ml_103 (by omega), Option.bind_some, hm (x + 1) (by omega), if_neg (by decide), nR2 (by omega), nA_1]
    by_cases ht2 : t % 2 = 0
    · have ea : ∀ i, lvA t f j i = amxL f j i := fun i => if_pos ht2
      rw [et_0 ht2, ea, ea, amxL]
      rw [ea] at f2
      by_cases h : f (4 * j + amxL f j x) < f (4 * j + (x + 1))
      · rw [ifLt h (by omega), if_pos h, ifb1, ifb1]
      · rw [ifLf (by omega) (by omega), if_neg h, ifb0, ifb0]
    · have ea : ∀ i, lvA t f j i = amnL f j i := fun i => if_neg ht2
      rw [ef_0 ht2 (by omega), ea, ea, amnL]
      rw [ea] at f2
      by_cases h : f (4 * j + (x + 1)) < f (4 * j + amnL f j x)
      · rw [ifLt h (by omega), if_pos h, ifb1, ifb1]
      · rw [ifLf (by omega) (by omega), if_neg h, ifb0, ifb0]
  · unfold lb_X5_duel_160
    try dsimp only
    rw [if_neg (by decide)]
theorem lvF_e (t : Nat) (f : Nat → Nat) (j : Nat) : f (4 * j + lvA t f j 3) = lvF t f j := by
  unfold lvA lvF
  split <;> rfl
theorem M_turn {t n : Nat} {v : Int32} {kc : Int32 × Int32 × Int32 → zAH → Option (Int32 × zAH)} (ht : t ≤ 3) (hn : n ≤ 64) (hn1 : 1 ≤ n) (ht0 : t = 0 → n = 1) (hf : ∀ i, f i ≤ 2) (hm : ∀ i, i < 4 * n → m 103 i = nI (f i)) : ∃ m', lp_X5_duel_136 kc 81 (nI n) (nI t) (v, 0) (Z k m) = kc (nI n, (if t = 0 then nI (amx f 0) else v), nI t + (-1)) (Z k m') ∧ (∀ i, i < n → m' 103 i = nI (lvF t f i)) ∧ ∀ a, a ≠ 103 → m' a = m a := by
  unfold lp_X5_duel_136
  refine lp_inv (N := n) (I := fun j st h => ∃ m1, st = ((if j = 0 then v else if t = 0 then nI (amx f 0) else v), nI j) ∧ h = Z k m1 ∧ (∀ i, i < j → m1 103 i = nI (lvF t f i)) ∧ (∀ i, j ≤ i → i < 4 * n → m1 103 i = nI (f i)) ∧ ∀ a, a ≠ 103 → m1 a = m a) (Q := fun r => ∃ m', r = kc (nI n, (if t = 0 then nI (amx f 0) else v), nI t + (-1)) (Z k m') ∧ (∀ i, i < n → m' 103 i = nI (lvF t f i)) ∧ ∀ a, a ≠ 103 → m' a = m a) ?_ ?_ n 0 2000 _ (Z k m) (by omega) (by omega) ⟨m, rfl, rfl, fun i hi => by omega, fun i _ hi => hm i hi, fun _ _ => rfl⟩
  · rintro j st h hj ⟨m1, rfl, rfl, h1, h2, h3⟩
    left
    refine ⟨((if j + 1 = 0 then v else if t = 0 then nI (amx f 0) else v), nI (j + 1)), Z k (mu m1 103 j (nI (lvF t f j))), ⟨_, rfl, rfl, fun i hi => ?_, fun i h4 h5 => by rw [mu_j _ _ (by omega)]; exact h2 i (by omega) h5, fun a ha => by rw [mu_ar _ _ _ ha]; exact h3 a ha⟩, fun rec => ?_⟩
    · by_cases hij : i = j
      · subst hij; rw [mu_s]
      · rw [mu_j _ _ hij]; exact h1 i (by omega)
    · have h4 : m1 103 (4 * j) = nI (f (4 * j)) := h2 (4 * j) (by omega) (by omega)
      unfold lb_X5_duel_136
      try dsimp only
      rw [ifLt hj (by omega), ZA_5_33 s81, Option.bind_some, nM_4, Ml_103 (by omega), Option.bind_some, h4, M_l160 ht (by omega) hf (fun i hi => h2 _ (by omega) (by omega)), lvF_e t f j]
      unfold jn_X5_duel_250 jn_X5_duel_271
      rw [ZA_5_33 s81, Option.bind_some, Ms_103 (by omega), Option.bind_some, nA_1, if_neg (Nat.succ_ne_zero j)]
      by_cases h0 : t = 0
      · have hj0 : j = 0 := by have := ht0 h0; omega
        rw [et_0 h0, if_pos h0]
        subst h0 hj0
        rfl
      · rw [ef_0 h0 (by omega), if_neg h0]
        congr 2
        split <;> rfl
  · rintro st h ⟨m1, rfl, rfl, h1, h2, h3⟩ rec
    refine ⟨m1, ?_, h1, h3⟩
    unfold lb_X5_duel_136 jn_X5_duel_279
    try dsimp only
    rw [ifLf (Nat.le_refl _) (by omega), if_neg (by omega)]
theorem lvF_le {t : Nat} (hf : ∀ i, f i ≤ 2) (i : Nat) : lvF t f i ≤ 2 := by
  unfold lvF
  split
  · exact mxF_le hf i
  · exact mnF_le hf i
theorem M_settle {x y kk : Nat} (hkk : kk ≤ 2) (hm : ∀ i, i < 4 ^ (2 * kk) → m 103 i = nI (wdS s x y kk i)) : ∃ m', lp_X5_duel_122 81 (nI (4 ^ (2 * kk)), -9, 2 * nI kk - 1) (Z k m) = jn_X5_duel_285 81 (dlP s x y kk) (Z k m') ∧ m' 103 0 = nI (dlV s x y kk) ∧ ∀ a, a ≠ 103 → m' a = m a := by
  have hend : ∀ n v F (h : zAH), 0 < F → zlp (lb_X5_duel_122 81) F (n, v, -1) h = jn_X5_duel_285 81 v h := by
    intro n v F h hF
    obtain ⟨g, rfl⟩ : ∃ g, F = g + 1 := ⟨F - 1, by omega⟩
    rw [zlp_s]
    unfold lb_X5_duel_122
    dsimp only
    rw [if_pos (by decide)]
  have hstep : ∀ v n t F G (h : zAH), F = G + 1 → t ≤ 3 → n ≤ 64 → zlp (lb_X5_duel_122 81) F (nI (4 * n), v, nI t) h = lp_X5_duel_136 (zlp (lb_X5_duel_122 81) G) 81 (nI n) (nI t) (v, 0) h := by
    intro v n t F G h hF h1 h2
    subst hF
    have hb : ∀ rec, lb_X5_duel_122 81 rec (nI (4 * n), v, nI t) h = lp_X5_duel_136 rec 81 (nI n) (nI t) (v, 0) h := by
      intro rec
      unfold lb_X5_duel_122
      dsimp only
      rw [if_neg (nIn0 (by omega)), if_neg (by decide), nD4 (by omega), show 4 * n / 4 = n by omega]
    rw [zlp_s, hb]
  have l0 : ∀ f, lvF 0 f = mxF f := fun f => funext fun j => if_pos (by decide)
  have l1 : ∀ f, lvF 1 f = mnF f := fun f => funext fun j => if_neg (by decide)
  have l2 : ∀ f, lvF 2 f = mxF f := fun f => funext fun j => if_pos (by decide)
  have l3 : ∀ f, lvF 3 f = mnF f := fun f => funext fun j => if_neg (by decide)
  unfold lp_X5_duel_122 dlP dlV
  have t3 : nI 3 + (-1) = nI 2 := by decide
  have t2 : nI 2 + (-1) = nI 1 := by decide
  have t1 : nI 1 + (-1) = nI 0 := by decide
  have t0 : nI 0 + (-1) = -1 := by decide
  rcases (show kk = 0 ∨ kk = 1 ∨ kk = 2 by omega) with hk | hk | hk
  · subst hk
    have e : (4 : Nat) ^ (2 * 0) = 1 := by decide
    rw [e] at hm ⊢
    rw [show 2 * nI 0 - 1 = (-1 : Int32) by decide, hend _ _ 2000 _ (by omega), if_pos rfl, if_pos rfl]
    exact ⟨m, rfl, hm 0 (by omega), fun _ _ => rfl⟩
  · subst hk
    have e : (4 : Nat) ^ (2 * 1) = 4 * 4 := by decide
    rw [e] at hm ⊢
    obtain ⟨m1, r1, r2, r3⟩ := M_turn (k := k) (t := 1) (n := 4) (v := -9) (kc := zlp (lb_X5_duel_122 81) 1999) (by omega) (by omega) (by omega) (by omega) wdS_le hm
    rw [l1] at r2
    obtain ⟨m2, q1, q2, q3⟩ := M_turn (k := k) (t := 0) (n := 1) (v := -9) (kc := zlp (lb_X5_duel_122 81) 1998) (by omega) (by omega) (by omega) (by omega) (mnF_le wdS_le) (fun i hi => r2 i (by omega))
    rw [l0] at q2
    rw [show 2 * nI 1 - 1 = nI 1 by decide, hstep _ 4 1 2000 1999 _ (by omega) (by omega) (by omega), r1, t1, if_neg (by omega), show nI 4 = nI (4 * 1) from rfl, hstep _ 1 0 1999 1998 _ (by omega) (by omega) (by omega), q1, t0, hend _ _ 1998 _ (by omega), if_pos rfl, if_neg (by omega), if_pos rfl, if_neg (by omega), if_pos rfl]
    exact ⟨m2, rfl, q2 0 (by omega), fun a ha => (q3 a ha).trans (r3 a ha)⟩
  · subst hk
    have e : (4 : Nat) ^ (2 * 2) = 4 * 64 := by decide
    rw [e] at hm ⊢
    obtain ⟨m1, r1, r2, r3⟩ := M_turn (k := k) (t := 3) (n := 64) (v := -9) (kc := zlp (lb_X5_duel_122 81) 1999) (by omega) (by omega) (by omega) (by omega) wdS_le hm
    rw [l3] at r2
    obtain ⟨m2, q1, q2, q3⟩ := M_turn (k := k) (t := 2) (n := 16) (v := -9) (kc := zlp (lb_X5_duel_122 81) 1998) (by omega) (by omega) (by omega) (by omega) (mnF_le wdS_le) (fun i hi => r2 i (by omega))
    rw [l2] at q2
    obtain ⟨m3, p1, p2, p3⟩ := M_turn (k := k) (t := 1) (n := 4) (v := -9) (kc := zlp (lb_X5_duel_122 81) 1997) (by omega) (by omega) (by omega) (by omega) (mxF_le (mnF_le wdS_le)) (fun i hi => q2 i (by omega))
    rw [l1] at p2
    obtain ⟨m4, u1, u2, u3⟩ := M_turn (k := k) (t := 0) (n := 1) (v := -9) (kc := zlp (lb_X5_duel_122 81) 1996) (by omega) (by omega) (by omega) (by omega) (mnF_le (mxF_le (mnF_le wdS_le))) (fun i hi => p2 i (by omega))
    rw [l0] at u2
    rw [show 2 * nI 2 - 1 = nI 3 by decide, hstep _ 64 3 2000 1999 _ (by omega) (by omega) (by omega), r1, t3, if_neg (by omega), show nI 64 = nI (4 * 16) from rfl, hstep _ 16 2 1999 1998 _ (by omega) (by omega) (by omega), q1, t2, if_neg (by omega), show nI 16 = nI (4 * 4) from rfl, hstep _ 4 1 1998 1997 _ (by omega) (by omega) (by omega), p1, t1, if_neg (by omega), show nI 4 = nI (4 * 1) from rfl, hstep _ 1 0 1997 1996 _ (by omega) (by omega) (by omega), u1, t0, hend _ _ 1996 _ (by omega), if_pos rfl, if_neg (by omega), if_neg (by omega), if_neg (by omega), if_neg (by omega)]
    exact ⟨m4, rfl, u2 0 (by omega), fun a ha => (u3 a ha).trans ((p3 a ha).trans ((q3 a ha).trans (r3 a ha)))⟩
theorem x5_duel (x y r : Int32) : okM (dn_X5_duel 81 x y r) (g_duel x y r) := by
  intro s k m hO hM
  have hOH := hO.2.2.2.1.1
  have hN5 := hOH.2.1
  unfold dn_X5_duel g_duel jn_X5_duel_30
  rw [ZO_5 s81, Option.bind_some, M_isRunner hN5 hM, zbd_s]
  rcases ix_c x (hN (sH s)) (by omega) with ⟨a, ha, rfl, e⟩ | ⟨e, -⟩
  · rw [e, ifSo, ifb1, M_isRunner hN5 hM, zbd_s]
    try dsimp only
    rcases ix_c y (hN (sH s)) (by omega) with ⟨b, hb, rfl, e'⟩ | ⟨e', -⟩
    · rw [e', ifSo, ifb1]
      try dsimp only
      by_cases hab : a = b
      · rw [ifEt hab, if_pos hab]
        exact ⟨k, m, rfl, hM, zfM.rf⟩
      · rw [ifEf hab (by omega) (by omega), if_neg hab, show dn_X5_in r 0 2 (Z k m) = _ from M_ir r 0 2 (by omega) (by omega) _, zbd_s]
        rcases ir_c r 0 2 (by omega) (by omega) with ⟨kk, k1, k2, rfl, e''⟩ | ⟨e'', -⟩
        · have hp := pow42 k2
          have hpow : ∀ h : zAH, dn_X5_powerOf 16 (nI kk) h = some (nI (4 ^ (2 * kk)), h) := fun h => by
            rw [show (4 : Nat) ^ (2 * kk) = 16 ^ kk by rw [Nat.pow_mul]]
            exact M_pow (b := 16) (by omega) (by omega)
          obtain ⟨m1, c1, c2, c3, c4⟩ := M_choicesBegin hO hM
          rw [e'', ifSo, ifb1, c1, zbd_s, hpow, zbd_s]
          try dsimp only
          refine lp_inv (N := 4 ^ (2 * kk)) (I := fun c t h => ∃ m2, t = nI c ∧ h = Z k m2 ∧ MS s k m2 ∧ zCb s (b2 a b) m2 ∧ zFw m m2 ∧ ∀ i, i < c → m2 103 i = nI (wdS s a b kk i)) (Q := fun r => ∃ k' m', r = some (nI (dlV s a b kk), Z k' m') ∧ MS (sAk (dlP s a b kk) s) k' m' ∧ zfM k m k' m') ?_ ?_ (4 ^ (2 * kk)) 0 2000 _ (Z k m1) (by omega) (by omega) ⟨m1, rfl, rfl, c2, c3 _, c4, fun i hi => by omega⟩
          · rintro c t h hc ⟨m2, rfl, rfl, h1, hcb, h2, h3⟩
            left
            obtain ⟨m4, m5, r1, r2, r3, r4, r5, r6, r7, r8, r9⟩ := M_try2 (code := c) hO h1 hcb ha hb hab k2 (by omega)
            have hh := rHd_le hN5 (ch2_ok (x := a) (y := b) (kk := kk) (code := c) hO)
            have hF : zFw m5 (mu m5 103 c (nI (wdS s a b kk c))) := ⟨fun q _ _ _ _ _ h6 _ => mu_ar _ _ _ h6, fun f _ => by rw [mu_ar _ _ _ (by omega)], fun j _ => by rw [mu_ar _ _ _ (by omega)]⟩
            refine ⟨nI (c + 1), Z k (mu m5 103 c (nI (wdS s a b kk c))), ⟨_, rfl, rfl, r5.sc hN5 hF, ⟨by rw [mu_ar _ _ _ (by omega)]; exact r6.1, fun q hq hb => by rw [mu_ar _ _ _ (by omega)]; exact r6.2 q hq hb⟩, zFw.tr h2 (zFw.tr r7 hF), fun i hi => ?_⟩, fun rec => ?_⟩
            · by_cases hic : i = c
              · subst hic; rw [mu_s]
              · rw [mu_j _ _ hic, r8 103 (by omega) (by omega) (by omega) (by omega)]; exact h3 i (by omega)
            · have v1 : dn_X5_v 81 1 (Z k m5) = some (nI (rHd (ch2 s a b kk c)), Z k m5) := by rw [M_v1 r4 (by omega), r3.2.2.1]
              unfold lb_X5_duel_47 jn_X5_duel_100
              try dsimp only
              rw [ifLt hc (by omega), r1, zbd_s, r2, zbd_s, ZA_5_33 s81, Option.bind_some, v1, zbd_s, nA_1]
              unfold wdS
              by_cases hb2 : rHd (ch2 s a b kk c) = b
              · rw [ifEt hb2, if_pos hb2, Ms_103 (by omega), Option.bind_some]
                rfl
              · rw [ifEf hb2 (by omega) (by omega), if_neg hb2, v1, zbd_s]
                by_cases ha2 : rHd (ch2 s a b kk c) = a
                · rw [ifEt ha2, if_pos ha2, Ms_103 (by omega), Option.bind_some]
                  rfl
                · rw [ifEf ha2 (by omega) (by omega), if_neg ha2, Ms_103 (by omega), Option.bind_some]
                  rfl
          · rintro t h ⟨m2, rfl, rfl, h1, hcb, h2, h3⟩ rec
            obtain ⟨m3, n1, n2, n3, n4, n5⟩ := M_nc hN5 h1
            obtain ⟨m4, q1, q2, q3⟩ := M_settle (k := k) (s := s) (m := m3) (x := a) (y := b) k2 (fun i hi => by rw [n4 103 (by omega)]; exact h3 i hi)
            have hF : zFw m3 m4 := ⟨fun q _ _ _ _ _ h6 _ => q3 q h6, fun f _ => by rw [q3 81 (by omega)], fun j _ => by rw [q3 100 (by omega)]⟩
            obtain ⟨m', t1, t2, t3⟩ := M_tells (v := dlP s a b kk) (a := nI (dlV s a b kk)) hN5 (n3.sc hN5 hF)
            refine ⟨k, m', ?_, t2, zfM.tr h2.zfM (zfM.tr n5.zfM (zfM.tr hF.zfM t3))⟩
            unfold lb_X5_duel_47 jn_X5_duel_107
            try dsimp only
            rw [ifLf (Nat.le_refl _) (by omega), n1, zbd_s, q1]
            unfold jn_X5_duel_285
            rw [ZA_5_33 s81, Option.bind_some, show zaI 0 103 0 (Z k m4) = _ from Ml_103 (j := 0) (by omega), Option.bind_some, q2, t1, zbd_s]
        · rw [e'']
          exact ⟨k, m, by rw [ifNo, ifb0], hM, zfM.rf⟩
    · rw [e']
      exact ⟨k, m, by rw [ifNo, ifb0], hM, zfM.rf⟩
  · rw [e]
    exact ⟨k, m, by rw [ifNo, ifb0], hM, zfM.rf⟩
theorem o_duel (x y r : Int32) : okG (g_duel x y r) := by
  intro s hO
  unfold g_duel
  cases h : ix x (hN (sH s)) with
  | none => exact hO
  | some a =>
    try dsimp only
    cases h' : ix y (hN (sH s)) with
    | none => exact hO
    | some b =>
      try dsimp only
      by_cases hab : a = b
      · rw [if_pos hab]; exact hO
      · rw [if_neg hab]
        cases h'' : ir r 0 2 with
        | none => exact hO
        | some kk => exact hO
end
