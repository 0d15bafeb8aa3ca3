/-! hill: the reference -/
def sHl (f : Nat → Int32) (n N : Nat) (s : zSt) : zSt := ((0, s.1.2), s.2.1, s.2.2.1, (hdS f n N, rbB f n, fun _ => 0), begS (hdS f n N) (fun _ => 0) (rbB f n), fun _ => none)
def g_hill (r : Int32) (s : zSt) : Int32 × zSt := match ix r 4 with
  | none => (-1, s)
  | some j => match (sT s).1 j with
    | none => (-3, sFd 1 s)
    | some n => match rdS ((sT s).2 j) n with
      | .inl _ => (-4, s)
      | .inr N => (nI N, sHl ((sT s).2 j) n N s)
def cpM (m : Nat → Nat → Int32) (x : Nat) : Nat → Nat → Nat → Int32
  | 0 => m
  | i + 1 => mu (cpM m x i) 93 (8 * x + i) (m 98 (8 * x + i))
def zrM (m : Nat → Nat → Int32) : Nat → Nat → Nat → Int32
  | 0 => m
  | j + 1 => mu (zrM m j) 99 (1 + j) 0
section
variable {k k' : zK} {m m' : Nat → Nat → Int32} {s : zSt} {f : Nat → Int32} {n t : Nat}
theorem cpM_p {x : Nat} : ∀ i, (∀ a, a ≠ 93 → cpM m x i a = m a) ∧ (∀ j, j < i → cpM m x i 93 (8 * x + j) = m 98 (8 * x + j)) ∧ ∀ j, (j < 8 * x ∨ 8 * x + i ≤ j) → cpM m x i 93 j = m 93 j
  | 0 => ⟨fun _ _ => rfl, fun j hj => absurd hj (Nat.not_lt_zero j), fun _ _ => rfl⟩
  | i + 1 => by
    obtain ⟨h1, h2, h3⟩ := cpM_p (x := x) i
    refine ⟨fun a ha => ?_, fun j hj => ?_, fun j hj => ?_⟩
    · rw [cpM, mu_ar _ _ _ ha]
      exact h1 a ha
    · rw [cpM]
      by_cases hji : j = i
      · subst hji; rw [mu_s]
      · rw [mu_j _ _ (by omega)]
        exact h2 j (by omega)
    · rw [cpM, mu_j _ _ (by omega)]
      exact h3 j (by omega)
theorem zrM_p : ∀ i, (∀ a, a ≠ 99 → zrM m i a = m a) ∧ ∀ j, j < i → zrM m i 99 (1 + j) = 0
  | 0 => ⟨fun _ _ => rfl, fun j hj => absurd hj (Nat.not_lt_zero j)⟩
  | i + 1 => by
    obtain ⟨h1, h2⟩ := zrM_p i
    refine ⟨fun a ha => ?_, fun j hj => ?_⟩
    · rw [zrM, mu_ar _ _ _ ha]
      exact h1 a ha
    · rw [zrM]
      by_cases hji : j = i
      · subst hji; rw [mu_s]
      · rw [mu_j _ _ (by omega)]
        exact h2 j (by omega)
theorem M_hl60 {Y : Nat} (hY : Y ≤ 40) (e10 : m 81 10 = nI Y) : ∃ m', lp_X5_hill_60 81 0 (Z k m) = jn_X5_hill_86 81 (Z k m') ∧ (∀ y, y < Y → m' 88 y = m 94 y) ∧ ∀ a, a ≠ 88 → m' a = m a := by
  unfold lp_X5_hill_60
  refine lp_inv (N := Y) (I := fun y st h => st = nI y ∧ ∃ m', h = Z k m' ∧ (∀ i, i < y → m' 88 i = m 94 i) ∧ ∀ a, a ≠ 88 → m' a = m a) (Q := fun r => ∃ m', r = jn_X5_hill_86 81 (Z k m') ∧ (∀ y, y < Y → m' 88 y = m 94 y) ∧ ∀ a, a ≠ 88 → m' a = m a) ?_ ?_ Y 0 2000 0 _ (by omega) (by omega) ⟨rfl, m, rfl, fun i hi => absurd hi (Nat.not_lt_zero i), fun _ _ => rfl⟩
  · rintro y _ h hy ⟨rfl, m', rfl, q1, q2⟩
    left
    refine ⟨nI (y + 1), Z k (mu m' 88 y (m 94 y)), ⟨rfl, _, rfl, fun i hi => ?_, fun a ha => ?_⟩, fun rec => ?_⟩
    · by_cases hiy : i = y
      · subst hiy; rw [mu_s]
      · rw [mu_j _ _ hiy]
        exact q1 i (by omega)
    · rw [mu_ar _ _ _ ha]
      exact q2 a ha
    · unfold lb_X5_hill_60
      rw [ZI_5_10 s81, Option.bind_some, q2 81 (by omega), e10, ifLt hy (by omega), ZA_5_11 s81, Option.bind_some, ZA_5_22 s81, Option.bind_some, Ml_94 (by omega), Option.bind_some, q2 94 (by omega), Ms_88 (by omega), Option.bind_some, nA_1]
  · rintro _ h ⟨rfl, m', rfl, q1, q2⟩ rec
    refine ⟨m', ?_, q1, q2⟩
    unfold lb_X5_hill_60
    rw [ZI_5_10 s81, Option.bind_some, q2 81 (by omega), e10, ifLf (Nat.le_refl _) (by omega)]
theorem M_hl141 {x : Nat} (hx : x < 5) (rec : Int32 → zAH → Option (Int32 × zAH)) : lp_X5_hill_141 rec 81 (nI x) 0 (Z k m) = rec (nI (x + 1)) (Z k (cpM m x 8)) := by
  unfold lp_X5_hill_141
  refine lp_fn (N := 8) (fun i => nI i) (fun i => Z k (cpM m x i)) (fun i hi rec => ?_) (fun rec => ?_) (by omega)
  · unfold lb_X5_hill_141
    rw [it_8 hi, ZA_5_17 s81, Option.bind_some, ZA_5_26 s81, Option.bind_some, nM_8, nI_add, Ml_98 (by omega), Option.bind_some, Ms_93 (by omega), Option.bind_some, nA_1, (cpM_p (m := m) (x := x) i).1 98 (by omega)]
    rfl
  · unfold lb_X5_hill_141 jn_X5_hill_175
    rw [if_8 (by omega) (by omega), nA_1]
theorem M_hl88 {N : Nat} (hN : N ≤ 5) (e12 : m 81 12 = nI N) : ∃ m', jn_X5_hill_86 81 (Z k m) = jn_X5_hill_181 81 (Z k m') ∧ (∀ i, i < N → m' 89 i = m 95 i ∧ m' 90 i = m 96 i ∧ m' 91 i = 0 ∧ m' 92 i = m 97 i ∧ ∀ j, j < 8 → m' 93 (8 * i + j) = m 98 (8 * i + j)) ∧ ∀ a, (a < 89 ∨ 93 < a) → m' a = m a := by
  unfold jn_X5_hill_86 lp_X5_hill_88
  refine lp_inv (N := N) (I := fun x st h => st = nI x ∧ ∃ m', h = Z k m' ∧ (∀ i, i < x → m' 89 i = m 95 i ∧ m' 90 i = m 96 i ∧ m' 91 i = 0 ∧ m' 92 i = m 97 i ∧ ∀ j, j < 8 → m' 93 (8 * i + j) = m 98 (8 * i + j)) ∧ ∀ a, (a < 89 ∨ 93 < a) → m' a = m a) (Q := fun r => ∃ m', r = jn_X5_hill_181 81 (Z k m') ∧ (∀ i, i < N → m' 89 i = m 95 i ∧ m' 90 i = m 96 i ∧ m' 91 i = 0 ∧ m' 92 i = m 97 i ∧ ∀ j, j < 8 → m' 93 (8 * i + j) = m 98 (8 * i + j)) ∧ ∀ a, (a < 89 ∨ 93 < a) → m' a = m a) ?_ ?_ N 0 2000 0 _ (by omega) (by omega) ⟨rfl, m, rfl, fun i hi => absurd hi (Nat.not_lt_zero i), fun _ _ => rfl⟩
  · rintro x _ h hx ⟨rfl, m', rfl, q1, q2⟩
    left
    have e1 : mu m' 89 x (m 95 x) 96 x = m 96 x := by rw [mu_a _ _ _ _ (by omega), q2 96 (by omega)]
    have e2 : mu (mu (mu m' 89 x (m 95 x)) 90 x (m 96 x)) 91 x 0 97 x = m 97 x := by rw [mu_a _ _ _ _ (by omega), mu_a _ _ _ _ (by omega), mu_a _ _ _ _ (by omega), q2 97 (by omega)]
    generalize hm4 : mu (mu (mu (mu m' 89 x (m 95 x)) 90 x (m 96 x)) 91 x 0) 92 x (m 97 x) = m4
    obtain ⟨c1, c2, c3⟩ := cpM_p (m := m4) (x := x) 8
    refine ⟨nI (x + 1), Z k (cpM m4 x 8), ⟨rfl, _, rfl, fun i hi => ?_, fun a ha => ?_⟩, fun rec => ?_⟩
    · rw [c1 89 (by omega), c1 90 (by omega), c1 91 (by omega), c1 92 (by omega)]
      by_cases hix : i = x
      · subst hix
        refine ⟨?_, ?_, ?_, ?_, fun j hj => ?_⟩
        · rw [← hm4, mu_a _ _ _ _ (by omega), mu_a _ _ _ _ (by omega), mu_a _ _ _ _ (by omega), mu_s]
        · rw [← hm4, mu_a _ _ _ _ (by omega), mu_a _ _ _ _ (by omega), mu_s]
        · rw [← hm4, mu_a _ _ _ _ (by omega), mu_s]
        · rw [← hm4, mu_s]
        · rw [c2 j hj, ← hm4, mu_a _ _ _ _ (by omega), mu_a _ _ _ _ (by omega), mu_a _ _ _ _ (by omega), mu_a _ _ _ _ (by omega), q2 98 (by omega)]
      · obtain ⟨t1, t2, t3, t4, t5⟩ := q1 i (by omega)
        refine ⟨?_, ?_, ?_, ?_, fun j hj => ?_⟩
        · rw [← hm4, mu_a _ _ _ _ (by omega), mu_a _ _ _ _ (by omega), mu_a _ _ _ _ (by omega), mu_j _ _ hix]; exact t1
        · rw [← hm4, mu_a _ _ _ _ (by omega), mu_a _ _ _ _ (by omega), mu_j _ _ hix, mu_a _ _ _ _ (by omega)]; exact t2
        · rw [← hm4, mu_a _ _ _ _ (by omega), mu_j _ _ hix, mu_a _ _ _ _ (by omega), mu_a _ _ _ _ (by omega)]; exact t3
        · rw [← hm4, mu_j _ _ hix, mu_a _ _ _ _ (by omega), mu_a _ _ _ _ (by omega), mu_a _ _ _ _ (by omega)]; exact t4
        · rw [c3 _ (by omega), ← hm4, mu_a _ _ _ _ (by omega), mu_a _ _ _ _ (by omega), mu_a _ _ _ _ (by omega), mu_a _ _ _ _ (by omega)]; exact t5 j hj
    · rw [c1 a (by omega), ← hm4, mu_ar _ _ _ (by omega), mu_ar _ _ _ (by omega), mu_ar _ _ _ (by omega), mu_ar _ _ _ (by omega)]
      exact q2 a ha
    · unfold lb_X5_hill_88
      rw [ZI_5_12 s81, Option.bind_some, q2 81 (by omega), e12, ifLt hx (by omega), ZA_5_13 s81, Option.bind_some, ZA_5_23 s81, Option.bind_some, Ml_95 (by omega), Option.bind_some, q2 95 (by omega), Ms_89 (by omega), Option.bind_some, ZA_5_14 s81, Option.bind_some, ZA_5_24 s81, Option.bind_some, Ml_96 (by omega), Option.bind_some, e1, Ms_90 (by omega), Option.bind_some, ZA_5_15 s81, Option.bind_some, Ms_91 (by omega), Option.bind_some, ZA_5_16 s81, Option.bind_some, ZA_5_25 s81, Option.bind_some, Ml_97 (by omega), Option.bind_some, e2, Ms_92 (by omega), Option.bind_some, hm4, M_hl141 (by omega)]
  · rintro _ h ⟨rfl, m', rfl, q1, q2⟩ rec
    refine ⟨m', ?_, q1, q2⟩
    unfold lb_X5_hill_88
    rw [ZI_5_12 s81, Option.bind_some, q2 81 (by omega), e12, ifLf (Nat.le_refl _) (by omega)]
theorem M_hl183 : jn_X5_hill_181 81 (Z k m) = jn_X5_hill_201 81 (Z k (zrM m 3)) := by
  unfold jn_X5_hill_181 lp_X5_hill_183
  refine lp_fn (N := 3) (fun j => nI (1 + j)) (fun j => Z k (zrM m j)) (fun j hj rec => ?_) (fun rec => ?_) (by omega)
  · unfold lb_X5_hill_183
    rw [it_4 (by omega), ZA_5_27 s81, Option.bind_some, show (0 &&& 1 : Int32) = 0 by decide, Ms_99 (by omega), Option.bind_some, nA_1]
    rfl
  · unfold lb_X5_hill_183
    rw [if_4 (by omega) (by omega)]
theorem x5_hill (r : Int32) : okM (dn_X5_hill 81 r) (g_hill r) := by
  intro s k m hO hM
  have hN5 := hO.2.2.2.1.1.2.1
  unfold dn_X5_hill g_hill
  rw [ZO_5 s81, Option.bind_some, M_isText, zbd_s]
  cases h : ix r 4 with
  | none => exact ⟨k, m, by rw [ifNo, ifb0], hM, zfM.rf⟩
  | some j =>
    dsimp only
    obtain ⟨rfl, hj⟩ := ix_s (by omega) h
    obtain ⟨q1, q2⟩ := hM.2.2.1 j hj
    rw [ifSo, ifb1, ZA_5_8 s81, Option.bind_some, Ml_86 hj, Option.bind_some, q1]
    cases hw : (sT s).1 j with
    | none =>
      obtain ⟨m1, f1, f2, f3⟩ := M1 hN5 hM
      exact ⟨k, m1, by rw [if_pos (show szM none < 0 by decide), f1, zbd_s], f2, f3⟩
    | some n =>
      have hn := hO.2.2.1 j n hj hw
      rw [hw] at q1
      obtain ⟨m1, a1, a2, a3⟩ := M_faultOf (k := k) (n := n) (f := (sT s).2 j) hj hn ⟨q1, q2 n hw⟩
      dsimp only
      generalize (sT s).2 j = f at a1 a3 ⊢
      cases hr : rdS f n with
      | inl p =>
        rw [hr] at a1
        dsimp only
        have hne : ¬ rdV (.inl p) = -9 := by
          have hb : p < 2 ^ 31 := by
            have := rdS_le hn hr
            omega
          exact nI_ne9 hb
        exact ⟨k, m1, by rw [if_neg (show ¬ szM (some n) < 0 from nIn0 (by omega)), a1, zbd_s, if_neg hne], hM.sc hN5 a2.w, a2.w.zfM⟩
      | inr N =>
        rw [hr] at a1
        obtain ⟨p1, p2, p3, p4⟩ := a3 N hr
        obtain ⟨w1, w2, w3⟩ := okH_rd hr
        have hN : N ≤ 5 := w1.2.1
        have hY : yS f n ≤ 40 := w1.1
        dsimp only
        have e20 : mu m1 81 10 (nI (yS f n)) 81 21 = nI N := by rw [mu_j _ _ (by omega)]; exact p2
        generalize hm2 : mu (mu (mu m1 81 10 (nI (yS f n))) 81 12 (nI N)) 81 18 0 = m2
        have g1 : ∀ a, a ≠ 81 → m2 a = m1 a := fun a ha => by rw [← hm2, mu_ar _ _ _ ha, mu_ar _ _ _ ha, mu_ar _ _ _ ha]
        have g2 : ∀ i, i ≠ 10 → i ≠ 12 → i ≠ 18 → m2 81 i = m1 81 i := fun i h1 h2 h3 => by rw [← hm2, mu_j _ _ h3, mu_j _ _ h2, mu_j _ _ h1]
        have g3 : m2 81 10 = nI (yS f n) := by rw [← hm2, mu_j _ _ (by omega), mu_j _ _ (by omega), mu_s]
        have g4 : m2 81 12 = nI N := by rw [← hm2, mu_j _ _ (by omega), mu_s]
        have g5 : m2 81 18 = 0 := by rw [← hm2, mu_s]
        obtain ⟨m3, b1, b2, b3⟩ := M_hl60 (k := k) hY g3
        obtain ⟨m4, c1, c2, c3⟩ := M_hl88 (k := k) (m := m3) hN (by rw [b3 81 (by omega)]; exact g4)
        obtain ⟨d1, d2⟩ := zrM_p (m := m4) 3
        generalize hm5 : zrM m4 3 = m5 at d1 d2
        generalize hm6 : mu m5 81 29 (nI 0) = m6
        have i1 : ∀ a, a ≠ 81 → m6 a = m5 a := fun a ha => by rw [← hm6, mu_ar _ _ _ ha]
        have i2 : ∀ i, i ≠ 29 → m6 81 i = m2 81 i := fun i hi => by rw [← hm6, mu_j _ _ hi, d1 81 (by omega), c3 81 (by omega), b3 81 (by omega)]
        have i3 : m6 81 29 = nI 0 := by rw [← hm6, mu_s]
        have hG6 : encG (hdS f n N) m6 := by
          refine ⟨by rw [i2 10 (by omega)]; exact g3, by rw [i2 12 (by omega)]; exact g4, fun y hy => ?_, fun x hx => ?_⟩
          · have hy' : y < yS f n := hy
            rw [i1 88 (by omega), d1 88 (by omega), c3 88 (by omega), b2 y hy', g1 94 (by omega)]
            exact p3 y hy'
          · have hx' : x < N := hx
            obtain ⟨t1, t2, t3, t4, t5⟩ := c2 x hx'
            obtain ⟨u1, u2, u3, u4⟩ := p4 x hx'
            refine ⟨?_, ?_, fun i hi => ?_⟩
            · rw [i1 89 (by omega), d1 89 (by omega), t1, b3 95 (by omega), g1 95 (by omega)]; exact u1
            · rw [i1 92 (by omega), d1 92 (by omega), t4, b3 97 (by omega), g1 97 (by omega)]; exact u3
            · have hi' : i < rzZ f n x := hi
              have : rzZ f n x ≤ 8 := rnL_le (g := gP f n) 8 _
              rw [i1 93 (by omega), d1 93 (by omega), t5 i (by omega), b3 98 (by omega), g1 98 (by omega)]; exact u4 i hi'
        have hB6 : ∀ i, i < N → m6 90 i = nI (rbB f n i) ∧ m6 91 i = nI 0 := by
          intro x hx
          obtain ⟨t1, t2, t3, t4, t5⟩ := c2 x hx
          obtain ⟨u1, u2, u3, u4⟩ := p4 x hx
          exact ⟨by rw [i1 90 (by omega), d1 90 (by omega), t2, b3 96 (by omega), g1 96 (by omega)]; exact u2, by rw [i1 91 (by omega), d1 91 (by omega), t3]; rfl⟩
        obtain ⟨m7, k1, k2, k3⟩ := M_begins (k := k) (q := 0) (hd := fun _ => 0) (br := rbB f n) (H := hdS f n N) hN hY (fun x _ => by omega) (by omega) hG6 i3 (fun i hi => hB6 i hi)
        have hall : ∀ a, a ≠ 81 → a ≠ 99 → a ≠ 100 → (a < 88 ∨ 98 < a) → m7 a = m a := fun a h1 h2 h3 h4 => by
          rw [k3.1 a h3, i1 a h1, d1 a h2, c3 a (by omega), b3 a (by omega), g1 a h1, a2.1 a h1 (by omega)]
        have h81 : ∀ i, i ≠ 10 → i ≠ 12 → i ≠ 18 → i ≠ 29 → (i < 19 ∨ 21 < i) → m7 81 i = m 81 i := fun i h1 h2 h3 h4 h5 => by
          rw [k3.1 81 (by omega), i2 i h4, g2 i h1 h2 h3, a2.2 i h5]
        have e7 : m7 81 12 = nI N := by rw [k3.1 81 (by omega), i2 12 (by omega)]; exact g4
        refine ⟨k, m7, ?_, ⟨⟨?_, ?_, ?_, hM.1.2.2.2.1, hM.1.2.2.2.2.1, fun f' hf' => ?_⟩, ?_, ?_, ⟨?_, fun x hx => ?_⟩, k2, fun j' hj' => ⟨?_, fun R' hR => by cases hR⟩⟩, zfM.of fun a ha => hall a (by omega) (by omega) (by omega) (by omega)⟩
        · rw [if_neg (show ¬ szM (some n) < 0 from nIn0 (by omega)), a1, zbd_s, if_pos (show rdV (.inr N) = -9 from rfl), ZI_5_20 s81, Option.bind_some, p1, ZP_5_10 s81, Option.bind_some, ZI_5_21 s81, Option.bind_some, e20, ZP_5_12 s81, Option.bind_some, ZP_5_18 s81, Option.bind_some, hm2, b1, c1, M_hl183, hm5]
          unfold jn_X5_hill_201
          rw [M_look0, zbd_s, hm6, k1, zbd_s, ZI_5_12 s81, Option.bind_some, e7]
        · show m7 81 18 = nI 0
          rw [k3.1 81 (by omega), i2 18 (by omega)]; exact g5
        · rw [h81 2 (by omega) (by omega) (by omega) (by omega) (by omega)]; exact hM.1.2.1
        · rw [h81 0 (by omega) (by omega) (by omega) (by omega) (by omega)]; exact hM.1.2.2.1
        · rw [hall 82 (by omega) (by omega) (by omega) (by omega)]; exact hM.1.2.2.2.2.2 f' hf'
        · exact hM.2.1.fr (hall 83 (by omega) (by omega) (by omega) (by omega)) (hall 84 (by omega) (by omega) (by omega) (by omega))
        · exact hM.2.2.1.fr (hall 86 (by omega) (by omega) (by omega) (by omega)) (hall 87 (by omega) (by omega) (by omega) (by omega))
        · exact encG_fr hG6 k3
        · rw [k3.1 90 (by omega), k3.1 91 (by omega)]
          exact hB6 x hx
        · rw [k3.1 99 (by omega), i1 99 (by omega), d2 j' hj']
          rfl
end
