/-! the beginning, and the law -/
theorem M_i202 {k : zK} {m : Nat → Nat → Int32} : ∃ m', jn_X5_init_200 81 (Z k m) = some ((), Z k m') ∧ (∀ r, r < 4 → m' 86 r = -1) ∧ ∀ a, a ≠ 86 → m' a = m a := by
  unfold jn_X5_init_200 lp_X5_init_202
  refine lp_inv (N := 4) (I := fun r st h => st = nI r ∧ ∃ m', h = Z k m' ∧ (∀ i, i < r → m' 86 i = -1) ∧ ∀ a, a ≠ 86 → m' a = m a) (Q := fun o => ∃ m', o = some ((), Z k m') ∧ (∀ r, r < 4 → m' 86 r = -1) ∧ ∀ a, a ≠ 86 → m' a = m a) ?_ ?_ 4 0 2000 0 _ (by omega) (by omega) ⟨rfl, m, rfl, fun i hi => absurd hi (Nat.not_lt_zero i), fun _ _ => rfl⟩
  · rintro r _ h hr ⟨rfl, m', rfl, q1, q2⟩
    left
    refine ⟨nI (r + 1), Z k (mu m' 86 r (-1)), ⟨rfl, _, rfl, fun i hi => ?_, fun a ha => by rw [mu_ar _ _ _ ha]; exact q2 a ha⟩, fun rec => ?_⟩
    · by_cases hir : i = r
      · subst hir; rw [mu_s]
      · rw [mu_j _ _ hir]; exact q1 i (by omega)
    · unfold lb_X5_init_202
      rw [it_4 hr, ZA_5_8 s81, Option.bind_some, Ms_86 hr, Option.bind_some, nA_1]
  · rintro _ h ⟨rfl, m', rfl, q1, q2⟩ rec
    refine ⟨m', ?_, q1, q2⟩
    unfold lb_X5_init_202 jn_X5_init_220
    rw [if_4 (by omega) (by omega)]
theorem M_i181 {k : zK} {m : Nat → Nat → Int32} : ∃ m', lp_X5_init_181 81 0 (Z k m) = jn_X5_init_200 81 (Z k m') ∧ (∀ r, r < 6 → m' 83 r = -1) ∧ ∀ a, a ≠ 83 → m' a = m a := by
  unfold lp_X5_init_181
  refine lp_inv (N := 6) (I := fun r st h => st = nI r ∧ ∃ m', h = Z k m' ∧ (∀ i, i < r → m' 83 i = -1) ∧ ∀ a, a ≠ 83 → m' a = m a) (Q := fun o => ∃ m', o = jn_X5_init_200 81 (Z k m') ∧ (∀ r, r < 6 → m' 83 r = -1) ∧ ∀ a, a ≠ 83 → m' a = m a) ?_ ?_ 6 0 2000 0 _ (by omega) (by omega) ⟨rfl, m, rfl, fun i hi => absurd hi (Nat.not_lt_zero i), fun _ _ => rfl⟩
  · rintro r _ h hr ⟨rfl, m', rfl, q1, q2⟩
    left
    refine ⟨nI (r + 1), Z k (mu m' 83 r (-1)), ⟨rfl, _, rfl, fun i hi => ?_, fun a ha => by rw [mu_ar _ _ _ ha]; exact q2 a ha⟩, fun rec => ?_⟩
    · by_cases hir : i = r
      · subst hir; rw [mu_s]
      · rw [mu_j _ _ hir]; exact q1 i (by omega)
    · unfold lb_X5_init_181
      rw [it_6 hr, ZA_5_5 s81, Option.bind_some, Ms_83 hr, Option.bind_some, nA_1]
  · rintro _ h ⟨rfl, m', rfl, q1, q2⟩ rec
    refine ⟨m', ?_, q1, q2⟩
    unfold lb_X5_init_181
    rw [if_6 (by omega) (by omega)]
def s0 : zSt := ((0, 0, 0, 0, 1, fun _ => 0), ((fun _ => none), fun _ _ => 0), ((fun _ => none), fun _ _ => 0), ((0, 0, (fun _ => 0), (fun _ => 0), (fun _ => 0), fun _ _ => 0), (fun _ => 0), fun _ => 0), (0, 0, 0, (fun _ => 0), (fun _ => 0), (fun _ => 0), (fun _ => 0), (fun _ => 0), fun _ => 0), fun _ => none)
theorem okS_0 : okS s0 := by
  refine ⟨Nat.zero_le _, fun r n _ h => (by cases h), fun r n _ h => (by cases h), ⟨⟨Nat.zero_le _, Nat.zero_le _, fun y hy => absurd hy (Nat.not_lt_zero y), fun x hx => absurd hx (Nat.not_lt_zero x)⟩, fun _ => rfl⟩, fun x hx => absurd hx (Nat.not_lt_zero x), ⟨Nat.zero_le _, Or.inr ⟨rfl, rfl⟩, fun x hx => absurd hx (Nat.not_lt_zero x)⟩, fun j R' _ h => (by cases h)⟩
theorem m0_rw : ∀ r, r < 6 → m0 (40 + 2 * r) 1 = -9 := by decide
theorem m0_tx : ∀ r, r < 4 → m0 (52 + 2 * r) 1 = -9 := by decide
theorem m0_kp : ∀ j, j < 3 → m0 (60 + 7 * j) 5 = 0 := by decide
theorem m0_35 : ∀ x, x < 5 → m0 35 x = -1 := by decide
theorem lX_len : lX.length = 79 := by decide +kernel
theorem hc_nA {α : Type} {b : Nat × (Nat → Int32)} {l : List zAC} {w : Nat} {K : Nat → zAH → α} {ci A N w' : Nat} {fs : List Value} (hA : l.length + 2 = A) (hN : fs.length = N) (hw : w + N = w') : znw ci fs K (hL b l w) = K A (hL b (l ++ [.inr (.inr (ci, fs))]) w') := by
  subst hA hN hw
  exact hc_n
/-- the beginning -/
theorem law_init (b : Nat × (Nat → Int32)) (F : Nat → Nat → zAH → Option (Int32 × zAH)) : ∃ k m, znw 4 zdf_4 (fun x1 h2 => zbd (dn_X4_init x1 h2) fun x3 h4 => znw 5 zdf_5 (fun x5 h6 => zbd (dn_X5_init x5 h6) fun x7 h8 => F x1 x5 h8) h4) (hL b [] 0) = F 2 81 (Z k m) ∧ XS s0 k m ∧ MS s0 k m ∧ k.1 = b ∧ kN k = 102 ∧ kS k = 3037 := by
  obtain ⟨m1, a1, a2, a3⟩ := M_i181 (k := k0 b (1519 + 37 + 1481)) (m := m0)
  obtain ⟨m2, b1, b2, b3⟩ := M_i202 (k := k0 b (1519 + 37 + 1481)) (m := m1)
  have e : ∀ a, a ≠ 83 → a ≠ 86 → m2 a = m0 a := fun a h1 h2 => by rw [b3 a h2, a3 a h1]
  refine ⟨k0 b (1519 + 37 + 1481), m2, ?_, ?_, ?_, rfl, rfl, rfl⟩
  · rw [hc_nA (A := 2) (N := 18) (w' := 18) (by rfl) (by rfl) (by rfl), List.nil_append, I_X4, zbd_s, hc_nA (A := 81) (N := 37) (w' := 1519 + 37) (by rw [lX_len]) (by rfl) (by rfl), I_X5 lX_len, hL_Z, a1, b1, zbd_s]
  · refine ⟨⟨?_, ?_, ?_, rfl, rfl, fun f hf => ?_⟩, fun r hr => ⟨?_, fun n h => (by cases h)⟩, fun r hr => ⟨?_, fun n h => (by cases h)⟩, ⟨Or.inl ⟨rfl, rfl⟩, ⟨rfl, ?_, ?_, fun y hy => absurd hy (Nat.not_lt_zero y), fun x hx => absurd hx (Nat.not_lt_zero x)⟩, fun x hx => absurd hx (Nat.not_lt_zero x)⟩, ⟨rfl, ?_, ?_, ?_, ?_, ?_, fun x hx => absurd hx (Nat.not_lt_zero x)⟩, fun j hj => ⟨?_, fun R' h => (by cases h)⟩, fun x hx => ?_⟩
    · rw [e 2 (by omega) (by omega)]; rfl
    · rw [e 2 (by omega) (by omega)]; rfl
    · rw [e 2 (by omega) (by omega)]; rfl
    · rw [e 34 (by omega) (by omega)]; rfl
    · rw [e _ (by omega) (by omega)]; exact m0_rw r hr
    · rw [e _ (by omega) (by omega)]; exact m0_tx r hr
    · show m2 5 0 = nI 0
      rw [e 5 (by omega) (by omega)]; rfl
    · show m2 5 2 = nI 0
      rw [e 5 (by omega) (by omega)]; rfl
    · rw [e 19 (by omega) (by omega)]; rfl
    · rw [e 19 (by omega) (by omega)]; rfl
    · rw [e 19 (by omega) (by omega)]; rfl
    · rw [e 19 (by omega) (by omega)]; rfl
    · rw [e 19 (by omega) (by omega)]; rfl
    · rw [e _ (by omega) (by omega)]; exact m0_kp j hj
    · rw [e 35 (by omega) (by omega)]; exact m0_35 x hx
  · refine ⟨⟨?_, ?_, ?_, rfl, rfl, fun f hf => ?_⟩, fun r hr => ⟨?_, fun n h => (by cases h)⟩, fun r hr => ⟨b2 r hr, fun n h => (by cases h)⟩, ⟨⟨?_, ?_, fun y hy => absurd hy (Nat.not_lt_zero y), fun x hx => absurd hx (Nat.not_lt_zero x)⟩, fun x hx => absurd hx (Nat.not_lt_zero x)⟩, ⟨by omega, ?_, ?_, ?_, fun x hx => absurd hx (Nat.not_lt_zero x)⟩, fun j hj => ⟨?_, fun R' h => (by cases h)⟩⟩
    · rw [e 81 (by omega) (by omega)]; rfl
    · rw [e 81 (by omega) (by omega)]; rfl
    · rw [e 81 (by omega) (by omega)]; rfl
    · rw [e 82 (by omega) (by omega)]; rfl
    · rw [b3 83 (by omega)]; exact a2 r hr
    · rw [e 81 (by omega) (by omega)]; rfl
    · rw [e 81 (by omega) (by omega)]; rfl
    · rw [e 100 (by omega) (by omega)]; rfl
    · rw [e 100 (by omega) (by omega)]; rfl
    · rw [e 100 (by omega) (by omega)]; rfl
    · rw [e 99 (by omega) (by omega)]; rfl
/-- what holds between two calls -/
def lwI (b : Nat × (Nat → Int32)) (i : Nat) (h : zAH) : Prop := ∃ s k m, h = Z k m ∧ okS s ∧ XS s k m ∧ MS s k m ∧ k.1 = b ∧ 102 ≤ kN k ∧ kN k ≤ 102 + i ∧ kS k ≤ 3037 + 3 * i
theorem law_call {ρ : Type} {b : Nat × (Nat → Int32)} {i : Nat} {s : zSt} {k : zK} {m : Nat → Nat → Int32} {f f' : zAH → Option (ρ × zAH)} {g : zSt → ρ × zSt} (h1 : okX f g) (h2 : okM f' g) (h3 : okG g) (hO : okS s) (hX : XS s k m) (hM : MS s k m) (hb : k.1 = b) (hn : 102 ≤ kN k) (hn' : kN k ≤ 102 + i) (hs : kS k ≤ 3037 + 3 * i) : ∃ v k1 m1 k2 m2, f (Z k m) = some (v, Z k1 m1) ∧ k1.1 = b ∧ f' (Z k1 m1) = some (v, Z k2 m2) ∧ lwI b (i + 1) (Z k2 m2) := by
  obtain ⟨k1, m1, a1, a2, a3⟩ := h1 s k m hO hX hn
  have hN5 := hO.2.2.2.1.1.2.1
  have hM1 := hM.frX hN5 a3
  obtain ⟨k2, m2, b1, b2, b3⟩ := h2 s k1 m1 hO hM1
  have e1 : k1.1 = b := a3.2.1.trans hb
  have e2 : kN k2 = kN k1 := by show k2.2.2.2.2.2.1 = _; rw [b3.2.2.2.2]
  have e3 : kS k2 = kS k1 := by show k2.2.2.2.2.2.2 = _; rw [b3.2.2.2.2]
  have a4 := a3.2.2.2
  exact ⟨(g s).1, k1, m1, k2, m2, a1, e1, b1, (g s).2, k2, m2, rfl, h3 s hO, a2.frM b3, b2, b3.2.1.trans e1, by omega, by omega, by omega⟩
theorem ZSc {k : zK} {m : Nat → Nat → Int32} {b : Nat × (Nat → Int32)} {j : Nat} (hb : k.1 = b) (hj : j < b.1) (hL : b.1 ≤ 384) : zaI 0 1 (nI j) (Z k m) = some (b.2 j) := by
  subst hb
  unfold zaI
  rw [show (Z k m).1 1 = some (.inl (0, k.1.1, k.1.2)) from rfl]
  dsimp only
  rw [if_pos rfl, nI_clamp (by omega), if_neg]
  intro q
  rcases q with q | q
  · exact nI_pos (by omega) q
  · omega
theorem ZNc {k : zK} {m : Nat → Nat → Int32} {b : Nat × (Nat → Int32)} (hb : k.1 = b) : zaN 1 (Z k m) = some (nI b.1) := by
  subst hb
  rfl
theorem lwI_up {b : Nat × (Nat → Int32)} {i : Nat} {h : zAH} (H : lwI b i h) : lwI b (i + 1) h := by
  obtain ⟨s, k, m, h1, h2, h3, h4, h5, h6, h7, h8⟩ := H
  exact ⟨s, k, m, h1, h2, h3, h4, h5, h6, by omega, by omega⟩
theorem cmpSelf (x : Int64) : lg_cmp x x = 0 := (lg_cmp_eq x x).mpr rfl

theorem law_step {b : Nat × (Nat → Int32)} (hL : b.1 ≤ 384) {i : Nat} (hi : 6 * i + 6 ≤ b.1) {h : zAH} (H : lwI b i h) : ∃ h', lwI b (i + 1) h' ∧ ∀ rec, lb_L_law_18 1 2 81 rec (nI (6 * i)) h = rec (nI (6 * (i + 1))) h' := by
  have H0 := H
  obtain ⟨s, k, m, rfl, hO, hX, hM, hb, hn, hn', hs⟩ := H
  have r0 : ∀ k' (m' : Nat → Nat → Int32), k'.1 = b → zaI 0 1 (nI (6 * i)) (Z k' m') = some (b.2 (6 * i)) := fun k' m' e => ZSc e (by omega) hL
  have r1 : ∀ k' (m' : Nat → Nat → Int32), k'.1 = b → zaI 0 1 (nI (6 * i) + 1) (Z k' m') = some (b.2 (6 * i + 1)) := fun k' m' e => by rw [nA_1]; exact ZSc e (by omega) hL
  have r2 : ∀ k' (m' : Nat → Nat → Int32), k'.1 = b → zaI 0 1 (nI (6 * i) + 2) (Z k' m') = some (b.2 (6 * i + 2)) := fun k' m' e => by rw [nA_2]; exact ZSc e (by omega) hL
  have r3 : ∀ k' (m' : Nat → Nat → Int32), k'.1 = b → zaI 0 1 (nI (6 * i) + 3) (Z k' m') = some (b.2 (6 * i + 3)) := fun k' m' e => by rw [nA_3]; exact ZSc e (by omega) hL
  have r4 : ∀ k' (m' : Nat → Nat → Int32), k'.1 = b → zaI 0 1 (nI (6 * i) + 4) (Z k' m') = some (b.2 (6 * i + 4)) := fun k' m' e => by rw [nA_4]; exact ZSc e (by omega) hL
  have r5 : ∀ k' (m' : Nat → Nat → Int32), k'.1 = b → zaI 0 1 (nI (6 * i) + 5) (Z k' m') = some (b.2 (6 * i + 5)) := fun k' m' e => by rw [nA_5]; exact ZSc e (by omega) hL
  have ej : ∀ rec h', jn_L_law_1459 rec 1 2 81 (nI (6 * i)) h' = rec (nI (6 * (i + 1))) h' := by
    intro rec h'
    unfold jn_L_law_1459
    rw [nA_6]
    rfl
  have hgo : ¬ nI b.1 - 6 < nI (6 * i) := by
    rw [iI_nI, iI_nI, show (6 : Int32) = iI 6 by decide, iI_sub, iI_lt (by omega) (by omega) (by omega) (by omega)]
    omega
  generalize p1e : b.2 (6 * i + 1) = p1 at r1
  generalize p2e : b.2 (6 * i + 2) = p2 at r2
  generalize p3e : b.2 (6 * i + 3) = p3 at r3
  generalize p4e : b.2 (6 * i + 4) = p4 at r4
  generalize p5e : b.2 (6 * i + 5) = p5 at r5
  generalize p0e : b.2 (6 * i) = p0 at r0
  unfold lb_L_law_18
  simp only [ZNc hb, Option.bind_some, if_neg hgo, r0 k m hb]

  by_cases c0 : (p0 &&& 63) = 0
  · obtain ⟨v, k1, m1, k2, m2, d1, e1, d2, d3⟩ := law_call (x_row p1 p2) (x5_row p1 p2) (o_row p1 p2) hO hX hM hb hn hn' hs
    refine ⟨_, d3, fun rec => ?_⟩
    rw [if_pos c0, r1 k m hb, Option.bind_some, r2 k m hb, Option.bind_some, d1, zbd_s, r1 k1 m1 e1, Option.bind_some, r2 k1 m1 e1, Option.bind_some, d2, zbd_s, if_pos rfl, ej]
  simp only [if_neg c0]
  by_cases c1 : (p0 &&& 63) = 1
  · obtain ⟨v, k1, m1, k2, m2, d1, e1, d2, d3⟩ := law_call (x_lay p1 p2 p3) (x5_lay p1 p2 p3) (o_lay p1 p2 p3) hO hX hM hb hn hn' hs
    refine ⟨_, d3, fun rec => ?_⟩
    rw [if_pos c1, r1 k m hb, Option.bind_some, r2 k m hb, Option.bind_some, r3 k m hb, Option.bind_some, d1, zbd_s, r1 k1 m1 e1, Option.bind_some, r2 k1 m1 e1, Option.bind_some, r3 k1 m1 e1, Option.bind_some, d2, zbd_s, if_pos rfl, ej]
  simp only [if_neg c1]
  by_cases c2 : (p0 &&& 63) = 2
  · obtain ⟨v, k1, m1, k2, m2, d1, e1, d2, d3⟩ := law_call (x_at p1 p2) (x5_at p1 p2) (o_at p1 p2) hO hX hM hb hn hn' hs
    refine ⟨_, d3, fun rec => ?_⟩
    rw [if_pos c2, r1 k m hb, Option.bind_some, r2 k m hb, Option.bind_some, d1, zbd_s, r1 k1 m1 e1, Option.bind_some, r2 k1 m1 e1, Option.bind_some, d2, zbd_s, if_pos rfl, ej]
  simp only [if_neg c2]
  by_cases c3 : (p0 &&& 63) = 3
  · obtain ⟨v, k1, m1, k2, m2, d1, e1, d2, d3⟩ := law_call (x_tear p1) (x5_tear p1) (o_tear p1) hO hX hM hb hn hn' hs
    refine ⟨_, d3, fun rec => ?_⟩
    rw [if_pos c3, r1 k m hb, Option.bind_some, d1, zbd_s, r1 k1 m1 e1, Option.bind_some, d2, zbd_s, if_pos rfl, ej]
  simp only [if_neg c3]
  by_cases c4 : (p0 &&& 63) = 4
  · obtain ⟨v, k1, m1, k2, m2, d1, e1, d2, d3⟩ := law_call (x_copy p1 p2 p3 p4 p5) (x5_copy p1 p2 p3 p4 p5) (o_copy p1 p2 p3 p4 p5) hO hX hM hb hn hn' hs
    refine ⟨_, d3, fun rec => ?_⟩
    rw [if_pos c4, r1 k m hb, Option.bind_some, r2 k m hb, Option.bind_some, r3 k m hb, Option.bind_some, r4 k m hb, Option.bind_some, r5 k m hb, Option.bind_some, d1, zbd_s, r1 k1 m1 e1, Option.bind_some, r2 k1 m1 e1, Option.bind_some, r3 k1 m1 e1, Option.bind_some, r4 k1 m1 e1, Option.bind_some, r5 k1 m1 e1, Option.bind_some, d2, zbd_s, if_pos rfl, ej]
  simp only [if_neg c4]
  by_cases c5 : (p0 &&& 63) = 5
  · obtain ⟨v, k1, m1, k2, m2, d1, e1, d2, d3⟩ := law_call (x_mean p1) (x5_mean p1) (o_mean p1) hO hX hM hb hn hn' hs
    refine ⟨_, d3, fun rec => ?_⟩
    rw [if_pos c5, r1 k m hb, Option.bind_some, d1, zbd_s, r1 k1 m1 e1, Option.bind_some, d2, zbd_s, if_pos rfl, ej]
  simp only [if_neg c5]
  by_cases c6 : (p0 &&& 63) = 6
  · obtain ⟨v, k1, m1, k2, m2, d1, e1, d2, d3⟩ := law_call (x_text p1 p2) (x5_text p1 p2) (o_text p1 p2) hO hX hM hb hn hn' hs
    refine ⟨_, d3, fun rec => ?_⟩
    rw [if_pos c6, r1 k m hb, Option.bind_some, r2 k m hb, Option.bind_some, d1, zbd_s, r1 k1 m1 e1, Option.bind_some, r2 k1 m1 e1, Option.bind_some, d2, zbd_s, if_pos rfl, ej]
  simp only [if_neg c6]
  by_cases c7 : (p0 &&& 63) = 7
  · obtain ⟨v, k1, m1, k2, m2, d1, e1, d2, d3⟩ := law_call (x_put p1 p2 p3) (x5_put p1 p2 p3) (o_put p1 p2 p3) hO hX hM hb hn hn' hs
    refine ⟨_, d3, fun rec => ?_⟩
    rw [if_pos c7, r1 k m hb, Option.bind_some, r2 k m hb, Option.bind_some, r3 k m hb, Option.bind_some, d1, zbd_s, r1 k1 m1 e1, Option.bind_some, r2 k1 m1 e1, Option.bind_some, r3 k1 m1 e1, Option.bind_some, d2, zbd_s, if_pos rfl, ej]
  simp only [if_neg c7]
  by_cases c8 : (p0 &&& 63) = 8
  · obtain ⟨v, k1, m1, k2, m2, d1, e1, d2, d3⟩ := law_call (x_fault p1) (x5_fault p1) (o_fault p1) hO hX hM hb hn hn' hs
    refine ⟨_, d3, fun rec => ?_⟩
    rw [if_pos c8, r1 k m hb, Option.bind_some, d1, zbd_s, r1 k1 m1 e1, Option.bind_some, d2, zbd_s, if_pos rfl, ej]
  simp only [if_neg c8]
  by_cases c9 : (p0 &&& 63) = 9
  · obtain ⟨v, k1, m1, k2, m2, d1, e1, d2, d3⟩ := law_call (x_hill p1) (x5_hill p1) (o_hill p1) hO hX hM hb hn hn' hs
    refine ⟨_, d3, fun rec => ?_⟩
    rw [if_pos c9, r1 k m hb, Option.bind_some, d1, zbd_s, r1 k1 m1 e1, Option.bind_some, d2, zbd_s, if_pos rfl, ej]
  simp only [if_neg c9]
  by_cases c10 : (p0 &&& 63) = 10
  · obtain ⟨v, k1, m1, k2, m2, d1, e1, d2, d3⟩ := law_call (x_road p1) (x5_road p1) (o_road p1) hO hX hM hb hn hn' hs
    refine ⟨_, d3, fun rec => ?_⟩
    rw [if_pos c10, r1 k m hb, Option.bind_some, d1, zbd_s, r1 k1 m1 e1, Option.bind_some, d2, zbd_s, if_pos rfl, ej]
  simp only [if_neg c10]
  by_cases c11 : (p0 &&& 63) = 11
  · obtain ⟨v, k1, m1, k2, m2, d1, e1, d2, d3⟩ := law_call (x_about p1 p2) (x5_about p1 p2) (o_about p1 p2) hO hX hM hb hn hn' hs
    refine ⟨_, d3, fun rec => ?_⟩
    rw [if_pos c11, r1 k m hb, Option.bind_some, r2 k m hb, Option.bind_some, d1, zbd_s, r1 k1 m1 e1, Option.bind_some, r2 k1 m1 e1, Option.bind_some, d2, zbd_s, if_pos rfl, ej]
  simp only [if_neg c11]
  by_cases c12 : (p0 &&& 63) = 12
  · obtain ⟨v, k1, m1, k2, m2, d1, e1, d2, d3⟩ := law_call (x_pace p1 p2) (x5_pace p1 p2) (o_pace p1 p2) hO hX hM hb hn hn' hs
    refine ⟨_, d3, fun rec => ?_⟩
    rw [if_pos c12, r1 k m hb, Option.bind_some, r2 k m hb, Option.bind_some, d1, zbd_s, r1 k1 m1 e1, Option.bind_some, r2 k1 m1 e1, Option.bind_some, d2, zbd_s, if_pos rfl, ej]
  simp only [if_neg c12]
  by_cases c13 : (p0 &&& 63) = 13
  · obtain ⟨v, k1, m1, k2, m2, d1, e1, d2, d3⟩ := law_call (x_mark p1 p2) (x5_mark p1 p2) (o_mark p1 p2) hO hX hM hb hn hn' hs
    refine ⟨_, d3, fun rec => ?_⟩
    rw [if_pos c13, r1 k m hb, Option.bind_some, r2 k m hb, Option.bind_some, d1, zbd_s, r1 k1 m1 e1, Option.bind_some, r2 k1 m1 e1, Option.bind_some, d2, zbd_s, if_pos rfl, ej]
  simp only [if_neg c13]
  by_cases c14 : (p0 &&& 63) = 14
  · obtain ⟨v, k1, m1, k2, m2, d1, e1, d2, d3⟩ := law_call (x_head p1 p2) (x5_head p1 p2) (o_head p1 p2) hO hX hM hb hn hn' hs
    refine ⟨_, d3, fun rec => ?_⟩
    rw [if_pos c14, r1 k m hb, Option.bind_some, r2 k m hb, Option.bind_some, d1, zbd_s, r1 k1 m1 e1, Option.bind_some, r2 k1 m1 e1, Option.bind_some, d2, zbd_s, if_pos rfl, ej]
  simp only [if_neg c14]
  by_cases c15 : (p0 &&& 63) = 15
  · obtain ⟨v, k1, m1, k2, m2, d1, e1, d2, d3⟩ := law_call (x_law p1) (x5_law p1) (o_law p1) hO hX hM hb hn hn' hs
    refine ⟨_, d3, fun rec => ?_⟩
    rw [if_pos c15, r1 k m hb, Option.bind_some, d1, zbd_s, r1 k1 m1 e1, Option.bind_some, d2, zbd_s, if_pos rfl, ej]
  simp only [if_neg c15]
  by_cases c16 : (p0 &&& 63) = 16
  · obtain ⟨v, k1, m1, k2, m2, d1, e1, d2, d3⟩ := law_call x_begin x5_begin o_begin hO hX hM hb hn hn' hs
    refine ⟨_, d3, fun rec => ?_⟩
    rw [if_pos c16, d1, zbd_s, d2, zbd_s, if_pos rfl, ej]
  simp only [if_neg c16]
  by_cases c17 : (p0 &&& 63) = 17
  · obtain ⟨v, k1, m1, k2, m2, d1, e1, d2, d3⟩ := law_call (x_go p1) (x5_go p1) (o_go p1) hO hX hM hb hn hn' hs
    refine ⟨_, d3, fun rec => ?_⟩
    rw [if_pos c17, r1 k m hb, Option.bind_some, d1, zbd_s, r1 k1 m1 e1, Option.bind_some, d2, zbd_s, if_pos rfl, ej]
  simp only [if_neg c17]
  by_cases c18 : (p0 &&& 63) = 18
  · obtain ⟨v, k1, m1, k2, m2, d1, e1, d2, d3⟩ := law_call (x_told p1 p2) (x5_told p1 p2) (o_told p1 p2) hO hX hM hb hn hn' hs
    refine ⟨_, d3, fun rec => ?_⟩
    rw [if_pos c18, r1 k m hb, Option.bind_some, r2 k m hb, Option.bind_some, d1, zbd_s, r1 k1 m1 e1, Option.bind_some, r2 k1 m1 e1, Option.bind_some, d2, zbd_s, if_pos rfl, ej]
  simp only [if_neg c18]
  by_cases c19 : (p0 &&& 63) = 19
  · obtain ⟨v, k1, m1, k2, m2, d1, e1, d2, d3⟩ := law_call x_sack x5_sack o_sack hO hX hM hb hn hn' hs
    refine ⟨_, d3, fun rec => ?_⟩
    rw [if_pos c19, d1, zbd_s, d2, zbd_s, if_pos rfl, ej]
  simp only [if_neg c19]
  by_cases c20 : (p0 &&& 63) = 20
  · obtain ⟨v, k1, m1, k2, m2, d1, e1, d2, d3⟩ := law_call (x_passed p1) (x5_passed p1) (o_passed p1) hO hX hM hb hn hn' hs
    refine ⟨_, d3, fun rec => ?_⟩
    rw [if_pos c20, r1 k m hb, Option.bind_some, d1, zbd_s, r1 k1 m1 e1, Option.bind_some, d2, zbd_s, if_pos rfl, ej]
  simp only [if_neg c20]
  by_cases c21 : (p0 &&& 63) = 21
  · obtain ⟨v, k1, m1, k2, m2, d1, e1, d2, d3⟩ := law_call (x_keep p1) (x5_keep p1) (o_keep p1) hO hX hM hb hn hn' hs
    refine ⟨_, d3, fun rec => ?_⟩
    rw [if_pos c21, r1 k m hb, Option.bind_some, d1, zbd_s, r1 k1 m1 e1, Option.bind_some, d2, zbd_s, if_pos rfl, ej]
  simp only [if_neg c21]
  by_cases c22 : (p0 &&& 63) = 22
  · obtain ⟨v, k1, m1, k2, m2, d1, e1, d2, d3⟩ := law_call (x_on p1) (x5_on p1) (o_on p1) hO hX hM hb hn hn' hs
    refine ⟨_, d3, fun rec => ?_⟩
    rw [if_pos c22, r1 k m hb, Option.bind_some, d1, zbd_s, r1 k1 m1 e1, Option.bind_some, d2, zbd_s, if_pos rfl, ej]
  simp only [if_neg c22]
  by_cases c23 : (p0 &&& 63) = 23
  · obtain ⟨v, k1, m1, k2, m2, d1, e1, d2, d3⟩ := law_call x_pays x5_pays o_pays hO hX hM hb hn hn' hs
    refine ⟨_, d3, fun rec => ?_⟩
    rw [if_pos c23, d1, zbd_s, d2, zbd_s, if_pos rfl, ej]
  simp only [if_neg c23]
  by_cases c24 : (p0 &&& 63) = 24
  · obtain ⟨v, k1, m1, k2, m2, d1, e1, d2, d3⟩ := law_call (x_ranks p1) (x5_ranks p1) (o_ranks p1) hO hX hM hb hn hn' hs
    refine ⟨_, d3, fun rec => ?_⟩
    rw [if_pos c24, r1 k m hb, Option.bind_some, d1, zbd_s, r1 k1 m1 e1, Option.bind_some, d2, zbd_s, if_pos rfl, ej]
  simp only [if_neg c24]
  by_cases c25 : (p0 &&& 63) = 25
  · obtain ⟨v, k1, m1, k2, m2, d1, e1, d2, d3⟩ := law_call (x_laws p1) (x5_laws p1) (o_laws p1) hO hX hM hb hn hn' hs
    refine ⟨_, d3, fun rec => ?_⟩
    rw [if_pos c25, r1 k m hb, Option.bind_some, d1, zbd_s, r1 k1 m1 e1, Option.bind_some, d2, zbd_s, if_pos rfl, ej]
  simp only [if_neg c25]
  by_cases c26 : (p0 &&& 63) = 26
  · obtain ⟨v, k1, m1, k2, m2, d1, e1, d2, d3⟩ := law_call (x_best p1 p2) (x5_best p1 p2) (o_best p1 p2) hO hX hM hb hn hn' hs
    refine ⟨_, d3, fun rec => ?_⟩
    rw [if_pos c26, r1 k m hb, Option.bind_some, r2 k m hb, Option.bind_some, d1, zbd_s, r1 k1 m1 e1, Option.bind_some, r2 k1 m1 e1, Option.bind_some, d2, zbd_s, if_pos rfl, ej]
  simp only [if_neg c26]
  by_cases c27 : (p0 &&& 63) = 27
  · obtain ⟨v, k1, m1, k2, m2, d1, e1, d2, d3⟩ := law_call (x_free p1 p2) (x5_free p1 p2) (o_free p1 p2) hO hX hM hb hn hn' hs
    refine ⟨_, d3, fun rec => ?_⟩
    rw [if_pos c27, r1 k m hb, Option.bind_some, r2 k m hb, Option.bind_some, d1, zbd_s, r1 k1 m1 e1, Option.bind_some, r2 k1 m1 e1, Option.bind_some, d2, zbd_s, if_pos rfl, ej]
  simp only [if_neg c27]
  by_cases c28 : (p0 &&& 63) = 28
  · obtain ⟨v, k1, m1, k2, m2, d1, e1, d2, d3⟩ := law_call (x_duel p1 p2 p3) (x5_duel p1 p2 p3) (o_duel p1 p2 p3) hO hX hM hb hn hn' hs
    refine ⟨_, d3, fun rec => ?_⟩
    rw [if_pos c28, r1 k m hb, Option.bind_some, r2 k m hb, Option.bind_some, r3 k m hb, Option.bind_some, d1, zbd_s, r1 k1 m1 e1, Option.bind_some, r2 k1 m1 e1, Option.bind_some, r3 k1 m1 e1, Option.bind_some, d2, zbd_s, if_pos rfl, ej]
  simp only [if_neg c28]
  by_cases c29 : (p0 &&& 63) = 29
  · obtain ⟨v, k1, m1, k2, m2, d1, e1, d2, d3⟩ := law_call (x_pact p1 p2 p3 p4) (x5_pact p1 p2 p3 p4) (o_pact p1 p2 p3 p4) hO hX hM hb hn hn' hs
    refine ⟨_, d3, fun rec => ?_⟩
    rw [if_pos c29, r1 k m hb, Option.bind_some, r2 k m hb, Option.bind_some, r3 k m hb, Option.bind_some, r4 k m hb, Option.bind_some, d1, zbd_s, r1 k1 m1 e1, Option.bind_some, r2 k1 m1 e1, Option.bind_some, r3 k1 m1 e1, Option.bind_some, r4 k1 m1 e1, Option.bind_some, d2, zbd_s, if_pos rfl, ej]
  simp only [if_neg c29]
  by_cases c30 : (p0 &&& 63) = 30
  · obtain ⟨v, k1, m1, k2, m2, d1, e1, d2, d3⟩ := law_call (x_worth p1 p2 p3) (x5_worth p1 p2 p3) (o_worth p1 p2 p3) hO hX hM hb hn hn' hs
    refine ⟨_, d3, fun rec => ?_⟩
    rw [if_pos c30, r1 k m hb, Option.bind_some, r2 k m hb, Option.bind_some, r3 k m hb, Option.bind_some, d1, zbd_s, r1 k1 m1 e1, Option.bind_some, r2 k1 m1 e1, Option.bind_some, r3 k1 m1 e1, Option.bind_some, d2, zbd_s, if_pos rfl, ej]
  simp only [if_neg c30]
  by_cases c31 : (p0 &&& 63) = 31
  · obtain ⟨v, k1, m1, k2, m2, d1, e1, d2, d3⟩ := law_call (x_start p1) (x5_start p1) (o_start p1) hO hX hM hb hn hn' hs
    refine ⟨_, d3, fun rec => ?_⟩
    rw [if_pos c31, r1 k m hb, Option.bind_some, d1, zbd_s, r1 k1 m1 e1, Option.bind_some, d2, zbd_s, if_pos rfl, ej]
  simp only [if_neg c31]
  by_cases c32 : (p0 &&& 63) = 32
  · obtain ⟨v, k1, m1, k2, m2, d1, e1, d2, d3⟩ := law_call (x_fair p1) (x5_fair p1) (o_fair p1) hO hX hM hb hn hn' hs
    refine ⟨_, d3, fun rec => ?_⟩
    rw [if_pos c32, r1 k m hb, Option.bind_some, d1, zbd_s, r1 k1 m1 e1, Option.bind_some, d2, zbd_s, if_pos rfl, ej]
  simp only [if_neg c32]
  by_cases c33 : (p0 &&& 63) = 33
  · obtain ⟨v, k1, m1, k2, m2, d1, e1, d2, d3⟩ := law_call (x_post p1 p2) (x5_post p1 p2) (o_post p1 p2) hO hX hM hb hn hn' hs
    refine ⟨_, d3, fun rec => ?_⟩
    rw [if_pos c33, r1 k m hb, Option.bind_some, r2 k m hb, Option.bind_some, d1, zbd_s, r1 k1 m1 e1, Option.bind_some, r2 k1 m1 e1, Option.bind_some, d2, zbd_s, if_pos rfl, ej]
  simp only [if_neg c33]
  by_cases c34 : (p0 &&& 63) = 34
  · obtain ⟨v, k1, m1, k2, m2, d1, e1, d2, d3⟩ := law_call (x_could p1 p2 p3) (x5_could p1 p2 p3) (o_could p1 p2 p3) hO hX hM hb hn hn' hs
    refine ⟨_, d3, fun rec => ?_⟩
    rw [if_pos c34, r1 k m hb, Option.bind_some, r2 k m hb, Option.bind_some, r3 k m hb, Option.bind_some, d1, zbd_s, r1 k1 m1 e1, Option.bind_some, r2 k1 m1 e1, Option.bind_some, r3 k1 m1 e1, Option.bind_some, d2, zbd_s, if_pos rfl, ej]
  simp only [if_neg c34]
  by_cases c35 : (p0 &&& 63) = 35
  · obtain ⟨v, k1, m1, k2, m2, d1, e1, d2, d3⟩ := law_call (x_odds p1) (x5_odds p1) (o_odds p1) hO hX hM hb hn hn' hs
    refine ⟨_, d3, fun rec => ?_⟩
    rw [if_pos c35, r1 k m hb, Option.bind_some, d1, zbd_s, r1 k1 m1 e1, Option.bind_some, d2, zbd_s, if_pos rfl, ej]
  simp only [if_neg c35]
  by_cases c36 : (p0 &&& 63) = 36
  · obtain ⟨v, k1, m1, k2, m2, d1, e1, d2, d3⟩ := law_call (x_season p1 p2 p3) (x5_season p1 p2 p3) (o_season p1 p2 p3) hO hX hM hb hn hn' hs
    refine ⟨_, d3, fun rec => ?_⟩
    rw [if_pos c36, r1 k m hb, Option.bind_some, r2 k m hb, Option.bind_some, r3 k m hb, Option.bind_some, d1, zbd_s, r1 k1 m1 e1, Option.bind_some, r2 k1 m1 e1, Option.bind_some, r3 k1 m1 e1, Option.bind_some, d2, zbd_s, if_pos rfl, ej]
  simp only [if_neg c36]
  by_cases c37 : (p0 &&& 63) = 37
  · obtain ⟨v, k1, m1, k2, m2, d1, e1, d2, d3⟩ := law_call x_asked x5_asked o_asked hO hX hM hb hn hn' hs
    refine ⟨_, d3, fun rec => ?_⟩
    rw [if_pos c37, d1, zbd_s, d2, zbd_s, if_pos rfl, ej]
  simp only [if_neg c37]
  by_cases c38 : (p0 &&& 63) = 38
  · obtain ⟨v, k1, m1, k2, m2, d1, e1, d2, d3⟩ := law_call x_upper x5_upper o_upper hO hX hM hb hn hn' hs
    refine ⟨_, d3, fun rec => ?_⟩
    rw [if_pos c38, d1, zbd_s, d2, zbd_s, cmpSelf, if_pos rfl, ej]
  simp only [if_neg c38]
  by_cases c39 : (p0 &&& 63) = 39
  · obtain ⟨v, k1, m1, k2, m2, d1, e1, d2, d3⟩ := law_call x_lower x5_lower o_lower hO hX hM hb hn hn' hs
    refine ⟨_, d3, fun rec => ?_⟩
    rw [if_pos c39, d1, zbd_s, d2, zbd_s, cmpSelf, if_pos rfl, ej]
  simp only [if_neg c39]
  by_cases c40 : (p0 &&& 63) = 40
  · obtain ⟨v, k1, m1, k2, m2, d1, e1, d2, d3⟩ := law_call (x_count p1) (x5_count p1) (o_count p1) hO hX hM hb hn hn' hs
    refine ⟨_, d3, fun rec => ?_⟩
    rw [if_pos c40, r1 k m hb, Option.bind_some, d1, zbd_s, r1 k1 m1 e1, Option.bind_some, d2, zbd_s, if_pos rfl, ej]
  simp only [if_neg c40]
  by_cases c41 : (p0 &&& 63) = 41
  · obtain ⟨v, k1, m1, k2, m2, d1, e1, d2, d3⟩ := law_call x_finding x5_finding o_finding hO hX hM hb hn hn' hs
    refine ⟨_, d3, fun rec => ?_⟩
    rw [if_pos c41, d1, zbd_s, d2, zbd_s, if_pos rfl, ej]
  simp only [if_neg c41]
  by_cases c42 : (p0 &&& 63) = 42
  · obtain ⟨v, k1, m1, k2, m2, d1, e1, d2, d3⟩ := law_call (x_findings p1) (x5_findings p1) (o_findings p1) hO hX hM hb hn hn' hs
    refine ⟨_, d3, fun rec => ?_⟩
    rw [if_pos c42, r1 k m hb, Option.bind_some, d1, zbd_s, r1 k1 m1 e1, Option.bind_some, d2, zbd_s, if_pos rfl, ej]
  simp only [if_neg c42]
  by_cases c43 : (p0 &&& 63) = 43
  · obtain ⟨v, k1, m1, k2, m2, d1, e1, d2, d3⟩ := law_call x_digest x5_digest o_digest hO hX hM hb hn hn' hs
    refine ⟨_, d3, fun rec => ?_⟩
    rw [if_pos c43, d1, zbd_s, d2, zbd_s, cmpSelf, if_pos rfl, ej]
  simp only [if_neg c43]
  exact ⟨_, lwI_up H0, fun rec => ej rec _⟩
def hL_ (b : Nat × (Nat → Int32)) : zAH := hL b [] 0
theorem law_ok (b : Nat × (Nat → Int32)) (hL : b.1 ≤ 384) : ∃ h', dn_L_law 1 (hL_ b) = some (1, h') ∧ h'.2.1 ≤ 200 ∧ h'.2.2 ≤ 4000 := by
  unfold dn_L_law hL_
  obtain ⟨k, m, e, hX, hM, hb, hn, hs⟩ := law_init b (fun x1 x5 h8 => lp_L_law_18 1 x1 x5 0 h8)
  rw [e]
  unfold lp_L_law_18
  refine lp_inv (N := b.1 / 6) (I := fun i st h => st = nI (6 * i) ∧ lwI b i h) (Q := fun o => ∃ h', o = some (1, h') ∧ h'.2.1 ≤ 200 ∧ h'.2.2 ≤ 4000) ?_ ?_ (b.1 / 6) 0 2000 0 _ (by omega) (by omega) ⟨rfl, s0, k, m, rfl, okS_0, hX, hM, hb, by omega, by omega, by omega⟩
  · rintro i _ h hi ⟨rfl, H⟩
    left
    obtain ⟨h', q1, q2⟩ := law_step hL (by omega) H
    exact ⟨_, h', ⟨rfl, q1⟩, q2⟩
  · rintro _ h ⟨rfl, s, k', m', rfl, hO, hX', hM', hb', hn1, hn2, hs'⟩ rec
    refine ⟨Z k' m', ?_, ?_, ?_⟩
    · unfold lb_L_law_18 jn_L_law_1465
      rw [ZNc hb', Option.bind_some, if_pos, if_pos (Or.inr rfl)]
      rw [iI_nI, iI_nI, show (6 : Int32) = iI 6 by decide, iI_sub, iI_lt (by omega) (by omega) (by omega) (by omega)]
      omega
    · show kN k' ≤ 200
      omega
    · show kS k' ≤ 4000
      omega
