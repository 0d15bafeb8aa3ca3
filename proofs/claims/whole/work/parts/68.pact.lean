section
variable {k k' : zK} {m m' : Nat → Nat → Int32} {s : zSt} {c : Nat} {H : zHD} {R : zRS}
theorem cnt_pos {P : Nat → Prop} : ∀ n, 0 < cnt P n ↔ ∃ c, c < n ∧ P c := by
  intro n
  induction n with
  | zero => exact ⟨fun h => absurd h (Nat.lt_irrefl 0), fun ⟨c, h, _⟩ => absurd h (Nat.not_lt_zero c)⟩
  | succ n ih =>
    by_cases h : P n
    · rw [cnt_t h]
      exact ⟨fun _ => ⟨n, by omega, h⟩, fun _ => by omega⟩
    · rw [cnt_f h, ih]
      exact ⟨fun ⟨c, h1, h2⟩ => ⟨c, by omega, h2⟩, fun ⟨c, h1, h2⟩ => ⟨c, by rcases Nat.lt_succ_iff_lt_or_eq.mp h1 with q | q; exact q; exact absurd (q ▸ h2) h, h2⟩⟩
def pq (x y r : Int32) (s : zSt) : Option (Nat × Nat × Nat) := match ix x (hN (sH s)) with
  | none => none
  | some x => match ix y (hN (sH s)) with
    | none => none
    | some y => match ir r 1 2 with
      | none => none
      | some kk => if x = y then none else some (x, y, kk)
theorem pq_s {x y r : Int32} {a b kk : Nat} (hN5 : hN (sH s) ≤ 5) (h : pq x y r s = some (a, b, kk)) : x = nI a ∧ y = nI b ∧ r = nI kk ∧ a < hN (sH s) ∧ b < hN (sH s) ∧ a ≠ b ∧ 1 ≤ kk ∧ kk ≤ 2 := by
  unfold pq at h
  cases h1 : ix x (hN (sH s)) with
  | none => rw [h1] at h; cases h
  | some x' =>
    rw [h1] at h
    dsimp only at h
    cases h2 : ix y (hN (sH s)) with
    | none => rw [h2] at h; cases h
    | some y' =>
      rw [h2] at h
      dsimp only at h
      cases h3 : ir r 1 2 with
      | none => rw [h3] at h; cases h
      | some kk' =>
        rw [h3] at h
        dsimp only at h
        by_cases hxy : x' = y'
        · rw [if_pos hxy] at h; cases h
        · rw [if_neg hxy] at h
          cases h
          obtain ⟨e1, e2⟩ := ix_s (by omega) h1
          obtain ⟨e3, e4⟩ := ix_s (by omega) h2
          obtain ⟨e5, e6, e7⟩ := ir_s (by omega) (by omega) h3
          exact ⟨e1, e3, e5, e2, e4, hxy, e6, e7⟩
theorem X_arePact {x y r : Int32} (hN5 : hN (sH s) ≤ 5) (hX : XS s k m) : dn_X4_arePactOf 2 x y r (Z k m) = some (if (pq x y r s).isSome then 1 else 0, Z k m) := by
  unfold dn_X4_arePactOf jn_X4_arePactOf_35 pq
  rw [ZO_4 s2, Option.bind_some, X_isRunner hN5 hX, zbd_s]
  rcases ix_c x (hN (sH s)) (by omega) with ⟨x, hx, rfl, e⟩ | ⟨e, -⟩
  · rw [e, ifSo, ifb1, X_isRunner hN5 hX, zbd_s]
    dsimp only
    rcases ix_c y (hN (sH s)) (by omega) with ⟨y, hy, rfl, e'⟩ | ⟨e', -⟩
    · rw [e', ifSo, ifb1]
      dsimp only
      rcases ir_c r 1 2 (by omega) (by omega) with ⟨kk, k1, k2, rfl, e''⟩ | ⟨e'', h0⟩
      · rw [e'']
        dsimp only
        by_cases hxy : x = y
        · rw [ifEt hxy]; simp only [hxy, if_true]; rfl
        · rw [ifEf hxy (by omega) (by omega), if_neg (fun z => by have := (nL_1 (by omega)).mp z; omega), jf_2 (by omega)]; simp only [hxy, if_false]; rfl
      · rw [e'']
        dsimp only
        by_cases hxy : x = y
        · rw [ifEt hxy]; rfl
        · rw [ifEf hxy (by omega) (by omega)]
          rcases h0 with h0 | ⟨h0, h1⟩
          · have h0' : r < 1 := h0
            rw [if_pos h0']; rfl
          · have h0' : ¬ r < 1 := h0
            have h1' : 2 < r := h1
            rw [if_neg h0', if_pos h1']; rfl
    · rw [e', ifNo, ifb0]; rfl
  · rw [e, ifNo, ifb0]; rfl
theorem ifNo3 {α : Type} {A B : α} : (if (none : Option (Nat × Nat × Nat)).isSome = true then A else B) = B := rfl
theorem ifSo3 {α : Type} {A B : α} {j : Nat × Nat × Nat} : (if (some j).isSome = true then A else B) = A := rfl
noncomputable def ptF (s : zSt) (x y z kk : Nat) : Nat → Int32
  | 0 => -9
  | n + 1 => if rHd (ch2 s x y kk n) = z then (if cnt (fun c => rHd (ch2 s x y kk c) = z) n = 0 then nI n else ptF s x y z kk n) else ptF s x y z kk n
theorem ptF_9 {x y z kk : Nat} : ∀ n, n < 2 ^ 31 → (ptF s x y z kk n = -9 ↔ cnt (fun c => rHd (ch2 s x y kk c) = z) n = 0) := by
  intro n
  induction n with
  | zero => exact fun _ => ⟨fun _ => rfl, fun _ => rfl⟩
  | succ n ih =>
    intro hn
    have ih := ih (by omega)
    by_cases h : rHd (ch2 s x y kk n) = z
    · rw [show ptF s x y z kk (n + 1) = _ from if_pos h, cnt_t (P := fun c => rHd (ch2 s x y kk c) = z) h]
      by_cases h0 : cnt (fun c => rHd (ch2 s x y kk c) = z) n = 0
      · rw [if_pos h0]
        exact ⟨fun q => ((n9 (by omega)).mp q).elim, fun q => by omega⟩
      · rw [if_neg h0, ih]
        exact ⟨fun q => absurd q h0, fun q => by omega⟩
    · rw [show ptF s x y z kk (n + 1) = _ from if_neg h, cnt_f (P := fun c => rHd (ch2 s x y kk c) = z) h]
      exact ih
noncomputable def g_pact (x y z r : Int32) (s : zSt) : Int32 × zSt := match pq x y r s with
  | none => (-1, s)
  | some (x, y, kk) => match ix z (hN (sH s)) with
    | none => (-1, s)
    | some z => if z = x ∨ z = y then (-1, s) else (ptF s x y z kk (4 ^ (2 * kk)), if 0 < cnt (fun c => rHd (ch2 s x y kk c) = z) (4 ^ (2 * kk)) then sAk (nI (cnt (fun c => rHd (ch2 s x y kk c) = z) (4 ^ (2 * kk)))) s else s)
theorem pow42 {kk : Nat} (h : kk ≤ 2) : 4 ^ (2 * kk) ≤ 256 ∧ 1 ≤ 4 ^ (2 * kk) := pow4_le (by omega)
theorem x_pact (x y z r : Int32) : okX (dn_X4_pact 2 x y z r) (g_pact x y z r) := by
  intro s k m hO hX hk
  have hOH := hO.2.2.2.1.1
  have hN5 := hOH.2.1
  unfold dn_X4_pact g_pact jn_X4_pact_29
  rw [ZO_4 s2, Option.bind_some, X_arePact hN5 hX, zbd_s]
  cases hq : pq x y r s with
  | none => exact ⟨k, m, by rw [ifNo3, ifb0], hX, zfX.rf⟩
  | some t =>
    obtain ⟨a, b, kk⟩ := t
    obtain ⟨rfl, rfl, rfl, ha, hb, hab, k1, k2⟩ := pq_s hN5 hq
    rw [ifSo3, ifb1, X_isRunner hN5 hX, zbd_s]
    dsimp only
    rcases ix_c z (hN (sH s)) (by omega) with ⟨z, hz, rfl, e⟩ | ⟨e, -⟩
    · rw [e, ifSo, ifb1]
      dsimp only
      by_cases hza : z = a
      · rw [ifEt hza, if_pos (Or.inl hza)]
        exact ⟨k, m, rfl, hX, zfX.rf⟩
      · rw [ifEf hza (by omega) (by omega)]
        by_cases hzb : z = b
        · rw [ifEt hzb, if_pos (Or.inr hzb)]
          exact ⟨k, m, rfl, hX, zfX.rf⟩
        · rw [ifEf hzb (by omega) (by omega), if_neg (by omega), nM_2, X_pow4 (by omega), zbd_s]
          have hp := pow42 k2
          have hcl := fun n => cnt_le (P := fun c => rHd (ch2 s a b kk c) = z) n
          refine lp_inv (N := 4 ^ (2 * kk)) (I := fun c t h => ∃ m2, t = (ptF s a b z kk c, nI (cnt (fun c => rHd (ch2 s a b kk c) = z) c), nI c) ∧ h = Z k m2 ∧ XS s k m2 ∧ zfX k m k m2) (Q := fun r => ∃ k' m', r = some (ptF s a b z kk (4 ^ (2 * kk)), Z k' m') ∧ XS (if 0 < cnt (fun c => rHd (ch2 s a b kk c) = z) (4 ^ (2 * kk)) then sAk (nI (cnt (fun c => rHd (ch2 s a b kk c) = z) (4 ^ (2 * kk)))) s else s) k' m' ∧ zfX k m k' m') ?_ ?_ (4 ^ (2 * kk)) 0 2000 _ (Z k m) (by omega) (by omega) ⟨m, rfl, rfl, hX, zfX.rf⟩
          · rintro c t h hc ⟨m2, rfl, rfl, h1, h2⟩
            left
            obtain ⟨m3, r1, r2, r3, r4⟩ := X_try2 (code := c) hO h1 ha hb hab k2 (by omega)
            have hh := rHd_le hN5 (ch2_ok (x := a) (y := b) (kk := kk) (code := c) hO)
            have hcc := hcl c
            refine ⟨(ptF s a b z kk (c + 1), nI (cnt (fun c => rHd (ch2 s a b kk c) = z) (c + 1)), nI (c + 1)), Z k m3, ⟨m3, rfl, rfl, h1.tc r3 r4, h2.tr0 fun a ha => r3 a (by omega) (by omega)⟩, fun rec => ?_⟩
            unfold lb_X4_pact_50 jn_X4_pact_90 jn_X4_pact_95
            dsimp only
            rw [ifLt hc (by omega), r1, zbd_s, ZA_4_5 s2, Option.bind_some, ZI_1_3 rfl, Option.bind_some, r2.2.2.2.2.1, nA_1, nA_1]
            by_cases hhx : rHd (ch2 s a b kk c) = z
            · rw [ifEt hhx, cnt_t (P := fun c => rHd (ch2 s a b kk c) = z) hhx, show ptF s a b z kk (c + 1) = _ from if_pos hhx]
              by_cases h0 : cnt (fun c => rHd (ch2 s a b kk c) = z) c = 0
              · rw [et_0 h0, if_pos h0]
              · rw [ef_0 h0 (by omega), if_neg h0]
            · rw [ifEf hhx (by omega) (by omega), cnt_f (P := fun c => rHd (ch2 s a b kk c) = z) hhx, show ptF s a b z kk (c + 1) = _ from if_neg hhx]
          · rintro t h ⟨m2, rfl, rfl, h1, h2⟩ rec
            have hcc := hcl (4 ^ (2 * kk))
            unfold lb_X4_pact_50 jn_X4_pact_101 jn_X4_pact_112
            dsimp only
            rw [ifLf (Nat.le_refl _) (by omega)]
            by_cases h0 : 0 < cnt (fun c => rHd (ch2 s a b kk c) = z) (4 ^ (2 * kk))
            · obtain ⟨x1, x2⟩ := h1.ak (nI (cnt (fun c => rHd (ch2 s a b kk c) = z) (4 ^ (2 * kk))))
              rw [if_pos h0]
              exact ⟨k, _, by rw [jt_0 h0 (by omega), ZP_4_8 s2, Option.bind_some], x1, h2.tr0 x2.1⟩
            · rw [if_neg h0]
              exact ⟨k, m2, by rw [jf_0 h0], h1, h2⟩
    · rw [e]
      exact ⟨k, m, by rw [ifNo, ifb0], hX, zfX.rf⟩
theorem M_layPact {x y z kk : Nat} (hO : okS s) (hM : MS s k m) (hx : x < hN (sH s)) (hy : y < hN (sH s)) (hxy : x ≠ y) (hz : z < hN (sH s)) (hkk : kk ≤ 2) : ∃ m', dn_X5_layPact 81 (nI x) (nI y) (nI z) (nI kk) (Z k m) = some ((), Z k m') ∧ m' 81 34 = ptF s x y z kk (4 ^ (2 * kk)) ∧ m' 81 35 = nI (cnt (fun c => rHd (ch2 s x y kk c) = z) (4 ^ (2 * kk))) ∧ MS s k m' ∧ zFw m m' := by
  have hOH := hO.2.2.2.1.1
  have hN5 := hOH.2.1
  have hp := pow42 hkk
  have hcl := fun n => cnt_le (P := fun c => rHd (ch2 s x y kk c) = z) n
  have hpow : ∀ h : zAH, dn_X5_powerOf 16 (nI kk) h = some (nI (4 ^ (2 * kk)), h) := fun h => by
    rw [show (4 : Nat) ^ (2 * kk) = 16 ^ kk by rw [Nat.pow_mul]]
    exact M_pow (b := 16) (by omega) (by omega)
  obtain ⟨m1, c1, c2, c3, c4⟩ := M_choicesBegin hO hM
  have f1 : zFw m1 (mu m1 81 34 (-9)) := zFw.f81 (by omega)
  have f2 : zFw (mu m1 81 34 (-9)) (mu (mu m1 81 34 (-9)) 81 35 0) := zFw.f81 (by omega)
  generalize hm2 : mu (mu m1 81 34 (-9)) 81 35 0 = m2 at f2
  have hF2 := zFw.tr c4 (zFw.tr f1 f2)
  have hM2 := hM.sc hN5 hF2
  unfold dn_X5_layPact
  rw [ZO_5 s81, Option.bind_some, c1, zbd_s, ZP_5_34 s81, Option.bind_some, ZP_5_35 s81, Option.bind_some, hm2]
  have hcb2 : zCb s (b2 x y) m2 := ⟨by rw [← hm2, mu_j _ _ (by omega), mu_j _ _ (by omega)]; exact (c3 (b2 x y)).1, fun w hw hb => by rw [← hm2, mu_ar _ _ _ (by omega), mu_ar _ _ _ (by omega)]; exact (c3 (b2 x y)).2 w hw hb⟩
  refine lp_inv (N := 4 ^ (2 * kk)) (I := fun c t h => ∃ m3, t = nI c ∧ h = Z k m3 ∧ MS s k m3 ∧ zCb s (b2 x y) m3 ∧ zFw m m3 ∧ m3 81 34 = ptF s x y z kk c ∧ m3 81 35 = nI (cnt (fun c => rHd (ch2 s x y kk c) = z) c)) (Q := fun r => ∃ m', r = some ((), Z k m') ∧ m' 81 34 = ptF s x y z kk (4 ^ (2 * kk)) ∧ m' 81 35 = nI (cnt (fun c => rHd (ch2 s x y kk c) = z) (4 ^ (2 * kk))) ∧ MS s k m' ∧ zFw m m') ?_ ?_ (4 ^ (2 * kk)) 0 2000 _ (Z k m2) (by omega) (by omega) ⟨m2, rfl, rfl, hM2, hcb2, hF2, by rw [← hm2, mu_j _ _ (by omega), mu_s]; rfl, by rw [← hm2, mu_s]; rfl⟩
  · rintro c t h hc ⟨m3, rfl, rfl, h1, hcb, h2, h34, h35⟩
    left
    obtain ⟨m4, m5, r1, r2, r3, r4, r5, r6, r7, r8, r9⟩ := M_try2 (code := c) hO h1 hcb hx hy hxy hkk (by omega)
    have hh := rHd_le hN5 (ch2_ok (x := x) (y := y) (kk := kk) (code := c) hO)
    have hcc := hcl c
    have g34 : m5 81 34 = ptF s x y z kk c := by rw [r9 34 (by omega)]; exact h34
    have g35 : m5 81 35 = nI (cnt (fun c => rHd (ch2 s x y kk c) = z) c) := by rw [r9 35 (by omega)]; exact h35
    by_cases hhx : rHd (ch2 s x y kk c) = z
    · have f3 : zFw m5 (mu m5 81 34 (ptF s x y z kk (c + 1))) := zFw.f81 (by omega)
      have f4 : zFw (mu m5 81 34 (ptF s x y z kk (c + 1))) (mu (mu m5 81 34 (ptF s x y z kk (c + 1))) 81 35 (nI (cnt (fun c => rHd (ch2 s x y kk c) = z) (c + 1)))) := zFw.f81 (by omega)
      have f5 := zFw.tr f3 f4
      generalize hm6 : mu (mu m5 81 34 (ptF s x y z kk (c + 1))) 81 35 (nI (cnt (fun c => rHd (ch2 s x y kk c) = z) (c + 1))) = m6 at f5
      refine ⟨nI (c + 1), Z k m6, ⟨m6, rfl, rfl, r5.sc hN5 f5, ⟨by rw [← hm6, mu_j _ _ (by omega), mu_j _ _ (by omega)]; exact r6.1, fun w hw hb => by rw [← hm6, mu_ar _ _ _ (by omega), mu_ar _ _ _ (by omega)]; exact r6.2 w hw hb⟩, zFw.tr h2 (zFw.tr r7 f5), by rw [← hm6, mu_j _ _ (by omega), mu_s], by rw [← hm6, mu_s]⟩, fun rec => ?_⟩
      unfold lb_X5_layPact_18 jn_X5_layPact_70 jn_X5_layPact_83
      rw [hpow, zbd_s, ifLt hc (by omega), r1, zbd_s, r2, zbd_s, M_v1 r4 (by omega), zbd_s, r3.2.2.1, ifEt hhx, ZI_5_35 s81, Option.bind_some, g35, nA_1]
      rw [cnt_t (P := fun c => rHd (ch2 s x y kk c) = z) hhx, show ptF s x y z kk (c + 1) = _ from if_pos hhx] at hm6
      by_cases h0 : cnt (fun c => rHd (ch2 s x y kk c) = z) c = 0
      · rw [if_pos h0] at hm6
        rw [et_0 h0, ZP_5_34 s81, Option.bind_some, ZI_5_35 s81, Option.bind_some, mu_j _ _ (by omega), g35, nA_1, ZP_5_35 s81, Option.bind_some, hm6]
      · rw [if_neg h0] at hm6
        rw [ef_0 h0 (by omega), ZI_5_34 s81, Option.bind_some, g34, ZP_5_34 s81, Option.bind_some, ZI_5_35 s81, Option.bind_some, mu_j _ _ (by omega), g35, nA_1, ZP_5_35 s81, Option.bind_some, hm6]
    · refine ⟨nI (c + 1), Z k m5, ⟨m5, rfl, rfl, r5, r6, zFw.tr h2 r7, by rw [g34, show ptF s x y z kk (c + 1) = _ from if_neg hhx], by rw [g35, cnt_f (P := fun c => rHd (ch2 s x y kk c) = z) hhx]⟩, fun rec => ?_⟩
      unfold lb_X5_layPact_18 jn_X5_layPact_83
      rw [hpow, zbd_s, ifLt hc (by omega), r1, zbd_s, r2, zbd_s, M_v1 r4 (by omega), zbd_s, r3.2.2.1, ifEf hhx (by omega) (by omega), nA_1]
  · rintro t h ⟨m3, rfl, rfl, h1, hcb, h2, h34, h35⟩ rec
    obtain ⟨m4, n1, n2, n3, n4, n5⟩ := M_nc hN5 h1
    refine ⟨m4, ?_, by rw [n4 81 (by omega)]; exact h34, by rw [n4 81 (by omega)]; exact h35, n3, zFw.tr h2 n5⟩
    unfold lb_X5_layPact_18 jn_X5_layPact_89
    rw [hpow, zbd_s, ifLf (Nat.le_refl _) (by omega), n1, zbd_s]
theorem x5_pact (x y z r : Int32) : okM (dn_X5_pact 81 x y z r) (g_pact x y z r) := by
  intro s k m hO hM
  have hOH := hO.2.2.2.1.1
  have hN5 := hOH.2.1
  unfold dn_X5_pact jn_X5_pact_49 jn_X5_pact_86
  rw [ZO_5 s81, Option.bind_some, M_isRunner hN5 hM, zbd_s]
  have hbad : g_pact x y z r s = (-1, s) → ∃ k' m', some ((-1 : Int32), Z k m) = some ((g_pact x y z r s).1, Z k' m') ∧ MS (g_pact x y z r s).2 k' m' ∧ zfM k m k' m' := fun h => by
    rw [h]; exact ⟨k, m, rfl, hM, zfM.rf⟩
  rcases ix_c x (hN (sH s)) (by omega) with ⟨a, ha, hxa, e1⟩ | ⟨e1, -⟩
  · rw [e1, ifSo, ifb1, M_isRunner hN5 hM, zbd_s]
    rcases ix_c y (hN (sH s)) (by omega) with ⟨b, hb, hyb, e2⟩ | ⟨e2, -⟩
    · rw [e2, ifSo, ifb1, M_isRunner hN5 hM, zbd_s]
      rcases ix_c z (hN (sH s)) (by omega) with ⟨d, hd, hzd, e3⟩ | ⟨e3, -⟩
      · rw [e3, ifSo, ifb1, hxa, hyb, hzd]
        rw [hxa, hyb, hzd] at hbad
        by_cases hab : a = b
        · rw [ifEt hab]
          refine hbad ?_
          have : pq (nI a) (nI b) r s = none := by
            unfold pq
            rw [← hxa, ← hyb, e1, e2]
            dsimp only
            cases ir r 1 2 with
            | none => rfl
            | some kk => exact if_pos hab
          unfold g_pact
          rw [this]
        · rw [ifEf hab (by omega) (by omega)]
          have hpq : pq (nI a) (nI b) r s = match ir r 1 2 with | none => none | some kk => some (a, b, kk) := by
            unfold pq
            rw [← hxa, ← hyb, e1, e2]
            dsimp only
            cases ir r 1 2 with
            | none => rfl
            | some kk => exact if_neg hab
          by_cases had : a = d
          · rw [ifEt had]
            refine hbad ?_
            unfold g_pact
            rw [hpq, ← hzd, e3]
            cases ir r 1 2 with
            | none => rfl
            | some kk => exact if_pos (Or.inl had.symm)
          · rw [ifEf had (by omega) (by omega)]
            by_cases hbd : b = d
            · rw [ifEt hbd]
              refine hbad ?_
              unfold g_pact
              rw [hpq, ← hzd, e3]
              cases ir r 1 2 with
              | none => rfl
              | some kk => exact if_pos (Or.inr hbd.symm)
            · rw [ifEf hbd (by omega) (by omega), show dn_X5_in r 1 2 (Z k m) = _ from M_ir r 1 2 (by omega) (by omega) _, zbd_s]
              rcases ir_c r 1 2 (by omega) (by omega) with ⟨kk, k1, k2, hrk, e4⟩ | ⟨e4, -⟩
              · rw [e4] at hpq
                have hg : g_pact (nI a) (nI b) (nI d) r s = (ptF s a b d kk (4 ^ (2 * kk)), if 0 < cnt (fun c => rHd (ch2 s a b kk c) = d) (4 ^ (2 * kk)) then sAk (nI (cnt (fun c => rHd (ch2 s a b kk c) = d) (4 ^ (2 * kk)))) s else s) := by
                  unfold g_pact
                  rw [hpq, ← hzd, e3]
                  exact if_neg (by omega)
                rw [hg, e4, ifSo, ifb1, hrk]
                obtain ⟨m1, r1, r2, r3, r4, r5⟩ := M_layPact hO hM ha hb hab hd k2
                have hp := pow42 k2
                have hcl := cnt_le (P := fun c => rHd (ch2 s a b kk c) = d) (4 ^ (2 * kk))
                rw [r1, zbd_s, ZI_5_34 s81, Option.bind_some, r2]
                have h9 := ptF_9 (s := s) (x := a) (y := b) (z := d) (kk := kk) (4 ^ (2 * kk)) (by omega)
                by_cases h0 : cnt (fun c => rHd (ch2 s a b kk c) = d) (4 ^ (2 * kk)) = 0
                · have e9 := h9.mpr h0
                  rw [if_pos e9, if_neg (by omega), e9]
                  exact ⟨k, m1, rfl, r4, r5.zfM⟩
                · rw [if_neg (fun q => h0 (h9.mp q)), if_pos (by omega)]
                  obtain ⟨m', t1, t2, t3⟩ := M_tells (v := nI (cnt (fun c => rHd (ch2 s a b kk c) = d) (4 ^ (2 * kk)))) (a := ptF s a b d kk (4 ^ (2 * kk))) hN5 r4
                  exact ⟨k, m', by rw [ZI_5_35 s81, Option.bind_some, r3, Option.bind_some, t1, zbd_s], t2, zfM.tr r5.zfM t3⟩
              · rw [e4] at hpq
                rw [e4, ifNo, ifb0]
                refine hbad ?_
                unfold g_pact
                rw [hpq]
      · rw [e3, ifNo, ifb0]
        refine hbad ?_
        unfold g_pact
        rw [e3]
        cases pq x y r s with
        | none => rfl
        | some t => rfl
    · rw [e2, ifNo, ifb0]
      refine hbad ?_
      unfold g_pact pq
      rw [e1, e2]
  · rw [e1, ifNo, ifb0]
    refine hbad ?_
    unfold g_pact pq
    rw [e1]
theorem o_pact (x y z r : Int32) : okG (g_pact x y z r) := by
  intro s hO
  unfold g_pact
  cases hq : pq x y r s with
  | none => exact hO
  | some t =>
    obtain ⟨a, b, kk⟩ := t
    dsimp only
    cases hz : ix z (hN (sH s)) with
    | none => exact hO
    | some z =>
      dsimp only
      by_cases h : z = a ∨ z = b
      · rw [if_pos h]; exact hO
      · rw [if_neg h]
        by_cases h0 : 0 < cnt (fun c => rHd (ch2 s a b kk c) = z) (4 ^ (2 * kk))
        · show okS (if _ then _ else _)
          rw [if_pos h0]; exact hO
        · show okS (if _ then _ else _)
          rw [if_neg h0]; exact hO
end
