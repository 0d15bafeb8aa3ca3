/-! fault, hill: the class -/
def XIx (f : Nat → Int32) (n d x : Nat) (m : Nat → Nat → Int32) : Prop := m d 0 = nI (yS f n) ∧ m d 2 = nI x ∧ (∀ y, y < yS f n → m (d + 1) y = iI (rsS f n y)) ∧ (∀ i, i < x → m (d + 2) i = nI (rkK f n i) ∧ m (d + 3) i = nI (rbB f n i) ∧ m (d + 5) i = nI (rzZ f n i) ∧ ∀ j, j < rzZ f n i → m (d + 6) (8 * i + j) = nI (rpP f n i j)) ∧ ∀ i, i < 5 → m (d + 4) i = 0
section
variable {k k' : zK} {m m' : Nat → Nat → Int32} {s : zSt} {f : Nat → Int32} {n A b d p : Nat} {fs : List Value}
theorem X_rr0 {x : Nat} (hA : 104 ≤ A) (hT : tX b n f m) (hn : n ≤ 100) (hd : shp d = 2) (hp : p ≤ 1000) (hx : x ≤ 5) (e2 : m d 2 = nI x) (h : rd f n kdO p = none ∨ 5 ≤ x) : dn_X2_readRunner A (Z (kr k A b d p) m) = some (0, Z (kr k A b d p) m) := by
  unfold dn_X2_readRunner jn_X2_readRunner_28
  rw [KO hA, Option.bind_some, KA1 hA, Option.bind_some, ZI_0_2 hd, Option.bind_some, e2, X_sign hA hT hn (by omega), zbd_s, X_kd, zbd_s, sg_kd, if_pos (show (0 : Int32) = 0 ∨ (0 : Int32) = 1 from Or.inl rfl)]
  cases hk : rd f n kdO p with
  | none => rw [if_pos (show nkX none = -1000 from rfl)]
  | some kd =>
    have h5 := kdO_r (rd_of hk).2
    rw [hk] at h
    have hx5 : ¬ x < 5 := by
      rcases h with h | h
      · cases h
      · omega
    rw [if_neg (nkX_ne (by omega)), if_5 hx5 (by omega)]
theorem X_rr1 {x kd : Nat} (hA : 104 ≤ A) (hT : tX b n f m) (hn : n ≤ 100) (hd : shp d = 2) (hp : p ≤ 1000) (hx : x < 5) (e2 : m d 2 = nI x) (hk : rd f n kdO p = some kd) (hb : rd f n bdO (p + 1) = none) : dn_X2_readRunner A (Z (kr k A b d p) m) = some (0, Z (kr k A b d (p + 1)) m) := by
  have h5 := kdO_r (rd_of hk).2
  have hb' : ir (sgX f n (p + 1)) 49 57 = none := by
    rw [← sg_bd] at hb
    unfold bdO at hb
    cases e : ir (sgX f n (p + 1)) 49 57 with
    | none => rfl
    | some j => rw [e] at hb; cases hb
  unfold dn_X2_readRunner jn_X2_readRunner_28 jn_X2_readRunner_57
  rw [KO hA, Option.bind_some, KA1 hA, Option.bind_some, ZI_0_2 hd, Option.bind_some, e2, X_sign hA hT hn (by omega), zbd_s, X_kd, zbd_s, sg_kd, hk, if_neg (nkX_ne (by omega)), it_5 hx, KI2 hA, Option.bind_some, nA_1, KP2 hA, Option.bind_some, X_sign hA hT hn (by omega), zbd_s]
  rcases ir_n (by omega) (by omega) hb' with h1 | ⟨h1, h2⟩
  · have h1' : sgX f n (p + 1) < 49 := h1
    rw [if_pos h1', if_pos (Or.inl rfl)]
  · have h1' : ¬ sgX f n (p + 1) < 49 := h1
    have h2' : 57 < sgX f n (p + 1) := h2
    rw [if_neg h1', if_pos h2', if_pos (Or.inl rfl)]
theorem X_rr2 {x kd bb : Nat} (hA : 104 ≤ A) (hT : tX b n f m) (hn : n ≤ 100) (hd : shp d = 2) (hbd : b + 1 < d ∨ d + 6 < b) (hp : p ≤ 900) (hx : x < 5) (e2 : m d 2 = nI x) (hk : rd f n kdO p = some kd) (hb : rd f n bdO (p + 1) = some bb) : ∃ m', dn_X2_readRunner A (Z (kr k A b d p) m) = some (if cS f n p = 0 ∨ gP f n (p + 2 + cS f n p) = true then 0 else 1, Z (kr k A b d (p + 2 + cS f n p)) m') ∧ m' d 2 = nI (x + 1) ∧ m' (d + 2) x = nI kd ∧ m' (d + 3) x = nI bb ∧ m' (d + 5) x = nI (cS f n p) ∧ (∀ i, i < cS f n p → m' (d + 6) (8 * x + i) = nI ((rd f n pcO (p + 2 + i)).getD 0)) ∧ (∀ j, j ≠ 2 → m' d j = m d j) ∧ (∀ j, j ≠ x → m' (d + 2) j = m (d + 2) j ∧ m' (d + 3) j = m (d + 3) j ∧ m' (d + 5) j = m (d + 5) j) ∧ (∀ j, j < 8 * x → m' (d + 6) j = m (d + 6) j) ∧ m' (d + 1) = m (d + 1) ∧ m' (d + 4) = m (d + 4) ∧ ∀ a, (a < d ∨ d + 6 < a) → m' a = m a := by
  have s7 := shp_2 _ (shp_le (by omega)) hd
  have h5 := kdO_r (rd_of hk).2
  have hb9 := bdO_r (rd_of hb).2
  have hp1 := (rd_of hb).1
  have hsg : sgX f n (p + 1) = nI (bb + 48) := by rw [show sgX f n (p + 1) = f (p + 1) from if_pos hp1]; exact hb9.2.2
  have e3 : mu (mu m (d + 2) x (nI kd)) (d + 3) x (nI bb) d 2 = nI x := by rw [mu_a _ _ _ _ (by omega), mu_a _ _ _ _ (by omega)]; exact e2
  generalize hm2 : mu (mu (mu m (d + 2) x (nI kd)) (d + 3) x (nI bb)) d 2 (nI (x + 1)) = m2
  have f1 : ∀ a, a ≠ d → a ≠ d + 2 → a ≠ d + 3 → m2 a = m a := fun a h1 h2 h3 => by rw [← hm2, mu_ar _ _ _ h1, mu_ar _ _ _ h3, mu_ar _ _ _ h2]
  have hT2 : tX b n f m2 := hT.fr (f1 b (by omega) (by omega) (by omega)) (f1 (b + 1) (by omega) (by omega) (by omega))
  obtain ⟨m', r1, r2, r3, r4, r5, r6⟩ := X_readPlan (k := k) (p := p + 2) (x := x) hA hT2 hn hd hbd (by omega) hx
  refine ⟨m', ?_, ?_, ?_, ?_, r2, r3, fun j hj => ?_, fun j hj => ⟨?_, ?_, ?_⟩, fun j hj => ?_, ?_, ?_, fun a ha => ?_⟩
  · unfold dn_X2_readRunner
    rw [KO hA, Option.bind_some, KA1 hA, Option.bind_some, ZI_0_2 hd, Option.bind_some, e2, X_sign hA hT hn (by omega), zbd_s, X_kd, zbd_s, sg_kd, hk, if_neg (nkX_ne (by omega)), it_5 hx, KI2 hA, Option.bind_some, nA_1, KP2 hA, Option.bind_some, X_sign hA hT hn (by omega), zbd_s, hsg, if_neg (show ¬ nI (bb + 48) < 49 from nI_nlt (a := bb + 48) (b := 49) (by omega) (by omega)), if_neg (show ¬ 57 < nI (bb + 48) from nI_nlt (a := 57) (b := bb + 48) (by omega) (by omega)), KI2 hA, Option.bind_some, nA_1, KP2 hA, Option.bind_some, KA1 hA, Option.bind_some, ZA_0_3 hd, Option.bind_some, show nkX (some kd) = nI kd from rfl, Zs5 s7.2.1 (by omega), Option.bind_some, KA1 hA, Option.bind_some, ZA_0_4 hd, Option.bind_some, n48 bb (by omega), Zs5 s7.2.2.1 (by omega), Option.bind_some, KA1 hA, Option.bind_some, ZI_0_2 hd, Option.bind_some, e3, nA_1, ZP_0_2 hd, Option.bind_some, hm2, Nat.add_assoc p 1 1, r1, zbd_s]
    refine if_pos ?_
    show (if _ ∨ _ then (0 : Int32) else 1) = 0 ∨ _
    by_cases hc : rnL (gP f n) 8 (p + 2) = 0 ∨ gP f n (p + 2 + rnL (gP f n) 8 (p + 2)) = true
    · rw [if_pos hc]; exact Or.inl rfl
    · rw [if_neg hc]; exact Or.inr rfl
  · rw [r6 d (by omega) (by omega), ← hm2, mu_s]
  · rw [r6 _ (by omega) (by omega), ← hm2, mu_a _ _ _ _ (by omega), mu_a _ _ _ _ (by omega), mu_s]
  · rw [r6 _ (by omega) (by omega), ← hm2, mu_a _ _ _ _ (by omega), mu_s]
  · rw [r6 d (by omega) (by omega), ← hm2, mu_j _ _ hj, mu_a _ _ _ _ (by omega), mu_a _ _ _ _ (by omega)]
  · rw [r6 _ (by omega) (by omega), ← hm2, mu_a _ _ _ _ (by omega), mu_a _ _ _ _ (by omega), mu_j _ _ hj]
  · rw [r6 _ (by omega) (by omega), ← hm2, mu_a _ _ _ _ (by omega), mu_j _ _ hj, mu_a _ _ _ _ (by omega)]
  · rw [r4 j hj, f1 _ (by omega) (by omega) (by omega)]
  · rw [r5 j hj, f1 _ (by omega) (by omega) (by omega)]
  · rw [r6 _ (by omega) (by omega), f1 _ (by omega) (by omega) (by omega)]
  · rw [r6 _ (by omega) (by omega), f1 _ (by omega) (by omega) (by omega)]
  · rw [r6 _ (by omega) (by omega), f1 _ (by omega) (by omega) (by omega)]
theorem X_rdL (hA : 104 ≤ A) (hn : n ≤ 100) (hd : shp d = 2) (hbd : b + 1 < d ∨ d + 6 < b) : ∀ c x m fuel, x + c = 6 → x ≤ 5 → c < fuel → qS f n x ≤ 900 → tX b n f m → XIx f n d x m → ∃ m' q, zlp (lb_X2_readHill_53 A) fuel (nI x) (Z (kr k A b d (qS f n x)) m) = some (rdV (rdL f n c x), Z (kr k A b d q) m') ∧ (∀ a, (a < d ∨ d + 6 < a) → m' a = m a) ∧ ∀ N, rdL f n c x = .inr N → XIx f n d N m' := by
  intro c
  induction c with
  | zero => intro x m fuel h1 h2; omega
  | succ c ih =>
    intro x m fuel h1 h2 h3 h4 hT hP
    obtain ⟨g, rfl⟩ : ∃ g, fuel = g + 1 := ⟨fuel - 1, by omega⟩
    have hgo : ∀ rec, lb_X2_readHill_53 A rec (nI x) (Z (kr k A b d (qS f n x)) m) = if nI (qS f n x) < nI n then zbd (dn_X2_readRunner A (Z (kr k A b d (qS f n x)) m)) (fun x4 h5 => if x4 = 0 then jn_X2_readHill_79 A h5 else zbd (dn_X2_skipBlanks A h5) fun x6 h7 => rec (nI x + 1) h7) else some (-9, Z (kr k A b d (qS f n x)) m) := by
      intro rec
      unfold lb_X2_readHill_53 jn_X2_readHill_94
      rw [jf_5 (by omega), KI2 hA, Option.bind_some, KA0 hA, Option.bind_some, ZI_3_1 hT.1, Option.bind_some, hT.2.2.1]
    have hjn : ∀ q (m' : Nat → Nat → Int32), jn_X2_readHill_79 A (Z (kr k A b d q) m') = some (nI q, Z (kr k A b d q) m') := by
      intro q m'
      unfold jn_X2_readHill_79
      rw [KI2 hA, Option.bind_some]
    by_cases hq : n ≤ qS f n x
    · have e : rdL f n (c + 1) x = .inr x := by rw [rdL, if_pos hq]
      refine ⟨m, _, by rw [zlp_s, hgo, ifLf hq (by omega), e]; rfl, fun _ _ => rfl, fun N hN => ?_⟩
      rw [e] at hN
      cases hN
      exact hP
    · have e6 : ∀ o, bdS f n (qS f n x) x = o → rdL f n (c + 1) x = match o with
          | some q => .inl q
          | none => rdL f n c (x + 1) := by
        intro o ho
        rw [rdL, if_neg hq, ho]
        cases o <;> rfl
      have hgo2 : zlp (lb_X2_readHill_53 A) (g + 1) (nI x) (Z (kr k A b d (qS f n x)) m) = zbd (dn_X2_readRunner A (Z (kr k A b d (qS f n x)) m)) (fun x4 h5 => if x4 = 0 then jn_X2_readHill_79 A h5 else zbd (dn_X2_skipBlanks A h5) fun x6 h7 => zlp (lb_X2_readHill_53 A) g (nI (x + 1)) h7) := by
        rw [zlp_s, hgo, ifLt (by omega) (by omega), nA_1]
      by_cases hAA : rd f n kdO (qS f n x) = none ∨ 5 ≤ x
      · have eb := e6 (some (qS f n x)) (by unfold bdS; rw [if_pos hAA])
        dsimp only at eb
        exact ⟨m, _, by rw [hgo2, X_rr0 hA hT hn hd (by omega) h2 hP.2.1 hAA, zbd_s, ifb0, hjn, eb]; rfl, fun _ _ => rfl, fun N hN => by rw [eb] at hN; cases hN⟩
      · obtain ⟨kd, hk⟩ : ∃ kd, rd f n kdO (qS f n x) = some kd := by
          cases e : rd f n kdO (qS f n x) with
          | none => exact absurd (Or.inl e) hAA
          | some v => exact ⟨v, rfl⟩
        have hx5 : x < 5 := by omega
        by_cases hB : rd f n bdO (qS f n x + 1) = none
        · have eb := e6 (some (qS f n x + 1)) (by unfold bdS; rw [if_neg hAA, if_pos hB])
          dsimp only at eb
          exact ⟨m, _, by rw [hgo2, X_rr1 hA hT hn hd (by omega) hx5 hP.2.1 hk hB, zbd_s, ifb0, hjn, eb]; rfl, fun _ _ => rfl, fun N hN => by rw [eb] at hN; cases hN⟩
        · obtain ⟨bb, hb⟩ : ∃ b, rd f n bdO (qS f n x + 1) = some b := by
            cases e : rd f n bdO (qS f n x + 1) with
            | none => exact absurd e hB
            | some v => exact ⟨v, rfl⟩
          obtain ⟨m', r1, r2, r3, r4, r5, r6, r7, r8, r9, r10, r11, r12⟩ := X_rr2 (k := k) hA hT hn hd hbd h4 hx5 hP.2.1 hk hb
          by_cases hC : cS f n (qS f n x) = 0 ∨ gP f n (qS f n x + 2 + cS f n (qS f n x)) = true
          · have eb := e6 (some (qS f n x + 2 + cS f n (qS f n x))) (by unfold bdS; rw [if_neg hAA, if_neg hB, if_pos hC])
            dsimp only at eb
            exact ⟨m', _, by rw [hgo2, r1, zbd_s, if_pos hC, ifb0, hjn, eb]; rfl, r12, fun N hN => by rw [eb] at hN; cases hN⟩
          · have eb := e6 none (by unfold bdS; rw [if_neg hAA, if_neg hB, if_neg hC])
            dsimp only at eb
            have hc8 := cS_le (f := f) (n := n) (p := qS f n x)
            have hT' : tX b n f m' := hT.fr (r12 b (by omega)) (r12 (b + 1) (by omega))
            have hq1 : qS f n (x + 1) = skp f n (qS f n x + 2 + cS f n (qS f n x)) := rfl
            have hsk := (skp_le (f := f) (n := n) (p := qS f n x + 2 + cS f n (qS f n x))).2
            have hP' : XIx f n d (x + 1) m' := by
              obtain ⟨p1, p2, p3, p4, p5⟩ := hP
              refine ⟨by rw [r7 0 (by omega)]; exact p1, r2, fun y hy => by rw [r10]; exact p3 y hy, fun i hi => ?_, fun i hi => by rw [r11]; exact p5 i hi⟩
              by_cases hix : i = x
              · subst hix
                unfold rkK rbB rzZ rpP
                rw [hk, hb]
                exact ⟨r3, r4, r5, r6⟩
              · obtain ⟨t1, t2, t3, t4⟩ := p4 i (by omega)
                obtain ⟨u1, u2, u3⟩ := r8 i hix
                refine ⟨by rw [u1]; exact t1, by rw [u2]; exact t2, by rw [u3]; exact t3, fun j hj => ?_⟩
                have : rzZ f n i ≤ 8 := cS_le
                rw [r9 _ (by omega)]
                exact t4 j hj
            obtain ⟨m2, q2, a1, a2, a3⟩ := ih (x + 1) m' g (by omega) (by omega) (by omega) (by omega) hT' hP'
            rw [← eb] at a1 a3
            refine ⟨m2, q2, ?_, fun a ha => (a2 a ha).trans (r12 a ha), a3⟩
            rw [hgo2, r1, zbd_s, if_neg hC, ifb1, X_skip hA hT' hn (by omega), zbd_s, ← hq1, a1]
theorem X_readHill (hA : 104 ≤ A) (hn : n ≤ 100) (hd : shp d = 2) (hbd : b + 1 < d ∨ d + 6 < b) (hT : tX b n f m) : ∃ m' q, dn_X2_readHill A (Z (kr k A b d 0) m) = some (rdV (rdS f n), Z (kr k A b d q) m') ∧ (∀ a, (a < d ∨ d + 6 < a) → m' a = m a) ∧ ∀ N, rdS f n = .inr N → XIx f n d N m' := by
  have s7 := shp_2 _ (shp_le (by omega)) hd
  have h0 := (skp_le (f := f) (n := n) (p := 0)).2
  have hY : yS f n ≤ 40 := rnL_le (g := gS f n) 40 _
  obtain ⟨m1, j1, j2, j3⟩ := J_fill (k := kr k A b d 0) (m := mu (mu m d 0 0) d 2 0) (b := d + 4) (L := 5) (v := 0) (by omega) (by omega) (by rw [s7.2.2.2.1]; rfl) (by rw [s7.2.2.2.1]; rfl) (by omega)
  have f1 : ∀ a, a ≠ d → a ≠ d + 4 → m1 a = m a := fun a h1 h2 => by rw [j3 a h2, mu_ar _ _ _ h1, mu_ar _ _ _ h1]
  have e0 : m1 d 0 = 0 := by rw [j3 d (by omega), mu_j _ _ (by omega), mu_s]
  have e2 : m1 d 2 = 0 := by rw [j3 d (by omega), mu_s]
  have hT1 : tX b n f m1 := hT.fr (f1 b (by omega) (by omega)) (f1 (b + 1) (by omega) (by omega))
  have hclear : dn_X0_clear d (Z (kr k A b d 0) m) = some ((), Z (kr k A b d 0) m1) := by
    unfold dn_X0_clear
    rw [ZO_0 hd, Option.bind_some, ZP_0_0 hd, Option.bind_some, ZP_0_2 hd, Option.bind_some, ZA_0_5 hd, Option.bind_some, j1, zbd_s]
  unfold dn_X2_readHill
  rw [KO hA, Option.bind_some, KA1 hA, Option.bind_some, hclear, zbd_s, X_skip hA hT1 hn (by omega), zbd_s, X_sign hA hT1 hn (by omega), zbd_s]
  by_cases hy : skp f n 0 < n ∧ f (skp f n 0) = 121
  · have hsg : sgX f n (skp f n 0) = 121 := by unfold sgX; rw [if_pos hy.1]; exact hy.2
    obtain ⟨m2, r1, r2, r3, r4, r5⟩ := X_readYards (k := k) (p := skp f n 0 + 1) hA hT1 hn hd hbd (by omega) e0
    have r1' : dn_X2_readYards A (Z (kr k A b d (skp f n 0 + 1)) m1) = some (if yS f n = 0 ∨ gS f n (y0S f n + yS f n) = true then 0 else 1, Z (kr k A b d (y0S f n + yS f n)) m2) := r1
    rw [hsg, if_pos rfl, KI2 hA, Option.bind_some, nA_1, KP2 hA, Option.bind_some, r1', zbd_s]
    by_cases hbad : yS f n = 0 ∨ gS f n (y0S f n + yS f n) = true
    · have e : rdS f n = .inl (y0S f n + yS f n) := by
        unfold rdS
        rw [if_neg (fun z => z hy), if_pos hbad]
      refine ⟨m2, _, by rw [if_pos hbad, ifb0, KI2 hA, Option.bind_some, e]; rfl, fun a ha => by rw [r5 a (by omega) (by omega), f1 a (by omega) (by omega)], fun N hN => by rw [e] at hN; cases hN⟩
    · have e : rdS f n = rdL f n 6 0 := by
        unfold rdS
        rw [if_neg (fun z => z hy), if_neg hbad]
      have hT2 : tX b n f m2 := hT1.fr (r5 b (by omega) (by omega)) (r5 (b + 1) (by omega) (by omega))
      have hy0 : y0S f n = skp f n 0 + 1 := rfl
      have hq0 : qS f n 0 = skp f n (y0S f n + yS f n) := rfl
      have hsk := (skp_le (f := f) (n := n) (p := y0S f n + yS f n)).2
      obtain ⟨m3, q, a1, a2, a3⟩ := X_rdL (k := k) hA hn hd hbd 6 0 m2 2000 (by omega) (by omega) (by omega) (by omega) hT2 ⟨r2, by rw [r4 2 (by omega)]; exact e2, fun y hy' => r3 y hy', fun i hi => absurd hi (Nat.not_lt_zero i), fun i hi => by rw [r5 _ (by omega) (by omega)]; exact j2 i hi⟩
      rw [e]
      refine ⟨m3, q, ?_, fun a ha => by rw [a2 a ha, r5 a (by omega) (by omega), f1 a (by omega) (by omega)], a3⟩
      rw [if_neg hbad, ifb1, X_skip hA hT2 hn (by omega), zbd_s, ← hq0]
      exact a1
  · have e : rdS f n = .inl (skp f n 0) := by
      unfold rdS
      rw [if_pos hy]
    have hsg : ¬ sgX f n (skp f n 0) = 121 := by
      unfold sgX
      by_cases hl : skp f n 0 < n
      · rw [if_pos hl]; exact fun z => hy ⟨hl, z⟩
      · rw [if_neg hl]; decide
    exact ⟨m1, _, by rw [if_neg hsg, KI2 hA, Option.bind_some, e]; rfl, fun a ha => f1 a (by omega) (by omega), fun N hN => by rw [e] at hN; cases hN⟩
end
