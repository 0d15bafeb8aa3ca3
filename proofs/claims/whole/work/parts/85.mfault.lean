/-! fault, hill: the reference -/
section
variable {k k' : zK} {m m' : Nat → Nat → Int32} {s : zSt} {f : Nat → Int32} {n t : Nat}
theorem M_it {p : Nat} (ht : t < 4) (hn : n ≤ 100) (hT : tM t n f m) (hp : p < n) (e19 : m 81 19 = nI p) (rec : Unit → zAH → Option (Int32 × zAH)) : lb_X5_faultOf_15 81 (nI t) rec () (Z k m) = if f p = 32 then rec () (Z k (mu m 81 19 (nI (p + 1)))) else if m 81 20 = 0 then zbd (dn_X5_readsRoad 81 (nI t) (Z k m)) (fun x10 h11 => if x10 = 0 then jn_X5_faultOf_81 81 h11 else rec () h11) else zbd (dn_X5_readsRunner 81 (nI t) (Z k m)) fun x8 h9 => if x8 = 0 then jn_X5_faultOf_81 81 h9 else rec () h9 := by
  unfold lb_X5_faultOf_15
  rw [ZI_5_19 s81, Option.bind_some, e19, ZA_5_8 s81, Option.bind_some, Ml_86 ht, Option.bind_some, hT.1, ifLt hp (by omega), Option.bind_some, M_bt ht hn hT (by omega), zbd_s, show bt f n p = f p from if_pos hp, ZI_5_19 s81, Option.bind_some, e19, nA_1, ZP_5_19 s81, Option.bind_some, ZI_5_20 s81, Option.bind_some]
theorem M_ie {p : Nat} (ht : t < 4) (hT : tM t n f m) (hp : n ≤ p) (hp' : p < 2 ^ 31) (e19 : m 81 19 = nI p) (rec : Unit → zAH → Option (Int32 × zAH)) : lb_X5_faultOf_15 81 (nI t) rec () (Z k m) = jn_X5_faultOf_86 81 (nI t) (Z k m) := by
  unfold lb_X5_faultOf_15
  rw [ZI_5_19 s81, Option.bind_some, e19, ZA_5_8 s81, Option.bind_some, Ml_86 ht, Option.bind_some, hT.1, ifLf hp hp']
theorem M_stop {p x y : Nat} (ht : t < 4) (hn : n ≤ 100) (hT : tM t n f m) (hp : p < n) (hx : x ≤ 5) (hy0 : 0 < y) (hy : y ≤ 40) (e19 : m 81 19 = nI p) (e20 : m 81 20 = nI y) (e21 : m 81 21 = nI x) (h32 : ¬ f p = 32) (hk : rd f n kdO p = none) (rec : Unit → zAH → Option (Int32 × zAH)) : lb_X5_faultOf_15 81 (nI t) rec () (Z k m) = some (nI p, Z k m) := by
  rw [M_it ht hn hT hp e19, if_neg h32, e20, ef_0 (by omega) (by omega), M_rr0 ht hn hT hp hx e19 e21 (Or.inl hk), zbd_s, ifb0]
  unfold jn_X5_faultOf_81
  rw [ZI_5_19 s81, Option.bind_some, e19]
theorem PIm.f19 {x : Nat} {v : Int32} (h : PIm f n x m) : PIm f n x (mu m 81 19 v) := by
  obtain ⟨h1, h2, h3, h4⟩ := h
  refine ⟨by rw [mu_j _ _ (by omega)]; exact h1, by rw [mu_j _ _ (by omega)]; exact h2, fun y hy => by rw [mu_a _ _ _ _ (by omega)]; exact h3 y hy, fun i hi => ?_⟩
  rw [mu_ar _ _ _ (show 95 ≠ 81 by omega), mu_ar _ _ _ (show 96 ≠ 81 by omega), mu_ar _ _ _ (show 97 ≠ 81 by omega), mu_ar _ _ _ (show 98 ≠ 81 by omega)]
  exact h4 i hi
theorem M_ph2e {p x g : Nat} (ht : t < 4) (hY0 : 0 < yS f n) (hp : n ≤ p) (hp' : p < 2 ^ 31) (hx : x ≤ 5) (h5 : skp f n p = qS f n x) (hT : tM t n f m) (e19 : m 81 19 = nI p) (hP : PIm f n x m) : ∃ m', zlp (lb_X5_faultOf_15 81 (nI t)) (g + 1) () (Z k m) = some (rdV (rdL f n (6 - x) x), Z k m') ∧ frm m m' ∧ ∀ N, rdL f n (6 - x) x = .inr N → PIm f n N m' := by
  have hY40 : yS f n ≤ 40 := rnL_le (g := gS f n) 40 (y0S f n)
  have hq : n ≤ qS f n x := by
    rw [← h5]
    have := (skp_le (f := f) (n := n) (p := p)).1
    omega
  have e : rdL f n (6 - x) x = .inr x := by rw [show 6 - x = (5 - x) + 1 by omega, rdL, if_pos hq]
  refine ⟨m, ?_, frm.rf, fun N hN => ?_⟩
  · rw [zlp_s, M_ie ht hT hp hp' e19, e]
    unfold jn_X5_faultOf_86 jn_X5_faultOf_104
    rw [ZI_5_20 s81, Option.bind_some, hP.1, ef_0 (by omega) (by omega)]
    rfl
  · rw [e] at hN
    cases hN
    exact hP
theorem M_ph2 (ht : t < 4) (hn : n ≤ 100) (hY0 : 0 < yS f n) : ∀ c p x m fuel, n ≤ p + c → c < fuel → p ≤ n → x ≤ 5 → skp f n p = qS f n x → tM t n f m → m 81 19 = nI p → PIm f n x m → ∃ m', zlp (lb_X5_faultOf_15 81 (nI t)) fuel () (Z k m) = some (rdV (rdL f n (6 - x) x), Z k m') ∧ frm m m' ∧ ∀ N, rdL f n (6 - x) x = .inr N → PIm f n N m' := by
  have hY40 : yS f n ≤ 40 := rnL_le (g := gS f n) 40 (y0S f n)
  intro c
  induction c with
  | zero =>
    intro p x m fuel h1 h2 h3 h4 h5 hT e19 hP
    obtain ⟨g, rfl⟩ : ∃ g, fuel = g + 1 := ⟨fuel - 1, by omega⟩
    exact M_ph2e ht hY0 (by omega) (by omega) h4 h5 hT e19 hP
  | succ c ih =>
    intro p x m fuel h1 h2 h3 h4 h5 hT e19 hP
    obtain ⟨g, rfl⟩ : ∃ g, fuel = g + 1 := ⟨fuel - 1, by omega⟩
    by_cases hpn : p < n
    · by_cases h32 : f p = 32
      · have hF : frm m (mu m 81 19 (nI (p + 1))) := frm.f81 (by omega)
        obtain ⟨m', a1, a2, a3⟩ := ih (p + 1) x (mu m 81 19 (nI (p + 1))) g (by omega) (by omega) (by omega) h4 (by rw [skp_up hn ⟨hpn, h32⟩]; exact h5) (hT.fr hF) (mu_s _ _ _ _) hP.f19
        exact ⟨m', by rw [zlp_s, M_it ht hn hT hpn e19, if_pos h32, a1], frm.tr hF a2, a3⟩
      · have hpq : p = qS f n x := by rw [← h5, skp_no (fun z => h32 z.2)]
        have h20 : ¬ m 81 20 = 0 := by
          rw [hP.1]
          intro z
          have := (nE_0 (by omega)).mp z
          omega
        have hgo : zlp (lb_X5_faultOf_15 81 (nI t)) (g + 1) () (Z k m) = zbd (dn_X5_readsRunner 81 (nI t) (Z k m)) fun x8 h9 => if x8 = 0 then jn_X5_faultOf_81 81 h9 else zlp (lb_X5_faultOf_15 81 (nI t)) g () h9 := by
          rw [zlp_s, M_it ht hn hT hpn e19, if_neg h32, if_neg h20]
        have hjn : ∀ (m' : Nat → Nat → Int32) (q : Nat), m' 81 19 = nI q → jn_X5_faultOf_81 81 (Z k m') = some (nI q, Z k m') := by
          intro m' q hq
          unfold jn_X5_faultOf_81
          rw [ZI_5_19 s81, Option.bind_some, hq]
        have e6 : ∀ o, bdS f n p x = o → rdL f n (6 - x) x = match o with
            | some q => .inl q
            | none => rdL f n (5 - x) (x + 1) := by
          intro o ho
          rw [show 6 - x = (5 - x) + 1 by omega, rdL, if_neg (by omega), ← hpq, ho]
          cases o <;> rfl
        by_cases hA : rd f n kdO p = none ∨ 5 ≤ x
        · have eb := e6 (some p) (by unfold bdS; rw [if_pos hA])
          dsimp only at eb
          refine ⟨m, ?_, frm.rf, fun N hN => by rw [eb] at hN; cases hN⟩
          rw [hgo, M_rr0 ht hn hT hpn h4 e19 hP.2.1 hA, zbd_s, ifb0, hjn m p e19, eb]
          rfl
        · obtain ⟨kd, hk⟩ : ∃ kd, rd f n kdO p = some kd := by
            cases e : rd f n kdO p with
            | none => exact absurd (Or.inl e) hA
            | some v => exact ⟨v, rfl⟩
          have hx5 : x < 5 := by omega
          by_cases hB : rd f n bdO (p + 1) = none
          · have eb := e6 (some (p + 1)) (by unfold bdS; rw [if_neg hA, if_pos hB])
            dsimp only at eb
            refine ⟨mu m 81 19 (nI (p + 1)), ?_, frm.f81 (by omega), fun N hN => by rw [eb] at hN; cases hN⟩
            rw [hgo, M_rr1 ht hn hT hpn hx5 e19 hP.2.1 hk hB, zbd_s, ifb0, hjn _ (p + 1) (mu_s _ _ _ _), eb]
            rfl
          · obtain ⟨b, hb⟩ : ∃ b, rd f n bdO (p + 1) = some b := by
              cases e : rd f n bdO (p + 1) with
              | none => exact absurd e hB
              | some v => exact ⟨v, rfl⟩
            obtain ⟨m', r1, r2, r3, r4, r5, r6, r7⟩ := M_rr2 (k := k) ht hn hT hpn hx5 e19 hP.2.1 hk hb
            have hF : frm m m' := ⟨fun a h1 h2 => r4 a h1 (by omega), fun j hj => r5 j (by omega) (by omega)⟩
            by_cases hC : cS f n p = 0
            · have eb := e6 (some (p + 2 + cS f n p)) (by unfold bdS; rw [if_neg hA, if_neg hB, if_pos (Or.inl hC)])
              dsimp only at eb
              refine ⟨m', ?_, hF, fun N hN => by rw [eb] at hN; cases hN⟩
              rw [hgo, r1, zbd_s, if_pos hC, ifb0, hjn _ _ r2, eb]
              rfl
            · obtain ⟨s1, s2', s3, s4, s5⟩ := r3 hC
              have hp' : p + 2 + cS f n p ≤ n := by
                have := (rd_s (rnL_t (g := gP f n) 8 (p + 2) (cS f n p - 1) (show cS f n p - 1 < cS f n p by omega))).1
                omega
              have hT' := hT.fr hF
              have hP' : PIm f n (x + 1) m' := by
                obtain ⟨p1, p2, p3, p4⟩ := hP
                refine ⟨by rw [r5 20 (by omega) (by omega)]; exact p1, s1, fun y hy => by rw [r4 94 (by omega) (by omega)]; exact p3 y hy, fun i hi => ?_⟩
                by_cases hix : i = x
                · subst hix
                  unfold rkK rbB rzZ rpP
                  rw [← hpq, hk, hb]
                  exact ⟨s2', s3, s4, s5⟩
                · obtain ⟨t1, t2, t3, t4⟩ := p4 i (by omega)
                  obtain ⟨u1, u2, u3⟩ := r6 i hix
                  refine ⟨by rw [u1]; exact t1, by rw [u2]; exact t2, by rw [u3]; exact t3, fun j hj => ?_⟩
                  have : rzZ f n i ≤ 8 := rnL_le (g := gP f n) 8 _
                  rw [r7 _ (by omega)]
                  exact t4 j hj
              by_cases hG : gP f n (p + 2 + cS f n p) = true
              · have eb := e6 (some (p + 2 + cS f n p)) (by unfold bdS; rw [if_neg hA, if_neg hB, if_pos (Or.inr hG)])
                dsimp only at eb
                obtain ⟨w1, w2⟩ := rd_s hG
                obtain ⟨w3, w4⟩ := pcO_x w2
                obtain ⟨g', rfl⟩ : ∃ g', g = g' + 1 := ⟨g - 1, by omega⟩
                refine ⟨m', ?_, hF, fun N hN => by rw [eb] at hN; cases hN⟩
                rw [hgo, r1, zbd_s, if_neg hC, ifb1, zlp_s, M_stop ht hn hT' w1 (by omega) hY0 hY40 r2 hP'.1 s1 w3 (by rw [rd_t w1]; exact w4), eb]
                rfl
              · have eb := e6 none (by unfold bdS; rw [if_neg hA, if_neg hB, if_neg (fun z => z.elim hC hG)])
                dsimp only at eb
                obtain ⟨m2, a1, a2, a3⟩ := ih (p + 2 + cS f n p) (x + 1) m' g (by omega) (by omega) hp' (by omega) (by rw [hpq]; rfl) hT' r2 hP'
                rw [show 6 - (x + 1) = 5 - x by omega, ← eb] at a1 a3
                exact ⟨m2, by rw [hgo, r1, zbd_s, if_neg hC, ifb1, a1], frm.tr hF a2, a3⟩
    · exact M_ph2e ht hY0 (by omega) (by omega) h4 h5 hT e19 hP
theorem M_ph1e {p g : Nat} (ht : t < 4) (hp : n ≤ p) (hp2 : p ≤ n) (hn : n ≤ 100) (h5 : skp f n p = skp f n 0) (hT : tM t n f m) (e19 : m 81 19 = nI p) (e20 : m 81 20 = 0) : ∃ m', zlp (lb_X5_faultOf_15 81 (nI t)) (g + 1) () (Z k m) = some (rdV (rdS f n), Z k m') ∧ frm m m' ∧ ∀ N, rdS f n = .inr N → PIm f n N m' := by
  have hs : skp f n 0 = n := by rw [← h5, skp_no (by omega)]; omega
  have e : rdS f n = .inl n := by
    unfold rdS
    rw [hs, if_pos (by omega)]
  refine ⟨m, ?_, frm.rf, fun N hN => by rw [e] at hN; cases hN⟩
  rw [zlp_s, M_ie ht hT hp (by omega) e19, e]
  unfold jn_X5_faultOf_86 jn_X5_faultOf_104
  rw [ZI_5_20 s81, Option.bind_some, e20, if_pos rfl, ZA_5_8 s81, Option.bind_some, Ml_86 ht, Option.bind_some, hT.1]
  rfl
theorem M_ph1 (ht : t < 4) (hn : n ≤ 100) : ∀ c p m fuel, n ≤ p + c → c < fuel → p ≤ n → skp f n p = skp f n 0 → tM t n f m → m 81 19 = nI p → m 81 20 = 0 → m 81 21 = 0 → ∃ m', zlp (lb_X5_faultOf_15 81 (nI t)) fuel () (Z k m) = some (rdV (rdS f n), Z k m') ∧ frm m m' ∧ ∀ N, rdS f n = .inr N → PIm f n N m' := by
  have hY40 : yS f n ≤ 40 := rnL_le (g := gS f n) 40 (y0S f n)
  intro c
  induction c with
  | zero =>
    intro p m fuel h1 h2 h3 h5 hT e19 e20 e21
    obtain ⟨g, rfl⟩ : ∃ g, fuel = g + 1 := ⟨fuel - 1, by omega⟩
    exact M_ph1e ht (by omega) h3 hn h5 hT e19 e20
  | succ c ih =>
    intro p m fuel h1 h2 h3 h5 hT e19 e20 e21
    obtain ⟨g, rfl⟩ : ∃ g, fuel = g + 1 := ⟨fuel - 1, by omega⟩
    by_cases hpn : p < n
    · by_cases h32 : f p = 32
      · have hF : frm m (mu m 81 19 (nI (p + 1))) := frm.f81 (by omega)
        obtain ⟨m', a1, a2, a3⟩ := ih (p + 1) (mu m 81 19 (nI (p + 1))) g (by omega) (by omega) (by omega) (by rw [skp_up hn ⟨hpn, h32⟩]; exact h5) (hT.fr hF) (mu_s _ _ _ _) (by rw [mu_j _ _ (by omega)]; exact e20) (by rw [mu_j _ _ (by omega)]; exact e21)
        exact ⟨m', by rw [zlp_s, M_it ht hn hT hpn e19, if_pos h32, a1], frm.tr hF a2, a3⟩
      · have hp0 : skp f n 0 = p := by rw [← h5, skp_no (fun z => h32 z.2)]
        have hy0 : y0S f n = p + 1 := by unfold y0S; rw [hp0]
        have hgo : zlp (lb_X5_faultOf_15 81 (nI t)) (g + 1) () (Z k m) = zbd (dn_X5_readsRoad 81 (nI t) (Z k m)) fun x8 h9 => if x8 = 0 then jn_X5_faultOf_81 81 h9 else zlp (lb_X5_faultOf_15 81 (nI t)) g () h9 := by
          rw [zlp_s, M_it ht hn hT hpn e19, if_neg h32, if_pos e20]
        have hjn : ∀ (m' : Nat → Nat → Int32) (q : Nat), m' 81 19 = nI q → jn_X5_faultOf_81 81 (Z k m') = some (nI q, Z k m') := by
          intro m' q hq
          unfold jn_X5_faultOf_81
          rw [ZI_5_19 s81, Option.bind_some, hq]
        obtain ⟨v1, v2⟩ := M_readsRoad (k := k) ht hn hT hpn e19 e20
        by_cases hy : f p = 121
        · obtain ⟨m', r1, r2, r3, r4, r5, r6⟩ := v2 hy
          have eY : rnL (gS f n) 40 (p + 1) = yS f n := by unfold yS; rw [hy0]
          rw [eY] at r1 r2 r3 r4
          have hF : frm m m' := ⟨fun a h1 h2 => r5 a h1 (by omega), fun j hj => r6 j (by omega) (by omega)⟩
          have hT' := hT.fr hF
          by_cases hY : yS f n = 0
          · have e : rdS f n = .inl (y0S f n + yS f n) := by
              unfold rdS
              rw [hp0, if_neg (fun z => z ⟨hpn, hy⟩), if_pos (Or.inl hY)]
            refine ⟨m', ?_, hF, fun N hN => by rw [e] at hN; cases hN⟩
            rw [hgo, r1, zbd_s, if_neg (show ¬ 0 < yS f n by omega), ifb0, hjn _ _ r2, e, hy0]
            rfl
          · have hp' : p + 1 + yS f n ≤ n := by
              have := (rd_s (rnL_t (g := gS f n) 40 (p + 1) (yS f n - 1) (by rw [eY]; omega))).1
              omega
            have hP' : PIm f n 0 m' := ⟨r3, by rw [r6 21 (by omega) (by omega)]; exact e21, fun y hy' => by unfold rsS; rw [hy0]; exact r4 y hy', fun i hi => absurd hi (Nat.not_lt_zero i)⟩
            by_cases hG : gS f n (y0S f n + yS f n) = true
            · have e : rdS f n = .inl (y0S f n + yS f n) := by
                unfold rdS
                rw [hp0, if_neg (fun z => z ⟨hpn, hy⟩), if_pos (Or.inr hG)]
              rw [hy0] at hG
              obtain ⟨w1, w2⟩ := rd_s hG
              obtain ⟨w3, w4⟩ := slO_x w2
              obtain ⟨g', rfl⟩ : ∃ g', g = g' + 1 := ⟨g - 1, by omega⟩
              refine ⟨m', ?_, hF, fun N hN => by rw [e] at hN; cases hN⟩
              rw [hgo, r1, zbd_s, if_pos (show 0 < yS f n by omega), ifb1, zlp_s, M_stop (x := 0) ht hn hT' w1 (by omega) (by omega) hY40 r2 r3 hP'.2.1 w3 (by rw [rd_t w1]; exact w4), e, hy0]
              rfl
            · have e : rdS f n = rdL f n 6 0 := by
                unfold rdS
                rw [hp0, if_neg (fun z => z ⟨hpn, hy⟩), if_neg (fun z => z.elim hY hG)]
              obtain ⟨m2, a1, a2, a3⟩ := M_ph2 (k := k) ht hn (by omega) c (p + 1 + yS f n) 0 m' g (by omega) (by omega) hp' (by omega) (by rw [← hy0]; rfl) hT' r2 hP'
              rw [e]
              exact ⟨m2, by rw [hgo, r1, zbd_s, if_pos (show 0 < yS f n by omega), ifb1]; exact a1, frm.tr hF a2, a3⟩
        · have e : rdS f n = .inl p := by
            unfold rdS
            rw [hp0, if_pos (fun z => hy z.2)]
          refine ⟨m, ?_, frm.rf, fun N hN => by rw [e] at hN; cases hN⟩
          rw [hgo, v1 hy, zbd_s, ifb0, hjn m p e19, e]
          rfl
    · exact M_ph1e ht (by omega) h3 hn h5 hT e19 e20
theorem M_faultOf (ht : t < 4) (hn : n ≤ 100) (hT : tM t n f m) : ∃ m', dn_X5_faultOf 81 (nI t) (Z k m) = some (rdV (rdS f n), Z k m') ∧ frm m m' ∧ ∀ N, rdS f n = .inr N → PIm f n N m' := by
  have hF : frm m (mu (mu (mu m 81 19 0) 81 20 0) 81 21 0) := frm.tr (frm.f81 (by omega)) (frm.tr (frm.f81 (by omega)) (frm.f81 (by omega)))
  obtain ⟨m', a1, a2, a3⟩ := M_ph1 (k := k) ht hn n 0 (mu (mu (mu m 81 19 0) 81 20 0) 81 21 0) 2000 (by omega) (by omega) (by omega) rfl (hT.fr hF) (by rw [mu_j _ _ (by omega), mu_j _ _ (by omega), mu_s]; rfl) (by rw [mu_j _ _ (by omega), mu_s]) (mu_s _ _ _ _)
  refine ⟨m', ?_, frm.tr hF a2, a3⟩
  unfold dn_X5_faultOf lp_X5_faultOf_15
  rw [ZO_5 s81, Option.bind_some, ZP_5_19 s81, Option.bind_some, ZP_5_20 s81, Option.bind_some, ZP_5_21 s81, Option.bind_some]
  exact a1
end
def g_fault (r : Int32) (s : zSt) : Int32 × zSt := match ix r 4 with
  | none => (-1, s)
  | some j => match (sT s).1 j with
    | none => (-3, sFd 1 s)
    | some n => (rdV (rdS ((sT s).2 j) n), s)
theorem x5_fault (r : Int32) : okM (dn_X5_fault 81 r) (g_fault r) := by
  intro s k m hO hM
  have hN5 := hO.2.2.2.1.1.2.1
  unfold dn_X5_fault g_fault jn_X5_fault_31
  rw [ZO_5 s81, Option.bind_some, M_isText, zbd_s]
  cases h : ix r 4 with
  | none => exact ⟨k, m, by rw [ifNo, ifb0], hM, zfM.rf⟩
  | some j =>
    dsimp only
    obtain ⟨rfl, hj⟩ := ix_s (by omega) h
    obtain ⟨q1, q2⟩ := hM.2.2.1 j hj
    rw [ifSo, ifb1, ZA_5_8 s81, Option.bind_some, Ml_86 hj, Option.bind_some, q1]
    cases hw : (sT s).1 j with
    | none =>
      obtain ⟨m1, f1, f2, f3⟩ := M1 hN5 hM
      exact ⟨k, m1, by rw [if_pos (show szM none < 0 by decide), f1, zbd_s], f2, f3⟩
    | some n =>
      have hn := hO.2.2.1 j n hj hw
      rw [hw] at q1
      obtain ⟨m', a1, a2, -⟩ := M_faultOf (k := k) (n := n) (f := (sT s).2 j) hj hn ⟨q1, q2 n hw⟩
      exact ⟨k, m', by rw [if_neg (show ¬ szM (some n) < 0 from nIn0 (by omega)), a1, zbd_s], hM.sc hN5 a2.w, a2.w.zfM⟩
theorem o_fault (r : Int32) : okG (g_fault r) := by
  intro s hO
  unfold g_fault
  cases h : ix r 4 with
  | none => exact hO
  | some j =>
    dsimp only
    cases hw : (sT s).1 j with
    | none => exact hO
    | some n => exact hO
