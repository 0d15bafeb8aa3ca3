/-! fault, hill: the calls of the class -/
def zkM (m : Nat → Nat → Int32) : Nat → Nat → Nat → Int32
  | 0 => m
  | j + 1 => mu (zkM m j) (60 + 7 * j) 5 0
section
variable {k k' : zK} {m m' : Nat → Nat → Int32} {s : zSt} {f : Nat → Int32} {n A b d p : Nat}
theorem zkM_p : ∀ i, (∀ a, (a < 60 ∨ 80 < a) → i ≤ 3 → zkM m i a = m a) ∧ ∀ j, j < i → zkM m i (60 + 7 * j) 5 = 0
  | 0 => ⟨fun _ _ _ => rfl, fun j hj => absurd hj (Nat.not_lt_zero j)⟩
  | i + 1 => by
    obtain ⟨h1, h2⟩ := zkM_p i
    refine ⟨fun a ha hi => ?_, fun j hj => ?_⟩
    · rw [zkM, mu_ar _ _ _ (by omega)]
      exact h1 a ha (by omega)
    · rw [zkM]
      by_cases hji : j = i
      · subst hji; rw [mu_s]
      · rw [mu_a _ _ _ _ (by omega)]
        exact h2 j (by omega)
theorem X_hl70 : lp_X4_hill_70 2 0 (Z k m) = jn_X4_hill_93 2 (Z k (zkM m 3)) := by
  unfold lp_X4_hill_70
  refine lp_fn (N := 3) (fun j => nI j) (fun j => Z k (zkM m j)) (fun j hj rec => ?_) (fun rec => ?_) (by omega)
  · unfold lb_X4_hill_70
    rw [it_3 hj, ZA_4_6 s2, Option.bind_some, ZrK hj, Option.bind_some, ZP_1_5 (shp_kp j hj), Option.bind_some, nA_1]
    rfl
  · unfold lb_X4_hill_70
    rw [if_3 (by omega) (by omega)]
theorem X_swap {c : Nat} {F : zAH → Option (Int32 × zAH)} : ((zpF 4 2 2 (.ref d) (Z k m)).bind fun h15 => (zpF 4 3 2 (.ref c) h15).bind F) = F (Z (kcd k d c) m) := by
  rw [ZW_4_2 s2, Option.bind_some, ZW_4_3 s2, Option.bind_some]
  rfl
theorem X_rdInit (hA : 104 ≤ A) : dn_X2_init A b d (Z (kw k A zdf_2) m) = some ((), Z (kr k A b d 0) m) := by
  unfold dn_X2_init
  rw [kw_O hA, Option.bind_some, kw_P hA (show 2 < 3 by omega), Option.bind_some, kw_P hA (show 0 < 3 by omega), Option.bind_some, kw_P hA (show 1 < 3 by omega), Option.bind_some]
  rfl
theorem X_fl {j n : Nat} (hO : okS s) (hX : XS s k m) (hk : 102 ≤ kN k) (hj : j < 4) (hw : (sT s).1 j = some n) : ∃ m' q, (dn_X2_init (kN k + 2) (52 + 2 * j) (kD k) (Z (kw (kb k) (kN k + 2) zdf_2) m) = some ((), Z (kr (kb k) (kN k + 2) (52 + 2 * j) (kD k) 0) m)) ∧ dn_X2_readHill (kN k + 2) (Z (kr (kb k) (kN k + 2) (52 + 2 * j) (kD k) 0) m) = some (rdV (rdS ((sT s).2 j) n), Z (kr (kb k) (kN k + 2) (52 + 2 * j) (kD k) q) m') ∧ (∀ a, (a < kD k ∨ kD k + 6 < a) → m' a = m a) ∧ ∀ N, rdS ((sT s).2 j) n = .inr N → XIx ((sT s).2 j) n (kD k) N m' := by
  have hn := hO.2.2.1 j n hj hw
  obtain ⟨q1, q2⟩ := hX.2.2.1 j hj
  have hkc := hX.2.2.2.1.1
  have hd : shp (kD k) = 2 := by rcases hkc with ⟨-, z⟩ | ⟨-, z⟩ <;> rw [z] <;> rfl
  obtain ⟨t1, t2⟩ := shp_tx j hj
  obtain ⟨m', q, a1, a2, a3⟩ := X_readHill (k := kb k) (A := kN k + 2) (b := 52 + 2 * j) (d := kD k) (n := n) (f := (sT s).2 j) (m := m) (by omega) hn hd (by omega) ⟨t1, t2, by rw [q1, hw]; rfl, q2 n hw⟩
  exact ⟨m', q, X_rdInit (by omega), a1, a2, a3⟩
theorem x_fault (r : Int32) : okX (dn_X4_fault 2 r) (g_fault r) := by
  intro s k m hO hX hk
  obtain ⟨a1, a2, a3⟩ := X_refusalOf (k := k) (r := r) rwP_t hX.2.2.1 hO.2.2.1
  unfold dn_X4_fault g_fault
  rw [ZO_4 s2, Option.bind_some, ZA_4_1 s2, Option.bind_some]
  cases h : ix r 4 with
  | none => exact ⟨k, m, by rw [a1 h, zbd_s, if_neg (by decide)], hX, zfX.rf⟩
  | some j =>
    dsimp only
    cases hw : (sT s).1 j with
    | none =>
      obtain ⟨m', f1, f2, f3⟩ := F1 hX
      exact ⟨k, m', by rw [a2 j h hw, f1, zbd_s, zbd_s, if_neg (by decide)], f2, f3⟩
    | some n =>
      dsimp only
      rw [a3 j n h hw, zbd_s, ifb0]
      obtain ⟨rfl, hj⟩ := ix_s (by omega) h
      obtain ⟨m', q, b1, b2, b3, -⟩ := X_fl hO hX hk hj hw
      have hkc := hX.2.2.2.1.1
      have hX' : XS s k m' := hX.sc (fun a _ _ h3 => b3 a h3) (fun x hx => by rw [b3 35 (by omega)]; exact hX.2.2.2.2.2.2 x hx)
      refine ⟨kr (kb k) (kN k + 2) (52 + 2 * j) (kD k) q, m', ?_, hX', fun a ha => b3 a (by omega), rfl, fun i _ => rfl, ?_, ?_, ?_⟩
      · show (zgA 4 1 2 (znO 2 zdf_2 (Z k m))).bind _ = _
        rw [kw_new hk, ZA_4_1 s2, Option.bind_some, RW_r rwP_t hj, Option.bind_some, ZA_4_3 s2, Option.bind_some]
        show zbd (dn_X2_init (kN k + 2) (52 + 2 * j) (kD k) (Z (kw (kb k) (kN k + 2) zdf_2) m)) _ = _
        rw [b1, zbd_s]
        show zbd (dn_X2_readHill (kN k + 2) (Z (kr (kb k) (kN k + 2) (52 + 2 * j) (kD k) 0) m)) _ = _
        rw [b2, zbd_s]
      · show kN k ≤ kN k + 1
        omega
      · show kN k + 1 ≤ kN k + 1
        omega
      · show kS k + 3 ≤ kS k + 3
        omega
theorem x_hill (r : Int32) : okX (dn_X4_hill 2 r) (g_hill r) := by
  intro s k m hO hX hk
  obtain ⟨a1, a2, a3⟩ := X_refusalOf (k := k) (r := r) rwP_t hX.2.2.1 hO.2.2.1
  unfold dn_X4_hill g_hill
  rw [ZO_4 s2, Option.bind_some, ZA_4_1 s2, Option.bind_some]
  cases h : ix r 4 with
  | none => exact ⟨k, m, by rw [a1 h, zbd_s, if_neg (by decide)], hX, zfX.rf⟩
  | some j =>
    dsimp only
    cases hw : (sT s).1 j with
    | none =>
      obtain ⟨m', f1, f2, f3⟩ := F1 hX
      exact ⟨k, m', by rw [a2 j h hw, f1, zbd_s, zbd_s, if_neg (by decide)], f2, f3⟩
    | some n =>
      dsimp only
      rw [a3 j n h hw, zbd_s, ifb0]
      obtain ⟨rfl, hj⟩ := ix_s (by omega) h
      have hn := hO.2.2.1 j n hj hw
      obtain ⟨m1, q, b1, b2, b3, b4⟩ := X_fl hO hX hk hj hw
      have hkc := hX.2.2.2.1.1
      have hX' : XS s k m1 := hX.sc (fun a _ _ h3 => b3 a h3) (fun x hx => by rw [b3 35 (by omega)]; exact hX.2.2.2.2.2.2 x hx)
      have hgo : ∀ F : Int32 → zAH → Option (Int32 × zAH), (znw 2 zdf_2 (fun x4 h5 => (zgA 4 1 2 h5).bind fun x6 => (zaR 3 x6 (nI j) h5).bind fun x7 => (zgA 4 3 2 h5).bind fun x8 => zbd (dn_X2_init x4 x7 x8 h5) fun x9 h10 => zbd (dn_X2_readHill x4 h10) F) (Z k m)) = F (rdV (rdS ((sT s).2 j) n)) (Z (kr (kb k) (kN k + 2) (52 + 2 * j) (kD k) q) m1) := by
        intro F
        show (zgA 4 1 2 (znO 2 zdf_2 (Z k m))).bind _ = _
        rw [kw_new hk, ZA_4_1 s2, Option.bind_some, RW_r rwP_t hj, Option.bind_some, ZA_4_3 s2, Option.bind_some]
        show zbd (dn_X2_init (kN k + 2) (52 + 2 * j) (kD k) (Z (kw (kb k) (kN k + 2) zdf_2) m)) _ = _
        rw [b1, zbd_s]
        show zbd (dn_X2_readHill (kN k + 2) (Z (kr (kb k) (kN k + 2) (52 + 2 * j) (kD k) 0) m)) _ = _
        rw [b2, zbd_s]
      rw [hgo]
      generalize (sT s).2 j = f at b4 ⊢
      cases hr : rdS f n with
      | inl p =>
        dsimp only
        have hne : ¬ rdV (.inl p) = -9 := by
          have hb := rdS_le hn hr
          exact nI_ne9 (by omega)
        refine ⟨kr (kb k) (kN k + 2) (52 + 2 * j) (kD k) q, m1, by rw [if_neg hne], hX', fun a ha => b3 a (by omega), rfl, fun i _ => rfl, ?_, ?_, ?_⟩
        · show kN k ≤ kN k + 1
          omega
        · show kN k + 1 ≤ kN k + 1
          omega
        · show kS k + 3 ≤ kS k + 3
          omega
      | inr N =>
        dsimp only
        obtain ⟨p1, p2, p3, p4, p5⟩ := b4 N hr
        obtain ⟨w1, w2, w3⟩ := okH_rd hr
        have hN : N ≤ 5 := w1.2.1
        have hY : yS f n ≤ 40 := w1.1
        have hd : shp (kD k) = 2 := by rcases hkc with ⟨-, z⟩ | ⟨-, z⟩ <;> rw [z] <;> rfl
        have s7 := shp_2 _ (shp_le (by omega)) hd
        obtain ⟨d1, d2⟩ := zkM_p (m := mu m1 2 7 0) 3
        generalize hm3 : zkM (mu m1 2 7 0) 3 = m3 at d1 d2
        have g1 : ∀ a, a ≠ 2 → (a < 60 ∨ 80 < a) → m3 a = m1 a := fun a h1 h2 => by rw [d1 a h2 (by omega), mu_ar _ _ _ h1]
        have hH3 : encH (kD k) (hdS f n N) m3 := by
          refine ⟨hd, ?_, ?_, fun y hy => ?_, fun x hx => ?_⟩
          · rw [g1 _ (by omega) (by omega)]; exact p1
          · rw [g1 _ (by omega) (by omega)]; exact p2
          · rw [g1 _ (by omega) (by omega)]; exact p3 y hy
          · obtain ⟨t1, t2, t3, t4⟩ := p4 x hx
            rw [g1 (kD k + 2) (by omega) (by omega), g1 (kD k + 5) (by omega) (by omega), g1 (kD k + 6) (by omega) (by omega)]
            exact ⟨t1, t3, t4⟩
        have hv3 : ∀ i, i < N → m3 (kD k + 4) i = nI 0 ∧ m3 (kD k + 3) i = nI (rbB f n i) := by
          intro i hi
          rw [g1 (kD k + 4) (by omega) (by omega), g1 (kD k + 3) (by omega) (by omega)]
          exact ⟨p5 i (by omega), (p4 i hi).2.1⟩
        obtain ⟨m4, r1, r2, r3⟩ := X_setOff (k := kcd (kr (kb k) (kN k + 2) (52 + 2 * j) (kD k) q) (kD k) (kC k)) (a := 19) (c := kD k) (ah := kD k + 4) (ab := kD k + 3) (hd := fun _ => 0) (br := rbB f n) (H := hdS f n N) w1 rfl s7.2.2.2.1 s7.2.2.1 (by omega) (by omega) (fun x _ => by omega) hH3 hv3
        have hall : ∀ a, a ≠ 2 → (a < 19 ∨ 25 < a) → (a < kD k ∨ kD k + 6 < a) → (a < 60 ∨ 80 < a) → m4 a = m a := fun a h1 h2 h3 h4 => by
          rw [r3 a (by omega), g1 a h1 h4, b3 a h3]
        have h2 : ∀ i, i ≠ 7 → m4 2 i = m 2 i := fun i hi => by
          rw [r3 2 (by omega), d1 2 (by omega) (by omega), mu_j _ _ hi, b3 2 (by omega)]
        have hH4 := encH_fr rfl hH3 r3
        refine ⟨kcd (kr (kb k) (kN k + 2) (52 + 2 * j) (kD k) q) (kD k) (kC k), m4, ?_, ⟨⟨?_, ?_, ?_, hX.1.2.2.2.1, hX.1.2.2.2.2.1, fun f' hf' => ?_⟩, ?_, ?_, ⟨?_, hH4, fun x hx => ?_⟩, r2, fun i hi => ⟨?_, fun R' hR => by cases hR⟩, fun x hx => ?_⟩, fun a ha => ?_, rfl, fun i _ => rfl, ?_, ?_, ?_⟩
        · rw [if_pos (show rdV (.inr N) = -9 from rfl), ZA_4_2 s2, Option.bind_some, ZA_4_3 s2, Option.bind_some]
          show ((zpF 4 2 2 (.ref (kD k)) (Z (kr (kb k) (kN k + 2) (52 + 2 * j) (kD k) q) m1)).bind fun h15 => (zpF 4 3 2 (.ref (kC k)) h15).bind fun h16 => (zpF 4 7 2 (.int 0) h16).bind fun h17 => lp_X4_hill_70 2 0 h17) = _
          rw [X_swap, ZP_4_7 s2, Option.bind_some, X_hl70, hm3]
          unfold jn_X4_hill_93
          rw [ZA_4_4 s2, Option.bind_some, ZA_4_2 s2, Option.bind_some, Option.bind_some]
          show ((zgA 0 5 (kD k) (Z (kcd (kr (kb k) (kN k + 2) (52 + 2 * j) (kD k) q) (kD k) (kC k)) m3)).bind fun x4 => (some (kD k)).bind fun x5 => (zgA 0 4 x5 (Z (kcd (kr (kb k) (kN k + 2) (52 + 2 * j) (kD k) q) (kD k) (kC k)) m3)).bind fun x6 => zbd (dn_X1_setOff 19 (kD k) x4 x6 (Z (kcd (kr (kb k) (kN k + 2) (52 + 2 * j) (kD k) q) (kD k) (kC k)) m3)) fun x7 h8 => (zgA 4 2 2 h8).bind fun x9 => (zgI 0 2 x9 h8).bind fun x10 => some (x10, h8)) = _
          rw [ZA_0_5 hd, Option.bind_some, Option.bind_some, ZA_0_4 hd, Option.bind_some, r1, zbd_s, ZA_4_2 s2, Option.bind_some]
          show ((zgI 0 2 (kD k) (Z (kcd (kr (kb k) (kN k + 2) (52 + 2 * j) (kD k) q) (kD k) (kC k)) m4)).bind fun x10 => some (x10, _)) = _
          rw [ZI_0_2 hd, Option.bind_some, hH4.2.2.1]
          rfl
        · show m4 2 7 = nI 0
          rw [r3 2 (by omega), d1 2 (by omega) (by omega), mu_s]
          rfl
        · rw [h2 8 (by omega)]; exact hX.1.2.1
        · rw [h2 11 (by omega)]; exact hX.1.2.2.1
        · rw [hall 34 (by omega) (by omega) (by omega) (by omega)]; exact hX.1.2.2.2.2.2 f' hf'
        · exact hX.2.1.fr fun a h1 h2 => hall a (by omega) (by omega) (by omega) (by omega)
        · exact hX.2.2.1.fr fun a h1 h2 => hall a (by omega) (by omega) (by omega) (by omega)
        · exact hkc.elim (fun z => Or.inr ⟨z.2, z.1⟩) (fun z => Or.inl ⟨z.2, z.1⟩)
        · show m4 (kD k + 3) x = nI (rbB f n x) ∧ m4 (kD k + 4) x = nI 0
          rw [r3 (kD k + 3) (by omega), r3 (kD k + 4) (by omega)]
          exact ⟨(hv3 x hx).2, (hv3 x hx).1⟩
        · rw [r3 _ (by omega), d2 i hi]
          rfl
        · rw [hall 35 (by omega) (by omega) (by omega) (by omega)]; exact hX.2.2.2.2.2.2 x hx
        · exact hall a (by omega) (by omega) (by omega) (by omega)
        · show kN k ≤ kN k + 1
          omega
        · show kN k + 1 ≤ kN k + 1
          omega
        · show kS k + 3 ≤ kS k + 3
          omega
theorem o_hill (r : Int32) : okG (g_hill r) := by
  intro s hO
  unfold g_hill
  cases h : ix r 4 with
  | none => exact hO
  | some j =>
    dsimp only
    cases hw : (sT s).1 j with
    | none => exact hO
    | some n =>
      dsimp only
      cases hr : rdS ((sT s).2 j) n with
      | inl p => exact hO
      | inr N =>
        obtain ⟨w1, w2, w3⟩ := okH_rd hr
        dsimp only
        refine ⟨Nat.zero_le _, hO.2.1, hO.2.2.1, ⟨w1, fun z => ?_⟩, fun x hx => ?_, okR_beg (fun x _ => Nat.zero_le _) (fun x hx => ?_), fun j R' _ z => ?_⟩
        · have z' : yS ((sT s).2 j) n = 0 := z
          omega
        · have := w3 x hx
          exact ⟨this.1, this.2, Nat.zero_le _⟩
        · have := w3 x hx
          exact ⟨this.1, by omega⟩
        · cases z
end
