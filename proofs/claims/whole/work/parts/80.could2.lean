section
variable {k k' : zK} {m m' : Nat → Nat → Int32} {s : zSt} {c : Nat} {H : zHD} {R : zRS}
theorem M_runnersIn {a n : Nat} {f : Nat → Int32} (hN5 : hN (sH s) ≤ 5) (hM : MS s k m) (ha : a < 6) (e : m 83 a = nI n) (hr : ∀ i, i < n → m 84 (60 * a + i) = f i) (hn : n ≤ 60) : dn_X5_runnersIn 81 (nI a) (Z k m) = some (rM (rnI f (hN (sH s)) n), Z k m) := by
  unfold dn_X5_runnersIn lp_X5_runnersIn_4
  rw [ZO_5 s81, Option.bind_some]
  refine lp_inv (N := n) (I := fun i t h => ∃ x, rnI f (hN (sH s)) i = some x ∧ t = (nI x, nI i) ∧ h = Z k m) (Q := fun r => r = some (rM (rnI f (hN (sH s)) n), Z k m)) ?_ ?_ n 0 2000 _ _ (by omega) (by omega) ⟨0, rfl, rfl, rfl⟩
  · rintro i t h hi ⟨x, h1, rfl, rfl⟩
    have hx := rnI_lt hN5 i x h1
    have hno : rnI f (hN (sH s)) (i + 1) = none → rM (rnI f (hN (sH s)) n) = -1 := fun z => by
      rw [show n = i + 1 + (n - (i + 1)) by omega, rnI_no z]
      rfl
    have hgo : ∀ rec, lb_X5_runnersIn_4 81 (nI a) rec (nI x, nI i) (Z k m) = if (if (ix (f i) (hN (sH s))).isSome then (1 : Int32) else 0) = 0 then some (-1, Z k m) else zbd (dn_X5_has (nI x) (f i) (Z k m)) fun x7 h8 => if x7 = 0 then rec (nI x ||| (1 <<< (f i &&& 31)), nI (i + 1)) h8 else some (-1, h8) := by
      intro rec
      unfold lb_X5_runnersIn_4 jn_X5_runnersIn_40
      dsimp only
      rw [ZA_5_5 s81, Option.bind_some, Ml_83 ha, Option.bind_some, e, ifLt hi (by omega), M_rowAt ha (by omega), zbd_s, hr i hi, M_isRunner hN5 hM, zbd_s, nA_1]
    rcases ix_c (f i) (hN (sH s)) (by omega) with ⟨y, hy, ey, e1⟩ | ⟨e1, h0⟩
    · by_cases hbt : x.testBit y = true
      · right
        intro rec
        have hn1 : rnI f (hN (sH s)) (i + 1) = none := by
          rw [rnI, h1]
          dsimp only
          rw [e1]
          dsimp only
          rw [if_pos hbt]
        rw [hgo, hno hn1, e1, ifSo, ifb1, ey, M_has hx (by omega), zbd_s, if_pos hbt, ifb1]
      · left
        have hn1 : rnI f (hN (sH s)) (i + 1) = some (x ||| 2 ^ y) := by
          rw [rnI, h1]
          dsimp only
          rw [e1]
          dsimp only
          rw [if_neg hbt]
        refine ⟨(nI (x ||| 2 ^ y), nI (i + 1)), Z k m, ⟨_, hn1, rfl, rfl⟩, fun rec => ?_⟩
        rw [hgo, e1, ifSo, ifb1, ey, M_has hx (by omega), zbd_s, if_neg hbt, ifb0, (bt_or x hx y (by omega)).1]
    · right
      intro rec
      have hn1 : rnI f (hN (sH s)) (i + 1) = none := by
        rw [rnI, h1]
        dsimp only
        rw [e1]
      rw [hgo, hno hn1, e1, ifNo, ifb0]
  · rintro t h ⟨x, h1, rfl, rfl⟩ rec
    unfold lb_X5_runnersIn_4 jn_X5_runnersIn_55
    dsimp only
    rw [ZA_5_5 s81, Option.bind_some, Ml_83 ha, Option.bind_some, e, ifLf (Nat.le_refl _) (by omega), h1]
    rfl
theorem M_placeIn {a n : Nat} {f : Nat → Int32} {v : Int32} (ha : a < 6) (e : m 83 a = nI n) (hr : ∀ i, i < n → m 84 (60 * a + i) = f i) (hn : n ≤ 60) : dn_X5_placeIn 81 (nI a) v (Z k m) = some (plF f v n 0, Z k m) := by
  unfold dn_X5_placeIn lp_X5_placeIn_2
  rw [ZO_5 s81, Option.bind_some]
  refine lp_inv (N := n) (I := fun i t h => plF f v (n - i) i = plF f v n 0 ∧ t = nI i ∧ h = Z k m) (Q := fun r => r = some (plF f v n 0, Z k m)) ?_ ?_ n 0 2000 _ _ (by omega) (by omega) ⟨rfl, rfl, rfl⟩
  · rintro i t h hi ⟨h1, rfl, rfl⟩
    obtain ⟨d, hd⟩ : ∃ d, n - i = d + 1 := ⟨n - i - 1, by omega⟩
    rw [hd, plF] at h1
    have hgo : ∀ rec, lb_X5_placeIn_2 81 (nI a) v rec (nI i) (Z k m) = if f i = v then some (nI i, Z k m) else rec (nI (i + 1)) (Z k m) := by
      intro rec
      unfold lb_X5_placeIn_2 jn_X5_placeIn_22
      rw [ZA_5_5 s81, Option.bind_some, Ml_83 ha, Option.bind_some, e, ifLt hi (by omega), M_rowAt ha (by omega), zbd_s, hr i hi, nA_1]
    by_cases hv : f i = v
    · right
      intro rec
      rw [if_pos hv] at h1
      rw [hgo, if_pos hv, h1]
    · left
      rw [if_neg hv] at h1
      refine ⟨nI (i + 1), Z k m, ⟨by rw [show n - (i + 1) = d by omega]; exact h1, rfl, rfl⟩, fun rec => by rw [hgo, if_neg hv]⟩
  · rintro t h ⟨h1, rfl, rfl⟩ rec
    unfold lb_X5_placeIn_2 jn_X5_placeIn_30
    rw [ZA_5_5 s81, Option.bind_some, Ml_83 ha, Option.bind_some, e, ifLf (Nat.le_refl _) (by omega), ← h1, Nat.sub_self]
    rfl
theorem M_ov {a b n : Nat} {f : Nat → Int32} {p : Int32 → Int32} {set : Int32} (ha : a < 6) (e : m 83 a = nI n) (hr : ∀ i, i < n → m 84 (60 * a + i) = f i) (hn : n ≤ 60) (hp : ∀ v, dn_X5_placeIn 81 (nI b) v (Z k m) = some (p v, Z k m)) : lp_X5_could_110 81 (nI a) (nI b) set (0, 0) (Z k m) = some (if ovO f p n n = 0 then set else ovO f p n n, Z k m) := by
  unfold lp_X5_could_110
  refine lp_fn (N := n) (fun i => (ovO f p n i, nI i)) (fun _ => Z k m) (fun i hi rec => ?_) (fun rec => ?_) (by omega)
  · unfold lb_X5_could_110 lp_X5_could_127
    dsimp only
    rw [ZA_5_5 s81, Option.bind_some, Ml_83 ha, Option.bind_some, e, ifLt hi (by omega), nA_1]
    refine lp_fn (N := n - (i + 1)) (fun c => (ovJ f p i c (ovO f p n i), nI (i + 1 + c))) (fun _ => Z k m) (fun c hc rec => ?_) (fun rec => ?_) (by omega)
    · unfold lb_X5_could_127 jn_X5_could_183
      dsimp only
      rw [ZA_5_5 s81, Option.bind_some, Ml_83 ha, Option.bind_some, e, ifLt (by omega) (by omega), M_rowAt ha (by omega), zbd_s, hr i hi, M_rowAt ha (by omega), zbd_s, hr _ (by omega), hp, zbd_s, hp, zbd_s, nA_1, ovJ, Int32.or_zero]
      by_cases hlt : p (f (i + 1 + c)) < p (f i)
      · rw [if_pos hlt, if_pos hlt]
        rfl
      · rw [if_neg hlt, if_neg hlt]
        rfl
    · unfold lb_X5_could_127 jn_X5_could_192
      dsimp only
      rw [ZA_5_5 s81, Option.bind_some, Ml_83 ha, Option.bind_some, e, ifLf (by omega) (by omega), nA_1]
      rfl
  · unfold lb_X5_could_110 jn_X5_could_198 jn_X5_could_209
    dsimp only
    rw [ZA_5_5 s81, Option.bind_some, Ml_83 ha, Option.bind_some, e, ifLf (Nat.le_refl _) (by omega)]
    by_cases ho : ovO f p n n = 0
    · rw [if_pos ho, if_pos ho]
    · rw [if_neg ho, if_neg ho]
theorem x5_could (r l set : Int32) : okM (dn_X5_could 81 r l set) (g_could r l set) := by
  intro s k m hO hM
  have hOH := hO.2.2.2.1.1
  have hN5 := hOH.2.1
  have hG := hM.2.2.2.1
  obtain ⟨p1, p2, p3⟩ := sh_all (hN (sH s)) (by omega)
  unfold dn_X5_could g_could jn_X5_could_30
  rw [ZO_5 s81, Option.bind_some, M_isRow, zbd_s]
  cases h : ix r 6 with
  | none => exact ⟨k, m, by rw [ifNo, ifb0], hM, zfM.rf⟩
  | some a =>
    dsimp only
    obtain ⟨rfl, ha⟩ := ix_s (by omega) h
    rw [ifSo, ifb1, M_isRow, zbd_s]
    cases h' : ix l 6 with
    | none => exact ⟨k, m, by rw [ifNo, ifb0], hM, zfM.rf⟩
    | some b =>
      dsimp only
      obtain ⟨rfl, hb⟩ := ix_s (by omega) h'
      rw [ifSo, ifb1, ZI_5_12 s81, Option.bind_some, hG.1.2.1, p1, M_ix set (2 ^ hN (sH s)) (by omega), zbd_s]
      cases e1 : ix set (2 ^ hN (sH s)) with
      | none => exact ⟨k, m, by rw [ifNo, ifb0], hM, zfM.rf⟩
      | some z =>
        dsimp only
        obtain ⟨q1, q2⟩ := hM.2.1 a ha
        obtain ⟨q3, q4⟩ := hM.2.1 b hb
        rw [ifSo, ifb1, ZA_5_5 s81, Option.bind_some, Ml_83 ha, Option.bind_some, Option.bind_some, Ml_83 hb, Option.bind_some, q1, q3]
        unfold cdS jn_X5_could_50
        obtain ⟨m1, f1, f2, f3⟩ := M1 hN5 hM
        cases hwa : (sW s).1 a with
        | none => exact ⟨k, m1, by rw [if_pos (show szM none < 0 by decide), f1, zbd_s], f2, f3⟩
        | some n =>
          have hn := hO.2.1 a n ha hwa
          rw [if_neg (show ¬ szM (some n) < 0 from nIn0 (by omega))]
          cases hwb : (sW s).1 b with
          | none => exact ⟨k, m1, by rw [if_pos (show szM none < 0 by decide), f1, zbd_s], f2, f3⟩
          | some n' =>
            have hn' := hO.2.1 b n' hb hwb
            dsimp only
            rw [hwa] at q1
            rw [hwb] at q3
            have q1' : m 83 a = nI n := q1
            have q3' : m 83 b = nI n' := q3
            rw [if_neg (show ¬ szM (some n') < 0 from nIn0 (by omega)), Option.bind_some, Ml_83 ha, Option.bind_some, Option.bind_some, Ml_83 hb, Option.bind_some, q1', q3']
            by_cases hnn : n = n'
            · subst hnn
              have ra : ∀ i, i < n → m 84 (60 * a + i) = (sW s).2 a i := q2 n hwa
              have rb : ∀ i, i < n → m 84 (60 * b + i) = (sW s).2 b i := q4 n hwb
              rw [ifEt rfl, if_pos rfl, M_runnersIn hN5 hM ha q1' ra (by omega), zbd_s]
              unfold jn_X5_could_98
              obtain ⟨m3, g1, g2, g3⟩ := M3 hN5 hM
              cases hra : rnI ((sW s).2 a) (hN (sH s)) n with
              | none => exact ⟨k, m3, by rw [if_pos (show rM none < 0 by decide), g1, zbd_s], g2, g3⟩
              | some x =>
                have hx := rnI_lt hN5 n x hra
                dsimp only
                rw [if_neg (show ¬ rM (some x) < 0 from nIn0 (by omega)), M_runnersIn hN5 hM ha q1' ra (by omega), zbd_s, hra, M_runnersIn hN5 hM hb q3' rb (by omega), zbd_s]
                by_cases hrb : rnI ((sW s).2 b) (hN (sH s)) n = some x
                · rw [if_pos hrb, hrb, if_pos rfl, M_ov (p := fun v => plF ((sW s).2 b) v n 0) ha q1' ra (by omega) (fun v => M_placeIn hb q3' rb (by omega))]
                  exact ⟨k, m, rfl, hM, zfM.rf⟩
                · rw [if_neg hrb, if_neg, g1, zbd_s]
                  · exact ⟨k, m3, rfl, g2, g3⟩
                  · intro z
                    cases hrb' : rnI ((sW s).2 b) (hN (sH s)) n with
                    | none =>
                      rw [hrb'] at z
                      exact ((nm1 (a := x) (by omega)).mp z).elim
                    | some x' =>
                      have hx' := rnI_lt hN5 n x' hrb'
                      rw [hrb'] at z
                      exact hrb (by rw [hrb', (nI_eq (by omega) (by omega)).mp z])
            · obtain ⟨m5, g1, g2, g3⟩ := M5 hN5 hM
              rw [ifEf hnn (by omega) (by omega), if_neg hnn]
              exact ⟨k, m5, by rw [g1, zbd_s], g2, g3⟩
theorem o_could (r l set : Int32) : okG (g_could r l set) := by
  intro s hO
  unfold g_could
  cases h : ix r 6 with
  | none => exact hO
  | some a =>
    dsimp only
    cases h : ix l 6 with
    | none => exact hO
    | some b =>
      dsimp only
      cases h : ix set (2 ^ hN (sH s)) with
      | none => exact hO
      | some z =>
        dsimp only
        unfold cdS
        cases (sW s).1 a with
        | none => exact hO
        | some n =>
          cases (sW s).1 b with
          | none => exact hO
          | some n' =>
            dsimp only
            by_cases hnn : n = n'
            · rw [if_pos hnn]
              cases rnI ((sW s).2 a) (hN (sH s)) n with
              | none => exact hO
              | some x =>
                dsimp only
                by_cases hrb : rnI ((sW s).2 b) (hN (sH s)) n = some x
                · rw [if_pos hrb]; exact hO
                · rw [if_neg hrb]; exact hO
            · rw [if_neg hnn]; exact hO
end
