section
variable {k k' : zK} {m m' : Nat → Nat → Int32} {s : zSt} {c : Nat} {H : zHD}
theorem M3 (hN5 : hN (sH s) ≤ 5) (hM : MS s k m) : ∃ m', dn_X5_meets 81 3 (Z k m) = some (-3, Z k m') ∧ MS (sFd 3 s) k m' ∧ zfM k m k m' := M_meets (f := 3) (by omega) hN5 hM
theorem M2 (hN5 : hN (sH s) ≤ 5) (hM : MS s k m) : ∃ m', dn_X5_meets 81 2 (Z k m) = some (-3, Z k m') ∧ MS (sFd 2 s) k m' ∧ zfM k m k m' := M_meets (f := 2) (by omega) hN5 hM
theorem M1 (hN5 : hN (sH s) ≤ 5) (hM : MS s k m) : ∃ m', dn_X5_meets 81 1 (Z k m) = some (-3, Z k m') ∧ MS (sFd 1 s) k m' ∧ zfM k m k m' := M_meets (f := 1) (by omega) hN5 hM
theorem M5 (hN5 : hN (sH s) ≤ 5) (hM : MS s k m) : ∃ m', dn_X5_meets 81 5 (Z k m) = some (-3, Z k m') ∧ MS (sFd 5 s) k m' ∧ zfM k m k m' := M_meets (f := 5) (by omega) hN5 hM
theorem F1 (hX : XS s k m) : ∃ m', dn_X4_found 2 1 (Z k m) = some (-3, Z k m') ∧ XS (sFd 1 s) k m' ∧ zfX k m k m' := X_found (f := 1) (by omega) hX
theorem F2 (hX : XS s k m) : ∃ m', dn_X4_found 2 2 (Z k m) = some (-3, Z k m') ∧ XS (sFd 2 s) k m' ∧ zfX k m k m' := X_found (f := 2) (by omega) hX
theorem F3 (hX : XS s k m) : ∃ m', dn_X4_found 2 3 (Z k m) = some (-3, Z k m') ∧ XS (sFd 3 s) k m' ∧ zfX k m k m' := X_found (f := 3) (by omega) hX
theorem F5 (hX : XS s k m) : ∃ m', dn_X4_found 2 5 (Z k m) = some (-3, Z k m') ∧ XS (sFd 5 s) k m' ∧ zfX k m k m' := X_found (f := 5) (by omega) hX
theorem ix_hi {w : Int32} {n : Nat} (hn : 0 < n) (hn' : n < 2 ^ 31) (h0 : ¬ w < 0) (h1 : ¬ w < nI n) : nI (n - 1) < w := by
  have b1 := Int32.le_toInt w
  have b2 := Int32.toInt_lt w
  rw [I32_iI w, iI_nI, iI_lt b1 (by omega) (by omega) (by omega)] at h1
  rw [I32_iI w, iI_nI, iI_lt (by omega) (by omega) b1 (by omega)]
  omega
theorem X_paceAt {x i : Nat} (hO : okH H) (hH : encH c H m) (hx : x < hN H) (hi : i < hZ H x) : dn_X0_paceAt c (nI x) (nI i) (Z k m) = some (nI (hP H x i), Z k m) := by
  have s7 := shp_2 _ (shp_le (by have := hH.1; omega)) hH.1
  have hN5 := hO.2.1
  have hz := (hO.2.2.2 x hx).2.2.1
  obtain ⟨e1, e2, e3⟩ := hH.2.2.2.2 x hx
  unfold dn_X0_paceAt jn_X0_paceAt_25
  rw [ZO_0 hH.1, Option.bind_some, if_neg (nIn0 (by omega)), it_8 (by omega), ZA_0_7 hH.1, Option.bind_some, nM_8, nI_add, Zl40 s7.2.2.2.2.2 (by omega), Option.bind_some, e3 i hi]
theorem x_pace (x i : Int32) : okX (dn_X4_pace 2 x i) (g_pace x i) := by
  intro s k m hO hX hk
  have hG := hX.2.2.2.1
  have hH := hG.2.1
  have hN5 := hO.2.2.2.1.1.2.1
  have s7 := shp_2 _ (shp_le (by have := hH.1; omega)) hH.1
  obtain ⟨mf, f1, f2, f3⟩ := F2 hX
  unfold dn_X4_pace g_pace jn_X4_pace_27
  rw [ZO_4 s2, Option.bind_some, X_isRunner hN5 hX, zbd_s]
  rcases ix_c x (hN (sH s)) (by omega) with ⟨x, hx, rfl, e⟩ | ⟨e, -⟩
  · have hz := (hO.2.2.2.1.1.2.2.2 x hx).2.2.1
    rw [e, ifSo, ifb1, ZA_4_2 s2, Option.bind_some, ZA_0_6 hH.1, Option.bind_some, Zl5 s7.2.2.2.2.1 (by omega), Option.bind_some, (hH.2.2.2.2 x hx).2.1]
    dsimp only
    rcases ix_c i (hZ (sH s) x) (by omega) with ⟨i, hi, rfl, e'⟩ | ⟨e', h0 | ⟨h0, h1⟩⟩
    · rw [e']
      exact ⟨k, m, by rw [if_neg (nIn0 (by omega)), ifLt hi (by omega), Option.bind_some, X_paceAt hO.2.2.2.1.1 hH hx hi, zbd_s], hX, zfX.rf⟩
    · rw [e']
      exact ⟨k, mf, by rw [if_pos h0, f1, zbd_s], f2, f3⟩
    · rw [e']
      exact ⟨k, mf, by rw [if_neg h0, if_neg h1, f1, zbd_s], f2, f3⟩
  · rw [e]
    exact ⟨k, m, by rw [ifNo, ifb0], hX, zfX.rf⟩
theorem x5_pace (x i : Int32) : okM (dn_X5_pace 81 x i) (g_pace x i) := by
  intro s k m hO hM
  have hG := hM.2.2.2.1.1
  have hN5 := hO.2.2.2.1.1.2.1
  obtain ⟨mf, f1, f2, f3⟩ := M2 hN5 hM
  unfold dn_X5_pace g_pace jn_X5_pace_45
  rw [ZO_5 s81, Option.bind_some, M_isRunner hN5 hM, zbd_s]
  rcases ix_c x (hN (sH s)) (by omega) with ⟨x, hx, rfl, e⟩ | ⟨e, -⟩
  · have hz := (hO.2.2.2.1.1.2.2.2 x hx).2.2.1
    obtain ⟨g1, g2, g3⟩ := hG.2.2.2 x hx
    rw [e, ifSo, ifb1, ZA_5_16 s81, Option.bind_some, Ml_92 (by omega), Option.bind_some, g2, M_ix i _ (by omega), zbd_s]
    dsimp only
    rcases ix_c i (hZ (sH s) x) (by omega) with ⟨i, hi, rfl, e'⟩ | ⟨e', -⟩
    · rw [e']
      exact ⟨k, m, by rw [ifSo, ifb1, ZA_5_17 s81, Option.bind_some, nM_8, nI_add, Ml_93 (by omega), Option.bind_some, g3 i hi], hM, zfM.rf⟩
    · rw [e']
      exact ⟨k, mf, by rw [ifNo, ifb0, f1, zbd_s], f2, f3⟩
  · rw [e]
    exact ⟨k, m, by rw [ifNo, ifb0], hM, zfM.rf⟩
theorem o_pace (x i : Int32) : okG (g_pace x i) := by
  intro s hO
  unfold g_pace
  cases h : ix x (hN (sH s)) with
  | none => exact hO
  | some j =>
    dsimp only
    cases h' : ix i (hZ (sH s) j) with
    | none => exact hO
    | some j => exact hO
/-! mark -/
theorem X_climbs (hO : okH H) (hH : encH c H m) : dn_X0_climbs c (Z k m) = some (nI (cnt (fun y => 0 < hS H y) (hY H)), Z k m) := by
  have s7 := shp_2 _ (shp_le (by have := hH.1; omega)) hH.1
  have h40 := hO.1
  unfold dn_X0_climbs lp_X0_climbs_4
  rw [ZO_0 hH.1, Option.bind_some]
  refine lp_cnt (N := hY H) (fun y => 0 < hS H y) (fun y c' hy rec => ?_) (fun rec => ?_) (by omega)
  · obtain ⟨z1, z2⟩ := hO.2.2.1 y hy
    unfold lb_X0_climbs_4 jn_X0_climbs_24
    dsimp only
    rw [ZI_0_0 hH.1, Option.bind_some, hH.2.1, ifLt hy (by omega), ZA_0_1 hH.1, Option.bind_some, Zl40 s7.1 (by omega), Option.bind_some, hH.2.2.2.1 y hy, nA_1, nA_1]
    exact ⟨fun h => by rw [if_pos ((jL_0 (by omega) (by omega)).mpr h)], fun h => by rw [if_neg (fun z => h ((jL_0 (by omega) (by omega)).mp z))]⟩
  · unfold lb_X0_climbs_4 jn_X0_climbs_30
    dsimp only
    rw [ZI_0_0 hH.1, Option.bind_some, hH.2.1, ifLf (Nat.le_refl _) (by omega)]
theorem M_steep (hO : okH H) (hG : encG H m) : dn_X5_steepYards 81 (Z k m) = some (nI (cnt (fun y => 0 < hS H y) (hY H)), Z k m) := by
  have h40 := hO.1
  unfold dn_X5_steepYards lp_X5_steepYards_4
  rw [ZO_5 s81, Option.bind_some]
  refine lp_cnt (N := hY H) (fun y => 0 < hS H y) (fun y c' hy rec => ?_) (fun rec => ?_) (by omega)
  · obtain ⟨z1, z2⟩ := hO.2.2.1 y hy
    unfold lb_X5_steepYards_4 jn_X5_steepYards_27
    dsimp only
    rw [ZI_5_10 s81, Option.bind_some, hG.1, ifLt hy (by omega), ZA_5_11 s81, Option.bind_some, Ml_88 (by omega), Option.bind_some, hG.2.2.1 y hy, nA_1, nA_1, Int32.add_zero]
    exact ⟨fun h => by rw [if_pos ((jL_0 (by omega) (by omega)).mpr h)], fun h => by rw [if_neg (fun z => h ((jL_0 (by omega) (by omega)).mp z))]⟩
  · unfold lb_X5_steepYards_4 jn_X5_steepYards_35
    dsimp only
    rw [ZI_5_10 s81, Option.bind_some, hG.1, ifLf (Nat.le_refl _) (by omega)]
theorem X_pacesOf {x w : Nat} (hO : okH H) (hH : encH c H m) (hx : x < hN H) (hw : w ≤ 3) : dn_X0_pacesOf c (nI x) (nI w) (Z k m) = some (nI (cnt (fun i => hP H x i = w) (hZ H x)), Z k m) := by
  have s7 := shp_2 _ (shp_le (by have := hH.1; omega)) hH.1
  have hN5 := hO.2.1
  obtain ⟨-, z1, z2, z3⟩ := hO.2.2.2 x hx
  obtain ⟨e1, e2, e3⟩ := hH.2.2.2.2 x hx
  unfold dn_X0_pacesOf lp_X0_pacesOf_5
  rw [ZO_0 hH.1, Option.bind_some]
  refine lp_cnt (N := hZ H x) (fun i => hP H x i = w) (fun y c' hy rec => ?_) (fun rec => ?_) (by omega)
  · have := z3 y hy
    unfold lb_X0_pacesOf_5 jn_X0_pacesOf_30
    dsimp only
    rw [ZA_0_6 hH.1, Option.bind_some, Zl5 s7.2.2.2.2.1 (by omega), Option.bind_some, e2, ifLt hy (by omega), X_paceAt hO hH hx hy, zbd_s, nA_1, nA_1]
    exact ⟨fun h => by rw [ifEt h], fun h => by rw [ifEf h (by omega) (by omega)]⟩
  · unfold lb_X0_pacesOf_5 jn_X0_pacesOf_36
    dsimp only
    rw [ZA_0_6 hH.1, Option.bind_some, Zl5 s7.2.2.2.2.1 (by omega), Option.bind_some, e2, ifLf (Nat.le_refl _) (by omega)]
theorem M_pacesOf {x w : Nat} (hO : okH H) (hG : encG H m) (hx : x < hN H) (hw : w ≤ 3) : dn_X5_pacesOf 81 (nI x) (nI w) (Z k m) = some (nI (cnt (fun i => hP H x i = w) (hZ H x)), Z k m) := by
  have hN5 := hO.2.1
  obtain ⟨-, z1, z2, z3⟩ := hO.2.2.2 x hx
  obtain ⟨e1, e2, e3⟩ := hG.2.2.2 x hx
  unfold dn_X5_pacesOf lp_X5_pacesOf_5
  rw [ZO_5 s81, Option.bind_some]
  refine lp_cnt (N := hZ H x) (fun i => hP H x i = w) (fun y c' hy rec => ?_) (fun rec => ?_) (by omega)
  · have := z3 y hy
    unfold lb_X5_pacesOf_5 jn_X5_pacesOf_38
    dsimp only
    rw [ZA_5_16 s81, Option.bind_some, Ml_92 (by omega), Option.bind_some, e2, ifLt hy (by omega), ZA_5_17 s81, Option.bind_some, nM_8, nI_add, Ml_93 (by omega), Option.bind_some, e3 y hy, nA_1, nA_1, Int32.add_zero]
    exact ⟨fun h => by rw [ifEt h], fun h => by rw [ifEf h (by omega) (by omega)]⟩
  · unfold lb_X5_pacesOf_5 jn_X5_pacesOf_46
    dsimp only
    rw [ZA_5_16 s81, Option.bind_some, Ml_92 (by omega), Option.bind_some, e2, ifLf (Nat.le_refl _) (by omega)]
theorem x_mark (x a : Int32) : okX (dn_X4_mark 2 x a) (g_mark x a) := by
  intro s k m hO hX hk
  have hG := hX.2.2.2.1
  have hH := hG.2.1
  have hOH := hO.2.2.2.1.1
  have hN5 := hOH.2.1
  have s7 := shp_2 _ (shp_le (by have := hH.1; omega)) hH.1
  obtain ⟨mf, f1, f2, f3⟩ := F3 hX
  unfold dn_X4_mark g_mark jn_X4_mark_18 jn_X4_mark_100
  rw [ZO_4 s2, Option.bind_some, X_isRunner hN5 hX, zbd_s]
  rcases ix_c x (hN (sH s)) (by omega) with ⟨x, hx, rfl, e⟩ | ⟨e, -⟩
  · have hk5 := (hOH.2.2.2 x hx).1
    obtain ⟨g1, g2⟩ := hG.2.2 x hx
    rw [e, ifSo, ifb1]
    dsimp only
    rcases ir_c a 1 5 (by omega) (by omega) with ⟨a, ha1, ha2, rfl, e'⟩ | ⟨e', h0 | ⟨h0, h1⟩⟩
    · rw [e', if_neg (fun z => by have := (nL_1 (by omega)).mp z; omega), jf_5 (by omega), ZA_4_2 s2, Option.bind_some, ZA_0_3 hH.1, Option.bind_some, Zl5 s7.2.1 (by omega), Option.bind_some, (hH.2.2.2.2 x hx).1, X_isOf hk5 ha2, zbd_s]
      dsimp only
      by_cases hc : isOfS (hK (sH s) x) a
      · have hc' : hK (sH s) x = a ∨ hK (sH s) x = 4 ∧ a = 1 ∨ hK (sH s) x = 5 ∧ a = 2 := hc
        rw [if_pos hc, if_pos hc', ifb1]
        refine ⟨k, m, ?_, hX, zfX.rf⟩
        unfold mkS
        by_cases h1 : a = 1
        · rw [et_1 h1, if_pos h1, ZA_4_2 s2, Option.bind_some, X_climbs hOH hH, zbd_s]
        · rw [ef_1 h1 (by omega), if_neg h1]
          by_cases h2 : a = 2
          · rw [et_2 h2, if_pos h2, ZA_4_2 s2, Option.bind_some, ZA_0_4 hH.1, Option.bind_some, Zl5 s7.2.2.1 (by omega), Option.bind_some, g1]
          · rw [ef_2 h2 (by omega), if_neg h2]
            by_cases h4 : a = 4
            · rw [et_4 h4, if_pos h4, ZA_4_2 s2, Option.bind_some, show dn_X0_pacesOf (kC k) (nI x) 0 (Z k m) = _ from X_pacesOf (w := 0) hOH hH hx (by omega), zbd_s]
            · rw [ef_4 h4 (by omega), if_neg h4, ZA_4_2 s2, Option.bind_some, show dn_X0_pacesOf (kC k) (nI x) 3 (Z k m) = _ from X_pacesOf (w := 3) hOH hH hx (by omega), zbd_s]
      · have hc' : ¬ (hK (sH s) x = a ∨ hK (sH s) x = 4 ∧ a = 1 ∨ hK (sH s) x = 5 ∧ a = 2) := hc
        rw [if_neg hc, if_neg hc', ifb0]
        exact ⟨k, mf, by rw [f1, zbd_s], f2, f3⟩
    · rw [e']
      have h0' : a < 1 := h0
      exact ⟨k, m, by rw [if_pos h0'], hX, zfX.rf⟩
    · rw [e']
      have h0' : ¬ a < 1 := h0
      have h1' : 5 < a := h1
      exact ⟨k, m, by rw [if_neg h0', if_pos h1'], hX, zfX.rf⟩
  · rw [e]
    exact ⟨k, m, by rw [ifNo, ifb0], hX, zfX.rf⟩
theorem x5_mark (x a : Int32) : okM (dn_X5_mark 81 x a) (g_mark x a) := by
  intro s k m hO hM
  have hG := hM.2.2.2.1.1
  have hOH := hO.2.2.2.1.1
  have hN5 := hOH.2.1
  obtain ⟨mf, f1, f2, f3⟩ := M3 hN5 hM
  unfold dn_X5_mark g_mark jn_X5_mark_17
  rw [ZO_5 s81, Option.bind_some, M_isRunner hN5 hM, zbd_s]
  rcases ix_c x (hN (sH s)) (by omega) with ⟨x, hx, rfl, e⟩ | ⟨e, -⟩
  · have hk5 := (hOH.2.2.2 x hx).1
    obtain ⟨g1, g2⟩ := hM.2.2.2.1.2 x hx
    rw [e, ifSo, ifb1, show dn_X5_in a 1 5 (Z k m) = _ from M_ir a 1 5 (by omega) (by omega) _, zbd_s]
    dsimp only
    rcases ir_c a 1 5 (by omega) (by omega) with ⟨a, ha1, ha2, rfl, e'⟩ | ⟨e', -⟩
    · have hgood : jn_X5_mark_61 81 (nI x) (nI a) (Z k m) = some (mkS s x a, Z k m) := by
        unfold jn_X5_mark_61 jn_X5_mark_111 mkS
        by_cases h1 : a = 1
        · rw [et_1 h1, if_pos h1, M_steep hOH hG, zbd_s]
        · rw [ef_1 h1 (by omega), if_neg h1]
          by_cases h2 : a = 2
          · rw [et_2 h2, if_pos h2, ZA_5_14 s81, Option.bind_some, Ml_90 (by omega), Option.bind_some, g1]
          · rw [ef_2 h2 (by omega), if_neg h2]
            by_cases h4 : a = 4
            · rw [et_4 h4, if_pos h4, show dn_X5_pacesOf 81 (nI x) 0 (Z k m) = _ from M_pacesOf (w := 0) hOH hG hx (by omega), zbd_s]
            · rw [ef_4 h4 (by omega), if_neg h4, show dn_X5_pacesOf 81 (nI x) 3 (Z k m) = _ from M_pacesOf (w := 3) hOH hG hx (by omega), zbd_s]
      have hbad : jn_X5_mark_55 81 (Z k m) = some (-3, Z k mf) := by
        unfold jn_X5_mark_55
        rw [f1, zbd_s]
      have h42 : (a = 2 ∧ (hK (sH s) x = 2 ∨ hK (sH s) x = 5) → jn_X5_mark_42 81 (nI x) (nI a) (Z k m) = some (mkS s x a, Z k m)) ∧ (¬ (a = 2 ∧ (hK (sH s) x = 2 ∨ hK (sH s) x = 5)) → jn_X5_mark_42 81 (nI x) (nI a) (Z k m) = some (-3, Z k mf)) := by
        unfold jn_X5_mark_42
        by_cases h2 : a = 2
        · rw [et_2 h2, M_isOx hOH hG hx, zbd_s]
          by_cases hc : hK (sH s) x = 2 ∨ hK (sH s) x = 5
          · rw [if_pos hc, ifb1, hgood]
            exact ⟨fun _ => rfl, fun z => absurd ⟨h2, hc⟩ z⟩
          · rw [if_neg hc, ifb0, hbad]
            exact ⟨fun z => absurd z.2 hc, fun _ => rfl⟩
        · rw [ef_2 h2 (by omega), hbad]
          exact ⟨fun z => absurd z.1 h2, fun _ => rfl⟩
      rw [e', ifSo, ifb1, ZA_5_13 s81, Option.bind_some, Ml_89 (by omega), Option.bind_some, (hG.2.2.2 x hx).1]
      dsimp only
      by_cases hc : isOfS (hK (sH s) x) a
      · rw [if_pos hc]
        refine ⟨k, m, ?_, hM, zfM.rf⟩
        by_cases hka : hK (sH s) x = a
        · rw [ifEt hka, hgood]
        · rw [ifEf hka (by omega) (by omega)]
          unfold isOfS at hc
          by_cases h1 : a = 1
          · rw [et_1 h1, M_isGoat hOH hG hx, zbd_s, if_pos (show hK (sH s) x = 1 ∨ hK (sH s) x = 4 by omega), ifb1, hgood]
          · rw [ef_1 h1 (by omega), h42.1 (by omega)]
      · rw [if_neg hc]
        refine ⟨k, mf, ?_, f2, f3⟩
        unfold isOfS at hc
        have hka : ¬ hK (sH s) x = a := fun z => hc (Or.inl z)
        rw [ifEf hka (by omega) (by omega)]
        by_cases h1 : a = 1
        · rw [et_1 h1, M_isGoat hOH hG hx, zbd_s, if_neg (show ¬ (hK (sH s) x = 1 ∨ hK (sH s) x = 4) by omega), ifb0, h42.2 (by omega)]
        · rw [ef_1 h1 (by omega), h42.2 (by omega)]
    · rw [e']
      exact ⟨k, m, by rw [ifNo, ifb0], hM, zfM.rf⟩
  · rw [e]
    exact ⟨k, m, by rw [ifNo, ifb0], hM, zfM.rf⟩
theorem o_mark (x a : Int32) : okG (g_mark x a) := by
  intro s hO
  unfold g_mark
  cases h : ix x (hN (sH s)) with
  | none => exact hO
  | some j =>
    dsimp only
    cases h' : ir a 1 5 with
    | none => exact hO
    | some a =>
      dsimp only
      by_cases hc : isOfS (hK (sH s) j) a
      · rw [if_pos hc]; exact hO
      · rw [if_neg hc]; exact hO
/-! head, law -/
theorem XS.g {D' : Nat → Nat} (h : XS s k m) (hG : XG (sH s) (sB s) D' k m') (hf : ∀ a, a < 81 → (a < 5 ∨ 18 < a) → m' a = m a) : XS (sGs D' s) k m' := by
  obtain ⟨hA, hW, hT, -, hR, hK, hC⟩ := h
  exact ⟨hA.fr (hf 2 (by omega) (by omega)) (hf 34 (by omega) (by omega)), hW.fr fun a h1 h2 => hf a (by omega) (by omega), hT.fr fun a h1 h2 => hf a (by omega) (by omega), hG, encX_cg hR fun a h1 h2 => hf a (by omega) (by omega), hK.fr fun a h1 h2 => hf a (by omega) (by omega), fun x hx => by rw [hf 35 (by omega) (by omega)]; exact hC x hx⟩
theorem MS.g {D' : Nat → Nat} (hN5 : hN (sH s) ≤ 5) (h : MS s k m) (hG : MG (sH s) (sB s) D' m') (hf : ∀ a, a ≠ 91 → m' a = m a) : MS (sGs D' s) k m' := by
  obtain ⟨hA, hW, hT, -, hR, hK⟩ := h
  exact ⟨hA.fr ⟨by rw [hf 81 (by omega)], by rw [hf 81 (by omega)], by rw [hf 81 (by omega)]⟩ (hf 82 (by omega)), hW.fr (hf 83 (by omega)) (hf 84 (by omega)), hT.fr (hf 86 (by omega)) (hf 87 (by omega)), hG, encM_fr hN5 hR fun a h1 h2 => by rw [hf 100 (by omega)], hK.fr hN5 (hf 99 (by omega)) fun a h1 h2 => by rw [hf 100 (by omega)]⟩
theorem x_head (x v : Int32) : okX (dn_X4_head 2 x v) (g_head x v) := by
  intro s k m hO hX hk
  have hG := hX.2.2.2.1
  have hH := hG.2.1
  have hN5 := hO.2.2.2.1.1.2.1
  have s7 := shp_2 _ (shp_le (by have := hH.1; omega)) hH.1
  have hkc := hG.1
  unfold dn_X4_head g_head jn_X4_head_18
  rw [ZO_4 s2, Option.bind_some, X_isRunner hN5 hX, zbd_s]
  rcases ix_c x (hN (sH s)) (by omega) with ⟨x, hx, rfl, e⟩ | ⟨e, -⟩
  · rw [e, ifSo, ifb1]
    dsimp only
    rcases ix_c v 10 (by omega) with ⟨v, hv, rfl, e'⟩ | ⟨e', h0 | ⟨h0, h1⟩⟩
    · rw [e']
      refine ⟨k, mu m (kC k + 4) x (nI v), ?_, hX.g ⟨hG.1, ?_, fun x' hx' => ⟨?_, ?_⟩⟩ (fun a h1 h2 => mu_ar _ _ _ (by omega)), zfX.of fun a ha => mu_ar _ _ _ (by omega)⟩
      · rw [if_neg (nIn0 (by omega)), jf_9 (by omega), ZA_4_2 s2, Option.bind_some, ZA_0_5 hH.1, Option.bind_some, Zl5 s7.2.2.2.1 (by omega), Option.bind_some, (hG.2.2 x hx).2, Option.bind_some, ZA_0_5 hH.1, Option.bind_some, Zs5 s7.2.2.2.1 (by omega), Option.bind_some]
      · unfold encH
        rw [mu_ar _ _ _ (by omega), mu_ar _ _ _ (by omega), mu_ar _ _ _ (by omega), mu_ar _ _ _ (by omega), mu_ar _ _ _ (by omega)]
        exact hH
      · rw [mu_ar _ _ _ (by omega)]; exact (hG.2.2 x' hx').1
      · by_cases hxx : x' = x
        · subst hxx; rw [mu_s]; simp [va_up]
        · rw [mu_j _ _ hxx, (hG.2.2 x' hx').2]; simp [va_up, hxx]
    · rw [e']
      exact ⟨k, m, by rw [if_pos h0], hX, zfX.rf⟩
    · rw [e']
      have h1' : 9 < v := ix_hi (n := 10) (by omega) (by omega) h0 h1
      exact ⟨k, m, by rw [if_neg h0, if_pos h1'], hX, zfX.rf⟩
  · rw [e]
    exact ⟨k, m, by rw [ifNo, ifb0], hX, zfX.rf⟩
theorem x5_head (x v : Int32) : okM (dn_X5_head 81 x v) (g_head x v) := by
  intro s k m hO hM
  have hG := hM.2.2.2.1
  have hN5 := hO.2.2.2.1.1.2.1
  unfold dn_X5_head g_head jn_X5_head_18
  rw [ZO_5 s81, Option.bind_some, M_isRunner hN5 hM, zbd_s]
  rcases ix_c x (hN (sH s)) (by omega) with ⟨x, hx, rfl, e⟩ | ⟨e, -⟩
  · rw [e, ifSo, ifb1, show (9 : Int32) = nI 10 - 1 by decide, M_ix v 10 (by omega), zbd_s]
    dsimp only
    rcases ix_c v 10 (by omega) with ⟨v, hv, rfl, e'⟩ | ⟨e', -⟩
    · rw [e']
      refine ⟨k, mu m 91 x (nI v), ?_, hM.g hN5 ⟨?_, fun x' hx' => ⟨?_, ?_⟩⟩ (fun a h1 => mu_ar _ _ _ h1), zfM.of fun a ha => mu_ar _ _ _ (by omega)⟩
      · rw [ifSo, ifb1, ZA_5_15 s81, Option.bind_some, Ml_91 (by omega), Option.bind_some, (hG.2 x hx).2, Option.bind_some, Ms_91 (by omega), Option.bind_some]
      · unfold encG
        rw [mu_ar _ _ _ (by omega), mu_ar _ _ _ (by omega), mu_ar _ _ _ (by omega), mu_ar _ _ _ (by omega), mu_ar _ _ _ (by omega)]
        exact hG.1
      · rw [mu_ar _ _ _ (by omega)]; exact (hG.2 x' hx').1
      · by_cases hxx : x' = x
        · subst hxx; rw [mu_s]; simp [va_up]
        · rw [mu_j _ _ hxx, (hG.2 x' hx').2]; simp [va_up, hxx]
    · rw [e']
      exact ⟨k, m, by rw [ifNo, ifb0], hM, zfM.rf⟩
  · rw [e]
    exact ⟨k, m, by rw [ifNo, ifb0], hM, zfM.rf⟩
theorem o_head (x v : Int32) : okG (g_head x v) := by
  intro s hO
  unfold g_head
  cases h : ix x (hN (sH s)) with
  | none => exact hO
  | some x =>
    dsimp only
    cases h' : ix v 10 with
    | none => exact hO
    | some v =>
      obtain ⟨-, hv⟩ := ix_s (by omega) h'
      obtain ⟨o1, o2, o3, o4, o5, o6⟩ := hO
      refine ⟨o1, o2, o3, o4, fun x' hx' => ?_, o6⟩
      obtain ⟨b1, b2, b3⟩ := o5 x' hx'
      refine ⟨b1, b2, ?_⟩
      show va_up (sD s) x v x' ≤ 9
      by_cases hxx : x' = x
      · simp [va_up, hxx]; omega
      · simp [va_up, hxx]; exact b3
theorem XS.l {v : Nat} (h : XS s k m) : XS (sLs v s) k (mu m 2 7 (nI v)) ∧ zfX k m k (mu m 2 7 (nI v)) := by
  obtain ⟨⟨a1, a2, a3, a4, a5, a6⟩, hW, hT, hG, hR, hK, hC⟩ := h
  have hg := hG.1
  refine ⟨⟨⟨mu_s _ _ _ _, ?_, ?_, a4, a5, fun f' hf' => ?_⟩, hW.fr fun a h1 h2 => ?_, hT.fr fun a h1 h2 => ?_, hG.fr fun a h1 h2 => ?_, encX_cg hR fun a h1 h2 => ?_, hK.fr fun a h1 h2 => ?_, fun x hx => ?_⟩, zfX.of fun a ha => ?_⟩
  · rw [mu_j _ _ (by omega)]; exact a2
  · rw [mu_j _ _ (by omega)]; exact a3
  · rw [mu_a _ _ _ _ (by omega)]; exact a6 f' hf'
  · rw [mu_ar _ _ _ (by omega)]
  · rw [mu_ar _ _ _ (by omega)]
  · rw [mu_ar _ _ _ (by omega)]
  · rw [mu_ar _ _ _ (by omega)]
  · rw [mu_ar _ _ _ (by omega)]
  · rw [mu_ar _ _ _ (by omega)]; exact hC x hx
  · rw [mu_ar _ _ _ (by omega)]
theorem MS.l {v : Nat} (hN5 : hN (sH s) ≤ 5) (h : MS s k m) : MS (sLs v s) k (mu m 81 18 (nI v)) ∧ zfM k m k (mu m 81 18 (nI v)) := by
  obtain ⟨⟨a1, a2, a3, a4, a5, a6⟩, hW, hT, hG, hR, hK⟩ := h
  refine ⟨⟨⟨mu_s _ _ _ _, ?_, ?_, a4, a5, fun f' hf' => ?_⟩, hW.fr ?_ ?_, hT.fr ?_ ?_, hG.fr ⟨?_, ?_⟩ fun a h1 h2 => ?_, encM_fr hN5 hR fun a h1 h2 => ?_, hK.fr hN5 ?_ fun a h1 h2 => ?_⟩, zfM.of fun a ha => ?_⟩
  · rw [mu_j _ _ (by omega)]; exact a2
  · rw [mu_j _ _ (by omega)]; exact a3
  · rw [mu_a _ _ _ _ (by omega)]; exact a6 f' hf'
  · rw [mu_ar _ _ _ (by omega)]
  · rw [mu_ar _ _ _ (by omega)]
  · rw [mu_ar _ _ _ (by omega)]
  · rw [mu_ar _ _ _ (by omega)]
  · rw [mu_j _ _ (by omega)]
  · rw [mu_j _ _ (by omega)]
  · rw [mu_ar _ _ _ (by omega)]
  · rw [mu_ar _ _ _ (by omega)]
  · rw [mu_ar _ _ _ (by omega)]
  · rw [mu_ar _ _ _ (by omega)]
  · rw [mu_ar _ _ _ (by omega)]
theorem x_law (v : Int32) : okX (dn_X4_law 2 v) (g_law v) := by
  intro s k m hO hX hk
  unfold dn_X4_law g_law jn_X4_law_9
  rw [ZO_4 s2, Option.bind_some]
  rcases ix_c v 3 (by omega) with ⟨v, hv, rfl, e'⟩ | ⟨e', h0 | ⟨h0, h1⟩⟩
  · rw [e']
    obtain ⟨x1, x2⟩ := hX.l (v := v)
    exact ⟨k, _, by rw [if_neg (nIn0 (by omega)), it_3 hv, ZI_4_7 s2, Option.bind_some, hX.1.1, ZP_4_7 s2, Option.bind_some], x1, x2⟩
  · rw [e']
    exact ⟨k, m, by rw [if_pos h0], hX, zfX.rf⟩
  · rw [e']
    have h1' : ¬ v < 3 := h1
    exact ⟨k, m, by rw [if_neg h0, if_neg h1'], hX, zfX.rf⟩
theorem x5_law (v : Int32) : okM (dn_X5_law 81 v) (g_law v) := by
  intro s k m hO hM
  have hN5 := hO.2.2.2.1.1.2.1
  unfold dn_X5_law g_law
  rw [ZO_5 s81, Option.bind_some, show (2 : Int32) = nI 3 - 1 by decide, M_ix v 3 (by omega), zbd_s]
  rcases ix_c v 3 (by omega) with ⟨v, hv, rfl, e'⟩ | ⟨e', -⟩
  · rw [e']
    obtain ⟨x1, x2⟩ := hM.l (v := v) hN5
    exact ⟨k, _, by rw [ifSo, ifb1, ZI_5_18 s81, Option.bind_some, hM.1.1, ZP_5_18 s81, Option.bind_some], x1, x2⟩
  · rw [e']
    exact ⟨k, m, by rw [ifNo, ifb0], hM, zfM.rf⟩
theorem o_law (v : Int32) : okG (g_law v) := by
  intro s hO
  unfold g_law
  cases h : ix v 3 with
  | none => exact hO
  | some v =>
    obtain ⟨-, hv⟩ := ix_s (by omega) h
    exact ⟨by show v ≤ 2; omega, hO.2⟩
/-! what is told of the state -/
def g_asked (s : zSt) : Int32 × zSt := (s.1.2.1, s)
def g_upper (s : zSt) : Int64 × zSt := (s.1.2.2.2.1, s)
def g_lower (s : zSt) : Int64 × zSt := (s.1.2.2.2.2.1, s)
def g_finding (s : zSt) : Int32 × zSt := (s.1.2.2.1, s)
def g_findings (f : Int32) (s : zSt) : Int32 × zSt := match ir f 1 5 with
  | none => (-1, s)
  | some f => (s.1.2.2.2.2.2 f, s)
theorem x_asked : okX (dn_X4_asked 2) g_asked := by
  intro s k m hO hX hk
  refine ⟨k, m, ?_, hX, zfX.rf⟩
  unfold dn_X4_asked g_asked
  rw [ZO_4 s2, Option.bind_some, ZI_4_8 s2, Option.bind_some, hX.1.2.1]
theorem x5_asked : okM (dn_X5_asked 81) g_asked := by
  intro s k m hO hM
  refine ⟨k, m, ?_, hM, zfM.rf⟩
  unfold dn_X5_asked g_asked
  rw [ZO_5 s81, Option.bind_some, ZI_5_2 s81, Option.bind_some, hM.1.2.1]
theorem x_upper : okX (dn_X4_upper 2) g_upper := by
  intro s k m hO hX hk
  refine ⟨k, m, ?_, hX, zfX.rf⟩
  unfold dn_X4_upper g_upper
  rw [ZO_4 s2, Option.bind_some, ZL_4_9 s2, Option.bind_some, hX.1.2.2.2.1]
theorem x5_upper : okM (dn_X5_upper 81) g_upper := by
  intro s k m hO hM
  refine ⟨k, m, ?_, hM, zfM.rf⟩
  unfold dn_X5_upper g_upper
  rw [ZO_5 s81, Option.bind_some, ZL_5_3 s81, Option.bind_some, hM.1.2.2.2.1]
theorem x_lower : okX (dn_X4_lower 2) g_lower := by
  intro s k m hO hX hk
  refine ⟨k, m, ?_, hX, zfX.rf⟩
  unfold dn_X4_lower g_lower
  rw [ZO_4 s2, Option.bind_some, ZL_4_10 s2, Option.bind_some, hX.1.2.2.2.2.1]
theorem x5_lower : okM (dn_X5_lower 81) g_lower := by
  intro s k m hO hM
  refine ⟨k, m, ?_, hM, zfM.rf⟩
  unfold dn_X5_lower g_lower
  rw [ZO_5 s81, Option.bind_some, ZL_5_4 s81, Option.bind_some, hM.1.2.2.2.2.1]
theorem x_finding : okX (dn_X4_finding 2) g_finding := by
  intro s k m hO hX hk
  refine ⟨k, m, ?_, hX, zfX.rf⟩
  unfold dn_X4_finding g_finding
  rw [ZO_4 s2, Option.bind_some, ZI_4_11 s2, Option.bind_some, hX.1.2.2.1]
theorem x5_finding : okM (dn_X5_finding 81) g_finding := by
  intro s k m hO hM
  refine ⟨k, m, ?_, hM, zfM.rf⟩
  unfold dn_X5_finding g_finding
  rw [ZO_5 s81, Option.bind_some, ZI_5_0 s81, Option.bind_some, hM.1.2.2.1]
theorem x_findings (f : Int32) : okX (dn_X4_findings 2 f) (g_findings f) := by
  intro s k m hO hX hk
  unfold dn_X4_findings g_findings jn_X4_findings_10
  rw [ZO_4 s2, Option.bind_some]
  rcases ir_c f 1 5 (by omega) (by omega) with ⟨f, h1, h2, rfl, e'⟩ | ⟨e', h0 | ⟨h0, h1⟩⟩
  · rw [e']
    exact ⟨k, m, by rw [if_neg (fun z => by have := (nL_1 (by omega)).mp z; omega), jf_5 (by omega), ZA_4_12 s2, Option.bind_some, Ml_34 (by omega), Option.bind_some, hX.1.2.2.2.2.2 f (by omega)], hX, zfX.rf⟩
  · rw [e']
    have h0' : f < 1 := h0
    exact ⟨k, m, by rw [if_pos h0'], hX, zfX.rf⟩
  · rw [e']
    have h0' : ¬ f < 1 := h0
    have h1' : 5 < f := h1
    exact ⟨k, m, by rw [if_neg h0', if_pos h1'], hX, zfX.rf⟩
theorem x5_findings (f : Int32) : okM (dn_X5_findings 81 f) (g_findings f) := by
  intro s k m hO hM
  unfold dn_X5_findings g_findings jn_X5_findings_19
  rw [ZO_5 s81, Option.bind_some, show dn_X5_in f 1 5 (Z k m) = _ from M_ir f 1 5 (by omega) (by omega) _, zbd_s]
  rcases ir_c f 1 5 (by omega) (by omega) with ⟨f, h1, h2, rfl, e'⟩ | ⟨e', -⟩
  · rw [e']
    exact ⟨k, m, by rw [ifSo, ifb1, ZA_5_1 s81, Option.bind_some, Ml_82 (by omega), Option.bind_some, hM.1.2.2.2.2.2 f (by omega)], hM, zfM.rf⟩
  · rw [e']
    exact ⟨k, m, by rw [ifNo, ifb0], hM, zfM.rf⟩
theorem o_asked : okG g_asked := fun s hO => hO
theorem o_upper : okG g_upper := fun s hO => hO
theorem o_lower : okG g_lower := fun s hO => hO
theorem o_finding : okG g_finding := fun s hO => hO
theorem o_findings (f : Int32) : okG (g_findings f) := by
  intro s hO
  unfold g_findings
  cases h : ir f 1 5 with
  | none => exact hO
  | some f => exact hO
end
