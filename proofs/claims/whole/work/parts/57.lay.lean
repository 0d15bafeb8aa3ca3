section
variable {k k' : zK} {m m' : Nat → Nat → Int32} {s : zSt}
def g_lay (r i v : Int32) (s : zSt) : Int32 × zSt := match ix r 6 with
  | none => (-1, s)
  | some j => match (sW s).1 j with
    | none => (-3, sFd 1 s)
    | some n => match ix i n with
      | none => (-3, sFd 2 s)
      | some p => (1, sAk ((sW s).2 j p) (sWs (stW (sW s) j n (upd ((sW s).2 j) p v)) s))
def g_at (r i : Int32) (s : zSt) : Int32 × zSt := match ix r 6 with
  | none => (-1, s)
  | some j => match (sW s).1 j with
    | none => (-3, sFd 1 s)
    | some n => match ix i n with
      | none => (-3, sFd 2 s)
      | some p => (1, sAk ((sW s).2 j p) s)
def g_tear (r : Int32) (s : zSt) : Int32 × zSt := match ix r 6 with
  | none => (-1, s)
  | some j => match (sW s).1 j with
    | none => (-3, sFd 1 s)
    | some _ => (1, sWs (rmW (sW s) j) s)
def g_put (r i v : Int32) (s : zSt) : Int32 × zSt := match ix r 4 with
  | none => (-1, s)
  | some j => match (sT s).1 j with
    | none => (-3, sFd 1 s)
    | some n => match ix i n with
      | none => (-3, sFd 2 s)
      | some p => ((sT s).2 j p + 1000, sTs (stW (sT s) j n (upd ((sT s).2 j) p ((Int32.toInt8 v).toInt32))) s)
theorem x_lay (r i v : Int32) : okX (dn_X4_lay 2 r i v) (g_lay r i v) := by
  intro s k m hS hX hN
  obtain ⟨a1, a2, a3, a4⟩ := X_refusalAt (k := k) (r := r) (i := i) rwP_r hX.2.1 hS.2.1
  unfold dn_X4_lay g_lay
  rw [ZO_4 s2, Option.bind_some, ZA_4_0 s2, Option.bind_some]
  cases h : ix r 6 with
  | none => exact ⟨k, m, by rw [a1 h, zbd_s, if_neg (by decide)], hX, zfX.rf⟩
  | some j =>
    try dsimp only
    cases hw : (sW s).1 j with
    | none =>
      obtain ⟨m', f1, f2, f3⟩ := X_found (f := 1) (by omega) hX
      have f1' : dn_X4_found 2 1 (Z k m) = some (-3, Z k m') := f1
      exact ⟨k, m', by rw [a2 j h hw ⟨m', f1'⟩, f1', zbd_s, if_neg (by decide)], f2, f3⟩
    | some n =>
      try dsimp only
      cases hi : ix i n with
      | none =>
        obtain ⟨m', f1, f2, f3⟩ := X_found (f := 2) (by omega) hX
        have f1' : dn_X4_found 2 2 (Z k m) = some (-3, Z k m') := f1
        exact ⟨k, m', by rw [a3 j n h hw hi ⟨m', f1'⟩, f1', zbd_s, if_neg (by decide)], f2, f3⟩
      | some p =>
        rw [a4 j n p h hw hi, zbd_s, ifb0]
        obtain ⟨rfl, hj⟩ := ix_s (by omega) h
        have hn := hS.2.1 j n hj hw
        obtain ⟨rfl, hp⟩ := ix_s (by omega) hi
        have hs := RW_s rwP_r hj
        obtain ⟨q1, q2⟩ := hX.2.1 j hj
        have e := q2 n hw p hp
        rw [hw] at q1
        obtain ⟨x1, x2⟩ := hX.ak ((sW s).2 j p)
        refine ⟨k, mu (mu m 2 8 ((sW s).2 j p)) (40 + 2 * j + 1) p v, ?_, x1.w (zXQ.st x1.2.1 hj (n := n) (f := upd ((sW s).2 j) p v) ?_ (fun i hi' => ?_) (fun r' h1 h2 => ⟨?_, ?_⟩)) (fun a h1 h2 => ?_), x2.tr0 fun a ha => ?_⟩
        · rw [ZA_4_0 s2, Option.bind_some, RW_r rwP_r hj, Option.bind_some, ZA_3_0 hs, Option.bind_some, RW_l rwP_r hj (by omega), Option.bind_some, e, ZP_4_8 s2, Option.bind_some, ZA_4_0 s2, Option.bind_some, RW_r rwP_r hj, Option.bind_some, ZA_3_0 hs, Option.bind_some, RW_w rwP_r hj (by omega), Option.bind_some]
        · rw [mu_a _ _ _ _ (by omega), mu_a _ _ _ _ (by omega)]; exact q1
        · by_cases hip : i = p
          · subst hip; rw [mu_s]; simp [upd]
          · rw [mu_j _ _ hip, mu_a _ _ _ _ (by omega), q2 n hw i hi']; simp [upd, hip]
        · rw [mu_ar _ _ _ (by omega)]
        · rw [mu_ar _ _ _ (by omega)]
        · rw [mu_ar _ _ _ (by omega)]
        · rw [mu_ar _ _ _ (by omega)]
theorem x_at (r i : Int32) : okX (dn_X4_at 2 r i) (g_at r i) := by
  intro s k m hS hX hN
  obtain ⟨a1, a2, a3, a4⟩ := X_refusalAt (k := k) (r := r) (i := i) rwP_r hX.2.1 hS.2.1
  unfold dn_X4_at g_at
  rw [ZO_4 s2, Option.bind_some, ZA_4_0 s2, Option.bind_some]
  cases h : ix r 6 with
  | none => exact ⟨k, m, by rw [a1 h, zbd_s, if_neg (by decide)], hX, zfX.rf⟩
  | some j =>
    try dsimp only
    cases hw : (sW s).1 j with
    | none =>
      obtain ⟨m', f1, f2, f3⟩ := X_found (f := 1) (by omega) hX
      have f1' : dn_X4_found 2 1 (Z k m) = some (-3, Z k m') := f1
      exact ⟨k, m', by rw [a2 j h hw ⟨m', f1'⟩, f1', zbd_s, if_neg (by decide)], f2, f3⟩
    | some n =>
      try dsimp only
      cases hi : ix i n with
      | none =>
        obtain ⟨m', f1, f2, f3⟩ := X_found (f := 2) (by omega) hX
        have f1' : dn_X4_found 2 2 (Z k m) = some (-3, Z k m') := f1
        exact ⟨k, m', by rw [a3 j n h hw hi ⟨m', f1'⟩, f1', zbd_s, if_neg (by decide)], f2, f3⟩
      | some p =>
        rw [a4 j n p h hw hi, zbd_s, ifb0]
        obtain ⟨rfl, hj⟩ := ix_s (by omega) h
        have hn := hS.2.1 j n hj hw
        obtain ⟨rfl, hp⟩ := ix_s (by omega) hi
        have hs := RW_s rwP_r hj
        obtain ⟨q1, q2⟩ := hX.2.1 j hj
        have e := q2 n hw p hp
        obtain ⟨x1, x2⟩ := hX.ak ((sW s).2 j p)
        refine ⟨k, mu m 2 8 ((sW s).2 j p), ?_, x1, x2⟩
        rw [ZA_4_0 s2, Option.bind_some, RW_r rwP_r hj, Option.bind_some, ZA_3_0 hs, Option.bind_some, RW_l rwP_r hj (by omega), Option.bind_some, e, ZP_4_8 s2, Option.bind_some]
theorem x_tear (r : Int32) : okX (dn_X4_tear 2 r) (g_tear r) := by
  intro s k m hS hX hN
  obtain ⟨a1, a2, a3⟩ := X_refusalOf (k := k) (r := r) rwP_r hX.2.1 hS.2.1
  unfold dn_X4_tear g_tear
  rw [ZO_4 s2, Option.bind_some, ZA_4_0 s2, Option.bind_some]
  cases h : ix r 6 with
  | none => exact ⟨k, m, by rw [a1 h, zbd_s, if_neg (by decide)], hX, zfX.rf⟩
  | some j =>
    try dsimp only
    cases hw : (sW s).1 j with
    | none =>
      obtain ⟨m', f1, f2, f3⟩ := X_found (f := 1) (by omega) hX
      have f1' : dn_X4_found 2 1 (Z k m) = some (-3, Z k m') := f1
      exact ⟨k, m', by rw [a2 j h hw, f1', zbd_s, zbd_s, if_neg (by decide)], f2, f3⟩
    | some n =>
      try dsimp only
      rw [a3 j n h hw, zbd_s, ifb0]
      obtain ⟨rfl, hj⟩ := ix_s (by omega) h
      have hs := RW_s rwP_r hj
      refine ⟨k, mu m (40 + 2 * j) 1 (-9), ?_, hX.w (zXQ.rm hX.2.1 hj (mu_s _ _ _ _) (fun r' h1 h2 => ⟨mu_ar _ _ _ (by omega), mu_ar _ _ _ (by omega)⟩)) (fun a h1 h2 => mu_ar _ _ _ (by omega)), zfX.of fun a ha => mu_ar _ _ _ (by omega)⟩
      unfold dn_X3_remove
      rw [ZA_4_0 s2, Option.bind_some, RW_r rwP_r hj, Option.bind_some, ZO_3 hs, Option.bind_some, ZP_3_1 hs, Option.bind_some, zbd_s]
theorem x_put (r i v : Int32) : okX (dn_X4_put 2 r i v) (g_put r i v) := by
  intro s k m hS hX hN
  obtain ⟨a1, a2, a3, a4⟩ := X_refusalAt (k := k) (r := r) (i := i) rwP_t hX.2.2.1 hS.2.2.1
  unfold dn_X4_put g_put
  rw [ZO_4 s2, Option.bind_some, ZA_4_1 s2, Option.bind_some]
  cases h : ix r 4 with
  | none => exact ⟨k, m, by rw [a1 h, zbd_s, if_neg (by decide)], hX, zfX.rf⟩
  | some j =>
    try dsimp only
    cases hw : (sT s).1 j with
    | none =>
      obtain ⟨m', f1, f2, f3⟩ := X_found (f := 1) (by omega) hX
      have f1' : dn_X4_found 2 1 (Z k m) = some (-3, Z k m') := f1
      exact ⟨k, m', by rw [a2 j h hw ⟨m', f1'⟩, f1', zbd_s, if_neg (by decide)], f2, f3⟩
    | some n =>
      try dsimp only
      cases hi : ix i n with
      | none =>
        obtain ⟨m', f1, f2, f3⟩ := X_found (f := 2) (by omega) hX
        have f1' : dn_X4_found 2 2 (Z k m) = some (-3, Z k m') := f1
        exact ⟨k, m', by rw [a3 j n h hw hi ⟨m', f1'⟩, f1', zbd_s, if_neg (by decide)], f2, f3⟩
      | some p =>
        rw [a4 j n p h hw hi, zbd_s, ifb0]
        obtain ⟨rfl, hj⟩ := ix_s (by omega) h
        have hn := hS.2.2.1 j n hj hw
        obtain ⟨rfl, hp⟩ := ix_s (by omega) hi
        have hs := RW_s rwP_t hj
        obtain ⟨q1, q2⟩ := hX.2.2.1 j hj
        have e := q2 n hw p hp
        rw [hw] at q1
        refine ⟨k, mu m (52 + 2 * j + 1) p ((Int32.toInt8 v).toInt32), ?_, hX.t (zXQ.st hX.2.2.1 hj (n := n) (f := upd ((sT s).2 j) p ((Int32.toInt8 v).toInt32)) ?_ (fun i hi' => ?_) (fun r' h1 h2 => ⟨?_, ?_⟩)) (fun a h1 h2 => ?_), zfX.of fun a ha => ?_⟩
        · rw [ZA_4_1 s2, Option.bind_some, RW_r rwP_t hj, Option.bind_some, ZA_3_0 hs, Option.bind_some, RW_l rwP_t hj (by omega), Option.bind_some, e]
          simp only [Option.bind_some]
          rw [RW_r rwP_t hj, Option.bind_some, ZA_3_0 hs, Option.bind_some, RW_w rwP_t hj (by omega), Option.bind_some]
        · rw [mu_a _ _ _ _ (by omega)]; exact q1
        · by_cases hip : i = p
          · subst hip; rw [mu_s]; simp [upd]
          · rw [mu_j _ _ hip, q2 n hw i hi']; simp [upd, hip]
        · rw [mu_ar _ _ _ (by omega)]
        · rw [mu_ar _ _ _ (by omega)]
        · rw [mu_ar _ _ _ (by omega)]
        · rw [mu_ar _ _ _ (by omega)]
theorem M_rowAt {j p : Nat} (hj : j < 6) (hp : p < 60) : dn_X5_rowAt 81 (nI j) (nI p) (Z k m) = some (m 84 (60 * j + p), Z k m) := by
  unfold dn_X5_rowAt
  rw [ZO_5 s81, Option.bind_some, ZA_5_6 s81, Option.bind_some, nM_60, nI_add, Ml_84 (by omega), Option.bind_some]
theorem szM0 {o : Option Nat} (h : o = none) : szM o < 0 := by subst h; decide
theorem x5_lay (r i v : Int32) : okM (dn_X5_lay 81 r i v) (g_lay r i v) := by
  intro s k m hS hM
  have hN5 := hS.2.2.2.1.1.2.1
  unfold dn_X5_lay g_lay
  rw [ZO_5 s81, Option.bind_some, M_isRow, zbd_s]
  cases h : ix r 6 with
  | none => exact ⟨k, m, by rw [ifNo, ifb0], hM, zfM.rf⟩
  | some j =>
    try dsimp only
    obtain ⟨rfl, hj⟩ := ix_s (by omega) h
    obtain ⟨q1, q2⟩ := hM.2.1 j hj
    rw [ifSo, ifb1, ZA_5_5 s81, Option.bind_some, Ml_83 hj, Option.bind_some, q1]
    cases hw : (sW s).1 j with
    | none =>
      obtain ⟨m', f1, f2, f3⟩ := M_meets (f := 1) (by omega) hN5 hM
      have f1' : dn_X5_meets 81 1 (Z k m) = some (-3, Z k m') := f1
      exact ⟨k, m', by rw [if_pos (szM0 rfl), f1', zbd_s], f2, f3⟩
    | some n =>
      try dsimp only
      have hn := hS.2.1 j n hj hw
      rw [show szM (some n) = nI n from rfl, if_neg (nIn0 (by omega)), Option.bind_some, Ml_83 hj, Option.bind_some, q1, hw, show szM (some n) = nI n from rfl, M_ix i n (by omega), zbd_s]
      cases hi : ix i n with
      | none =>
        obtain ⟨m', f1, f2, f3⟩ := M_meets (f := 2) (by omega) hN5 hM
        have f1' : dn_X5_meets 81 2 (Z k m) = some (-3, Z k m') := f1
        exact ⟨k, m', by rw [ifNo, ifb0, f1', zbd_s], f2, f3⟩
      | some p =>
        obtain ⟨rfl, hp⟩ := ix_s (by omega) hi
        have e := q2 n hw p hp
        rw [hw] at q1
        have hM1 : MS (sWs (stW (sW s) j n (upd ((sW s).2 j) p v)) s) k (mu m 84 (60 * j + p) v) := hM.w hN5 (zMQ.st hS.2.1 hM.2.1 hj (by rw [mu_a _ _ _ _ (by omega)]; exact q1) (fun i hi' => by
            by_cases hip : i = p
            · subst hip; rw [mu_s]; simp [upd]
            · rw [mu_j _ _ (by omega), q2 n hw i hi']; simp [upd, hip]) (fun r' h1 h2 => by rw [mu_a _ _ _ _ (by omega)]) (fun r' i h1 h2 h3 => by rw [mu_j _ _ (by omega)])) (fun a h1 h2 => mu_ar _ _ _ h2)
        obtain ⟨m', t1, t2, t3⟩ := M_tells (v := (sW s).2 j p) (a := 1) (by exact hN5) hM1
        refine ⟨k, m', ?_, t2, zfM.tr (zfM.of fun a ha => mu_ar _ _ _ (by omega)) t3⟩
        rw [ifSo, ifb1, M_rowAt hj (by omega), zbd_s, e, ZA_5_6 s81, Option.bind_some, nM_60, nI_add, Ms_84 (by omega), Option.bind_some, t1, zbd_s]
theorem x5_at (r i : Int32) : okM (dn_X5_at 81 r i) (g_at r i) := by
  intro s k m hS hM
  have hN5 := hS.2.2.2.1.1.2.1
  unfold dn_X5_at g_at jn_X5_at_59
  rw [ZO_5 s81, Option.bind_some, M_isRow, zbd_s]
  cases h : ix r 6 with
  | none => exact ⟨k, m, by rw [ifNo, ifb0], hM, zfM.rf⟩
  | some j =>
    try dsimp only
    obtain ⟨rfl, hj⟩ := ix_s (by omega) h
    obtain ⟨q1, q2⟩ := hM.2.1 j hj
    rw [ifSo, ifb1, ZA_5_5 s81, Option.bind_some, Ml_83 hj, Option.bind_some, q1]
    cases hw : (sW s).1 j with
    | none =>
      obtain ⟨m', f1, f2, f3⟩ := M_meets (f := 1) (by omega) hN5 hM
      have f1' : dn_X5_meets 81 1 (Z k m) = some (-3, Z k m') := f1
      exact ⟨k, m', by rw [if_pos (szM0 rfl), f1', zbd_s], f2, f3⟩
    | some n =>
      try dsimp only
      have hn := hS.2.1 j n hj hw
      rw [show szM (some n) = nI n from rfl, if_neg (nIn0 (by omega)), Option.bind_some, Ml_83 hj, Option.bind_some, q1, hw, show szM (some n) = nI n from rfl, M_ix i n (by omega), zbd_s]
      cases hi : ix i n with
      | none =>
        obtain ⟨m', f1, f2, f3⟩ := M_meets (f := 2) (by omega) hN5 hM
        have f1' : dn_X5_meets 81 2 (Z k m) = some (-3, Z k m') := f1
        exact ⟨k, m', by rw [ifNo, ifb0, f1', zbd_s], f2, f3⟩
      | some p =>
        obtain ⟨rfl, hp⟩ := ix_s (by omega) hi
        have e := q2 n hw p hp
        obtain ⟨m', t1, t2, t3⟩ := M_tells (v := (sW s).2 j p) (a := 1) hN5 hM
        refine ⟨k, m', ?_, t2, t3⟩
        rw [ifSo, ifb1, M_rowAt hj (by omega), zbd_s, e, t1, zbd_s]
theorem x5_tear (r : Int32) : okM (dn_X5_tear 81 r) (g_tear r) := by
  intro s k m hS hM
  have hN5 := hS.2.2.2.1.1.2.1
  unfold dn_X5_tear g_tear
  rw [ZO_5 s81, Option.bind_some, M_isRow, zbd_s]
  cases h : ix r 6 with
  | none => exact ⟨k, m, by rw [ifNo, ifb0], hM, zfM.rf⟩
  | some j =>
    try dsimp only
    obtain ⟨rfl, hj⟩ := ix_s (by omega) h
    obtain ⟨q1, q2⟩ := hM.2.1 j hj
    rw [ifSo, ifb1, ZA_5_5 s81, Option.bind_some, Ml_83 hj, Option.bind_some, q1]
    cases hw : (sW s).1 j with
    | none =>
      obtain ⟨m', f1, f2, f3⟩ := M_meets (f := 1) (by omega) hN5 hM
      have f1' : dn_X5_meets 81 1 (Z k m) = some (-3, Z k m') := f1
      exact ⟨k, m', by rw [if_pos (szM0 rfl), f1', zbd_s], f2, f3⟩
    | some n =>
      try dsimp only
      have hn := hS.2.1 j n hj hw
      refine ⟨k, mu m 83 j (-1), ?_, hM.w hN5 (zMQ.rm hM.2.1 hj (mu_s _ _ _ _) (fun r' h1 h2 => mu_j _ _ h2) (mu_ar _ _ _ (by omega))) (fun a h1 h2 => mu_ar _ _ _ h1), zfM.of fun a ha => mu_ar _ _ _ (by omega)⟩
      rw [show szM (some n) = nI n from rfl, if_neg (nIn0 (by omega)), Option.bind_some, Ms_83 hj, Option.bind_some]
theorem i8i8 (v : Int32) : (Int32.toInt8 ((Int32.toInt8 v).toInt32)).toInt32 = (Int32.toInt8 v).toInt32 := by
  congr 1
  exact Int8.toInt8_toInt32 _
theorem x5_put (r i v : Int32) : okM (dn_X5_put 81 r i v) (g_put r i v) := by
  intro s k m hS hM
  have hN5 := hS.2.2.2.1.1.2.1
  unfold dn_X5_put g_put
  rw [ZO_5 s81, Option.bind_some, M_isText, zbd_s]
  cases h : ix r 4 with
  | none => exact ⟨k, m, by rw [ifNo, ifb0], hM, zfM.rf⟩
  | some j =>
    try dsimp only
    obtain ⟨rfl, hj⟩ := ix_s (by omega) h
    obtain ⟨q1, q2⟩ := hM.2.2.1 j hj
    rw [ifSo, ifb1, ZA_5_8 s81, Option.bind_some, Ml_86 hj, Option.bind_some, q1]
    cases hw : (sT s).1 j with
    | none =>
      obtain ⟨m', f1, f2, f3⟩ := M_meets (f := 1) (by omega) hN5 hM
      have f1' : dn_X5_meets 81 1 (Z k m) = some (-3, Z k m') := f1
      exact ⟨k, m', by rw [if_pos (szM0 rfl), f1', zbd_s], f2, f3⟩
    | some n =>
      try dsimp only
      have hn := hS.2.2.1 j n hj hw
      rw [show szM (some n) = nI n from rfl, if_neg (nIn0 (by omega)), Option.bind_some, Ml_86 hj, Option.bind_some, q1, hw, show szM (some n) = nI n from rfl, M_ix i n (by omega), zbd_s]
      cases hi : ix i n with
      | none =>
        obtain ⟨m', f1, f2, f3⟩ := M_meets (f := 2) (by omega) hN5 hM
        have f1' : dn_X5_meets 81 2 (Z k m) = some (-3, Z k m') := f1
        exact ⟨k, m', by rw [ifNo, ifb0, f1', zbd_s], f2, f3⟩
      | some p =>
        obtain ⟨rfl, hp⟩ := ix_s (by omega) hi
        have e := q2 n hw p hp
        rw [hw] at q1
        have hM1 : MS (sTs (stW (sT s) j n (upd ((sT s).2 j) p ((Int32.toInt8 v).toInt32))) s) k (mu m 87 (100 * j + p) ((Int32.toInt8 v).toInt32)) := hM.t hN5 (zMQ.st hS.2.2.1 hM.2.2.1 hj (by rw [mu_a _ _ _ _ (by omega)]; exact q1) (fun i hi' => by
            by_cases hip : i = p
            · subst hip; rw [mu_s]; simp [upd]
            · rw [mu_j _ _ (by omega), q2 n hw i hi']; simp [upd, hip]) (fun r' h1 h2 => by rw [mu_a _ _ _ _ (by omega)]) (fun r' i h1 h2 h3 => by rw [mu_j _ _ (by omega)])) (fun a h1 h2 => mu_ar _ _ _ h2)
        refine ⟨k, _, ?_, hM1, zfM.of fun a ha => mu_ar _ _ _ (by omega)⟩
        rw [ifSo, ifb1, ZA_5_9 s81, Option.bind_some, nM_100, nI_add, Ml_87 (by omega), Option.bind_some, e, Option.bind_some, Ms_87 (by omega), Option.bind_some, i8i8, Int32.add_comm]
theorem o_lay (r i v : Int32) : okG (g_lay r i v) := by
  intro s hS
  unfold g_lay
  cases h : ix r 6 with
  | none => exact hS
  | some j =>
    obtain ⟨-, hj⟩ := ix_s (by omega) h
    cases hw : (sW s).1 j with
    | none => simp only [hw]; exact hS
    | some n =>
      simp only [hw]
      cases hi : ix i n with
      | none => exact hS
      | some p => exact okS.w (s := sAk ((sW s).2 j p) s) hS (stW_sz hS.2.1 (hS.2.1 j n hj hw))
theorem o_at (r i : Int32) : okG (g_at r i) := by
  intro s hS
  unfold g_at
  cases h : ix r 6 with
  | none => exact hS
  | some j =>
    cases hw : (sW s).1 j with
    | none => simp only [hw]; exact hS
    | some n =>
      simp only [hw]
      cases hi : ix i n with
      | none => exact hS
      | some p => exact hS
theorem o_tear (r : Int32) : okG (g_tear r) := by
  intro s hS
  unfold g_tear
  cases h : ix r 6 with
  | none => exact hS
  | some j =>
    cases hw : (sW s).1 j with
    | none => simp only [hw]; exact hS
    | some n => simp only [hw]; exact hS.w (rmW_sz hS.2.1)
theorem o_put (r i v : Int32) : okG (g_put r i v) := by
  intro s hS
  unfold g_put
  cases h : ix r 4 with
  | none => exact hS
  | some j =>
    obtain ⟨-, hj⟩ := ix_s (by omega) h
    cases hw : (sT s).1 j with
    | none => simp only [hw]; exact hS
    | some n =>
      simp only [hw]
      cases hi : ix i n with
      | none => exact hS
      | some p => exact hS.t (stW_sz hS.2.2.1 (hS.2.2.1 j n hj hw))
end
