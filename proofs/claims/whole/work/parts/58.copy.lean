section
variable {k k' : zK} {m m' : Nat → Nat → Int32} {s : zSt}
def smL (f : Nat → Int32) : Nat → Int64
  | 0 => 0
  | n + 1 => smL f n + Int32.toInt64 (f n)
theorem L_ne0 {n : Nat} (h0 : 0 < n) (h : n < 2 ^ 31) : ¬ Int32.toInt64 (nI n) = 0 := by
  intro e
  have h1 := congrArg Int64.toInt e
  rw [Int32.toInt_toInt64, iI_nI, iI_toInt (by omega) (by omega)] at h1
  have h2 : (n : Int) = 0 := h1
  omega
def g_mean (r : Int32) (s : zSt) : Int32 × zSt := match ix r 6 with
  | none => (-1, s)
  | some j => match (sW s).1 j with
    | none => (-3, sFd 1 s)
    | some n => if n = 0 then (-3, sFd 4 s) else (1, sAk (Int64.toInt32 (smL ((sW s).2 j) n / Int32.toInt64 (nI n))) s)
theorem X_sum4 {b n : Nat} {g : Nat → Int32} (hb : shp b = 3) (hr : ∀ i, i < n → zaI 0 (b + 1) (nI i) (Z k m) = some (g i)) (e : m b 1 = nI n) (hn : n ≤ 100) : ∀ c x f, x + c = n → c < f → zlp (lb_X3_sum_4 b) f (smL g x, nI x) (Z k m) = some (smL g n, Z k m) := by
  intro c
  induction c with
  | zero =>
    intro x f hx hf
    obtain ⟨f, rfl⟩ : ∃ g, f = g + 1 := ⟨f - 1, by omega⟩
    obtain rfl : x = n := by omega
    rw [zlp_s]
    show (zgI 3 1 b (Z k m)).bind _ = _
    rw [ZI_3_1 hb, Option.bind_some, e, ifLf (Nat.le_refl _) (by omega)]
    rfl
  | succ c ih =>
    intro x f hx hf
    obtain ⟨f, rfl⟩ : ∃ g, f = g + 1 := ⟨f - 1, by omega⟩
    rw [zlp_s]
    show (zgI 3 1 b (Z k m)).bind _ = _
    rw [ZI_3_1 hb, Option.bind_some, e, ifLt (by omega) (by omega), ZA_3_0 hb, Option.bind_some, hr x (by omega), Option.bind_some, nA_1]
    exact ih (x + 1) f (by omega) (by omega)
theorem x_mean (r : Int32) : okX (dn_X4_mean 2 r) (g_mean r) := by
  intro s k m hS hX hN
  obtain ⟨a1, a2, a3⟩ := X_refusalOf (k := k) (r := r) rwP_r hX.2.1 hS.2.1
  unfold dn_X4_mean g_mean
  rw [ZO_4 s2, Option.bind_some, ZA_4_0 s2, Option.bind_some]
  cases h : ix r 6 with
  | none => exact ⟨k, m, by rw [a1 h, zbd_s, if_neg (by decide)], hX, zfX.rf⟩
  | some j =>
    dsimp only
    cases hw : (sW s).1 j with
    | none =>
      obtain ⟨m', f1, f2, f3⟩ := X_found (f := 1) (by omega) hX
      have f1' : dn_X4_found 2 1 (Z k m) = some (-3, Z k m') := f1
      exact ⟨k, m', by rw [a2 j h hw, f1', zbd_s, zbd_s, if_neg (by decide)], f2, f3⟩
    | some n =>
      dsimp only
      rw [a3 j n h hw, zbd_s, ifb0]
      obtain ⟨rfl, hj⟩ := ix_s (by omega) h
      have hs := RW_s rwP_r hj
      have hn := hS.2.1 j n hj hw
      obtain ⟨q1, q2⟩ := hX.2.1 j hj
      have e : m (40 + 2 * j) 1 = nI n := by rw [q1, hw]; rfl
      by_cases h0 : n = 0
      · obtain ⟨m', f1, f2, f3⟩ := X_found (f := 4) (by omega) hX
        have f1' : dn_X4_found 2 4 (Z k m) = some (-3, Z k m') := f1
        rw [if_pos h0]
        exact ⟨k, m', by rw [ZA_4_0 s2, Option.bind_some, RW_r rwP_r hj, Option.bind_some, ZI_3_1 hs, Option.bind_some, e, jf_0 (by omega), f1', zbd_s], f2, f3⟩
      · obtain ⟨x1, x2⟩ := hX.ak (Int64.toInt32 (smL ((sW s).2 j) n / Int32.toInt64 (nI n)))
        rw [if_neg h0]
        refine ⟨k, _, ?_, x1, x2⟩
        have hsum : dn_X3_sum (40 + 2 * j) (Z k m) = some (smL ((sW s).2 j) n, Z k m) := by
          unfold dn_X3_sum
          rw [ZO_3 hs, Option.bind_some]
          exact X_sum4 hs (fun i hi => by rw [RW_l rwP_r hj (by omega), q2 n hw i hi]) e (by omega) n 0 2000 (by omega) (by omega)
        rw [ZA_4_0 s2, Option.bind_some, RW_r rwP_r hj, Option.bind_some, ZI_3_1 hs, Option.bind_some, e, jt_0 (by omega) (by omega), Option.bind_some, RW_r rwP_r hj, Option.bind_some, hsum, zbd_s, if_neg (L_ne0 (by omega) (by omega)), ZP_4_8 s2, Option.bind_some]
theorem M_mean44 {j n : Nat} {g : Nat → Int32} (hj : j < 6) (hr : ∀ i, i < n → m 84 (60 * j + i) = g i) (e : m 83 j = nI n) (hn : n ≤ 60) : ∀ c x f, x + c = n → c < f → zlp (lb_X5_mean_44 81 (nI j)) f (smL g x, nI x) (Z k m) = jn_X5_mean_72 81 (nI j) (smL g n) (Z k m) := by
  intro c
  induction c with
  | zero =>
    intro x f hx hf
    obtain ⟨f, rfl⟩ : ∃ g, f = g + 1 := ⟨f - 1, by omega⟩
    obtain rfl : x = n := by omega
    rw [zlp_s]
    show (zgA 5 5 81 (Z k m)).bind _ = _
    rw [ZA_5_5 s81, Option.bind_some, Ml_83 hj, Option.bind_some, e, ifLf (Nat.le_refl _) (by omega)]
  | succ c ih =>
    intro x f hx hf
    obtain ⟨f, rfl⟩ : ∃ g, f = g + 1 := ⟨f - 1, by omega⟩
    rw [zlp_s]
    show (zgA 5 5 81 (Z k m)).bind _ = _
    rw [ZA_5_5 s81, Option.bind_some, Ml_83 hj, Option.bind_some, e, ifLt (by omega) (by omega), M_rowAt hj (by omega), zbd_s, hr x (by omega), nA_1]
    exact ih (x + 1) f (by omega) (by omega)
theorem x5_mean (r : Int32) : okM (dn_X5_mean 81 r) (g_mean r) := by
  intro s k m hS hM
  have hN5 := hS.2.2.2.1.1.2.1
  unfold dn_X5_mean g_mean
  rw [ZO_5 s81, Option.bind_some, M_isRow, zbd_s]
  cases h : ix r 6 with
  | none => exact ⟨k, m, by rw [ifNo, ifb0], hM, zfM.rf⟩
  | some j =>
    dsimp only
    obtain ⟨rfl, hj⟩ := ix_s (by omega) h
    obtain ⟨q1, q2⟩ := hM.2.1 j hj
    rw [ifSo, ifb1, ZA_5_5 s81, Option.bind_some, Ml_83 hj, Option.bind_some, q1]
    cases hw : (sW s).1 j with
    | none =>
      obtain ⟨m', f1, f2, f3⟩ := M_meets (f := 1) (by omega) hN5 hM
      have f1' : dn_X5_meets 81 1 (Z k m) = some (-3, Z k m') := f1
      exact ⟨k, m', by rw [if_pos (szM0 rfl), f1', zbd_s], f2, f3⟩
    | some n =>
      dsimp only
      have hn := hS.2.1 j n hj hw
      have e : m 83 j = nI n := by rw [q1, hw]; rfl
      rw [show szM (some n) = nI n from rfl, if_neg (nIn0 (by omega)), Option.bind_some, Ml_83 hj, Option.bind_some, e]
      by_cases h0 : n = 0
      · obtain ⟨m', f1, f2, f3⟩ := M_meets (f := 4) (by omega) hN5 hM
        have f1' : dn_X5_meets 81 4 (Z k m) = some (-3, Z k m') := f1
        rw [if_pos h0]
        exact ⟨k, m', by rw [et_0 h0, f1', zbd_s], f2, f3⟩
      · obtain ⟨m', t1, t2, t3⟩ := M_tells (v := Int64.toInt32 (smL ((sW s).2 j) n / Int32.toInt64 (nI n))) (a := 1) hN5 hM
        rw [if_neg h0]
        refine ⟨k, m', ?_, t2, t3⟩
        have hl := M_mean44 (k := k) hj (q2 n hw) e hn n 0 2000 (by omega) (by omega)
        have hl' : lp_X5_mean_44 81 (nI j) (0, 0) (Z k m) = jn_X5_mean_72 81 (nI j) (smL ((sW s).2 j) n) (Z k m) := hl
        rw [ef_0 h0 (by omega), hl']
        unfold jn_X5_mean_72
        rw [ZA_5_5 s81, Option.bind_some, Ml_83 hj, Option.bind_some, e, if_neg (L_ne0 (by omega) (by omega)), t1, zbd_s]
theorem o_mean (r : Int32) : okG (g_mean r) := by
  intro s hS
  unfold g_mean
  cases h : ix r 6 with
  | none => exact hS
  | some j =>
    cases hw : (sW s).1 j with
    | none => simp only [hw]; exact hS
    | some n =>
      simp only [hw]
      by_cases h0 : n = 0
      · rw [if_pos h0]; exact hS
      · rw [if_neg h0]; exact hS
/-! copy -/
def fits (i n : Int32) (sz : Nat) : Prop := 0 ≤ i.toInt ∧ i.toInt + n.toInt ≤ sz
theorem X_hasFrom {b sz : Nat} {i n : Int32} (hb : shp b = 3) (e : m b 1 = nI sz) (hsz : sz ≤ 100) (hn : 0 ≤ n.toInt) : (fits i n sz → dn_X3_hasFrom b i n (Z k m) = some (1, Z k m)) ∧ (¬ fits i n sz → dn_X3_hasFrom b i n (Z k m) = some (0, Z k m)) := by
  have b1 := Int32.le_toInt i
  have b2 := Int32.toInt_lt i
  have c1 := Int32.le_toInt n
  have c2 := Int32.toInt_lt n
  have e1 : jn_X3_hasFrom_23 1 (Z k m) = some (1, Z k m) := rfl
  have e0 : jn_X3_hasFrom_23 0 (Z k m) = some (0, Z k m) := rfl
  have hn' : ¬ n < 0 := fun z => by
    rw [I32_iI n, iL_0 c1 (by omega)] at z
    omega
  have hi' : i < 0 ↔ i.toInt < 0 := by
    rw [I32_iI i, iL_0 b1 (by omega), iI_toInt b1 (by omega)]
  have hc : nI sz - n < i ↔ (sz : Int) - n.toInt < i.toInt := by
    rw [I32_iI n, I32_iI i, iI_nI, iI_sub, iI_lt (by omega) (by omega) (by omega) (by omega), iI_toInt c1 (by omega), iI_toInt b1 (by omega)]
  unfold dn_X3_hasFrom jn_X3_hasFrom_22 fits
  rw [ZO_3 hb, Option.bind_some, if_neg hn', ZI_3_1 hb, Option.bind_some, e, e1, e0]
  by_cases h1 : i < 0
  · rw [if_pos h1]
    exact ⟨fun z => by have := hi'.mp h1; omega, fun _ => rfl⟩
  · rw [if_neg h1]
    have h1' : 0 ≤ i.toInt := Int.not_lt.mp fun z => h1 (hi'.mpr z)
    by_cases h2 : nI sz - n < i
    · rw [if_pos h2]
      exact ⟨fun z => by have := hc.mp h2; omega, fun _ => rfl⟩
    · rw [if_neg h2]
      have h2' : ¬ (sz : Int) - n.toInt < i.toInt := fun z => h2 (hc.mpr z)
      exact ⟨fun _ => rfl, fun z => absurd ⟨h1', by omega⟩ z⟩
theorem L_fits {i n : Int32} {sz : Nat} (hsz : sz ≤ 100) : 0 < lg_cmp (Int32.toInt64 i + Int32.toInt64 n) (Int32.toInt64 (nI sz)) ↔ (sz : Int) < i.toInt + n.toInt := by
  have b1 := Int32.le_toInt i
  have b2 := Int32.toInt_lt i
  have c1 := Int32.le_toInt n
  have c2 := Int32.toInt_lt n
  rw [lg_cmp_gt, Int64.lt_iff_toInt_lt, Int64.toInt_add, Int32.toInt_toInt64, Int32.toInt_toInt64, Int32.toInt_toInt64, iI_nI, iI_toInt (by omega) (by omega), Int.bmod_eq_of_le (by omega) (by omega)]
theorem X_isRow {r : Int32} {h : zAH} : dn_X4_isRow r h = some (if (ix r 6).isSome then 1 else 0, h) := by
  unfold dn_X4_isRow jn_X4_isRow_14
  rcases ix_c r 6 (by omega) with ⟨j, hj, rfl, e⟩ | ⟨e, h0 | ⟨h0, h1⟩⟩
  · rw [e, if_neg (nIn0 (by omega)), it_6 hj]; rfl
  · rw [e, if_pos h0]; rfl
  · have h1' : ¬ r < 6 := h1
    rw [e, if_neg h0, if_neg h1']; rfl
noncomputable def g_copy (r i to j n : Int32) (s : zSt) : Int32 × zSt := by
  classical exact match ix r 6, ix to 6 with
  | some a, some b => if n < 0 then (-3, sFd 5 s) else match (sW s).1 a, (sW s).1 b with
    | some na, some nb => if fits i n na ∧ fits j n nb then (1, sWs (stW (sW s) b nb (va_cpy ((sW s).2 a) ((sW s).2 b) i.toInt.toNat j.toInt.toNat n.toInt.toNat)) s) else (-3, sFd 2 s)
    | _, _ => (-3, sFd 1 s)
  | _, _ => (-1, s)
theorem x_copy (r i to j n : Int32) : okX (dn_X4_copy 2 r i to j n) (g_copy r i to j n) := by
  intro s k m hS hX hN
  unfold dn_X4_copy g_copy jn_X4_copy_14 jn_X4_copy_51 jn_X4_copy_88
  rw [ZO_4 s2, Option.bind_some, X_isRow, zbd_s]
  cases h : ix r 6 with
  | none => exact ⟨k, m, by rw [ifNo, ifb0], hX, zfX.rf⟩
  | some a =>
    rw [ifSo, ifb1, X_isRow, zbd_s]
    cases h' : ix to 6 with
    | none => exact ⟨k, m, by rw [ifNo, ifb0], hX, zfX.rf⟩
    | some b =>
      dsimp only
      rw [ifSo, ifb1]
      obtain ⟨rfl, ha⟩ := ix_s (by omega) h
      obtain ⟨rfl, hb⟩ := ix_s (by omega) h'
      by_cases h0 : n < 0
      · obtain ⟨m', f1, f2, f3⟩ := X_found (f := 5) (by omega) hX
        have f1' : dn_X4_found 2 5 (Z k m) = some (-3, Z k m') := f1
        simp only [h0, if_true]
        exact ⟨k, m', by rw [f1', zbd_s], f2, f3⟩
      · simp only [h0, if_false]
        obtain ⟨q1, q2⟩ := hX.2.1 a ha
        obtain ⟨p1, p2⟩ := hX.2.1 b hb
        have sa := RW_s rwP_r ha
        have sb := RW_s rwP_r hb
        rw [ZA_4_0 s2, Option.bind_some, RW_r rwP_r ha, Option.bind_some, X_isMissing sa q1 (fun n hn => by have := hS.2.1 a n ha hn; omega), zbd_s]
        have hF1 : ∃ m', dn_X4_found 2 1 (Z k m) = some (-3, Z k m') ∧ XS (sFd 1 s) k m' ∧ zfX k m k m' := X_found (f := 1) (by omega) hX
        have hF2 : ∃ m', dn_X4_found 2 2 (Z k m) = some (-3, Z k m') ∧ XS (sFd 2 s) k m' ∧ zfX k m k m' := X_found (f := 2) (by omega) hX
        obtain ⟨m1, f1, f2, f3⟩ := hF1
        obtain ⟨m2, e1, e2, e3⟩ := hF2
        cases hwa : (sW s).1 a with
        | none => exact ⟨k, m1, by rw [ifNo, if_neg (by decide), f1, zbd_s], f2, f3⟩
        | some na =>
          rw [ifSo, ifb0, ZA_4_0 s2, Option.bind_some, RW_r rwP_r hb, Option.bind_some, X_isMissing sb p1 (fun n hn => by have := hS.2.1 b n hb hn; omega), zbd_s]
          cases hwb : (sW s).1 b with
          | none => exact ⟨k, m1, by rw [ifNo, if_neg (by decide), f1, zbd_s], f2, f3⟩
          | some nb =>
            dsimp only
            have hna := hS.2.1 a na ha hwa
            have hnb := hS.2.1 b nb hb hwb
            have ea : m (40 + 2 * a) 1 = nI na := by rw [q1, hwa]; rfl
            have eb : m (40 + 2 * b) 1 = nI nb := by rw [p1, hwb]; rfl
            have c1 := Int32.le_toInt n
            have c2 := Int32.toInt_lt n
            have hn0 : 0 ≤ n.toInt := by
              rw [I32_iI n, iL_0 c1 (by omega)] at h0
              omega
            have fa := X_hasFrom (k := k) (i := i) sa ea (by omega) hn0
            have fb := X_hasFrom (k := k) (i := j) sb eb (by omega) hn0
            rw [ifSo, ifb0, ZA_4_0 s2, Option.bind_some, RW_r rwP_r ha, Option.bind_some]
            by_cases hfa : fits i n na
            · rw [fa.1 hfa, zbd_s, ifb1, ZA_4_0 s2, Option.bind_some, RW_r rwP_r hb, Option.bind_some]
              by_cases hfb : fits j n nb
              · rw [fb.1 hfb, zbd_s, ifb1, if_pos ⟨hfa, hfb⟩]
                obtain ⟨i1, i2⟩ := hfa
                obtain ⟨j1, j2⟩ := hfb
                obtain ⟨i', ei, ti, ui⟩ : ∃ i', i = nI i' ∧ i.toInt = (i' : Int) ∧ i.toInt.toNat = i' := ⟨i.toInt.toNat, by rw [iI_nI, Int.toNat_of_nonneg i1]; exact I32_iI i, (Int.toNat_of_nonneg i1).symm, rfl⟩
                obtain ⟨j', ej, tj, uj⟩ : ∃ j', j = nI j' ∧ j.toInt = (j' : Int) ∧ j.toInt.toNat = j' := ⟨j.toInt.toNat, by rw [iI_nI, Int.toNat_of_nonneg j1]; exact I32_iI j, (Int.toNat_of_nonneg j1).symm, rfl⟩
                obtain ⟨n', en, tn, un⟩ : ∃ n', n = nI n' ∧ n.toInt = (n' : Int) ∧ n.toInt.toNat = n' := ⟨n.toInt.toNat, by rw [iI_nI, Int.toNat_of_nonneg hn0]; exact I32_iI n, (Int.toNat_of_nonneg hn0).symm, rfl⟩
                have ga := (shp_rw a ha).2
                have gb := (shp_rw b hb).2
                rw [ui, uj, un, ei, ej, en]
                refine ⟨k, ms m (40 + 2 * b + 1) (va_cpy (m (40 + 2 * a + 1)) (m (40 + 2 * b + 1)) i' j' n'), ?_, hX.w (zXQ.st hX.2.1 hb (n := nb) (f := va_cpy ((sW s).2 a) ((sW s).2 b) i' j' n') ?_ (fun t ht => ?_) (fun r' h1 h2 => ⟨?_, ?_⟩)) (fun c h1 h2 => ?_), zfX.of fun c hc => ?_⟩
                · rw [ZA_4_0 s2, Option.bind_some, RW_r rwP_r ha, Option.bind_some, ZA_3_0 sa, Option.bind_some, Option.bind_some, RW_r rwP_r hb, Option.bind_some, ZA_3_0 sb, Option.bind_some, Zcp (by omega) (by omega) (by rw [ga]; rfl) (by omega) (by omega) (by rw [gb]; rfl) (by rw [ga]; show i' + n' ≤ 60; omega) (by rw [gb]; show j' + n' ≤ 60; omega), Option.bind_some]
                · simp only [ms]; rw [if_neg (by omega)]; exact eb
                · simp only [ms, if_true, va_cpy]
                  by_cases hc : j' ≤ t ∧ t < j' + n'
                  · rw [if_pos hc, if_pos hc]; exact q2 na hwa _ (by omega)
                  · rw [if_neg hc, if_neg hc]; exact p2 nb hwb t ht
                · simp only [ms]; rw [if_neg (by omega)]
                · simp only [ms]; rw [if_neg (by omega)]
                · simp only [ms]; rw [if_neg (by omega)]
                · simp only [ms]; rw [if_neg (by omega)]
              · rw [fb.2 hfb, zbd_s, ifb0, if_neg (fun z => hfb z.2)]
                exact ⟨k, m2, by rw [e1, zbd_s], e2, e3⟩
            · rw [fa.2 hfa, zbd_s, ifb0, if_neg (fun z => hfa z.1)]
              exact ⟨k, m2, by rw [e1, zbd_s], e2, e3⟩
theorem M_cp136 {b j n : Nat} (hb : b < 6) (hj : j + n ≤ 60) : ∀ c x m f, x + c = n → c < f → ∃ m', zlp (lb_X5_copy_136 81 (nI b) (nI j) (nI n)) f (nI x) (Z k m) = some (1, Z k m') ∧ (∀ t, x ≤ t → t < n → m' 84 (60 * b + j + t) = m 85 t) ∧ (∀ a, a ≠ 84 → m' a = m a) ∧ ∀ t, (t < 60 * b + j + x ∨ 60 * b + j + n ≤ t) → m' 84 t = m 84 t := by
  intro c
  induction c with
  | zero =>
    intro x m f hx hf
    obtain ⟨f, rfl⟩ : ∃ g, f = g + 1 := ⟨f - 1, by omega⟩
    obtain rfl : x = n := by omega
    refine ⟨m, ?_, fun t h1 h2 => by omega, fun _ _ => rfl, fun _ _ => rfl⟩
    rw [zlp_s]
    show (if nI x < nI x then _ else _) = _
    rw [ifLf (Nat.le_refl _) (by omega)]
    rfl
  | succ c ih =>
    intro x m f hx hf
    obtain ⟨f, rfl⟩ : ∃ g, f = g + 1 := ⟨f - 1, by omega⟩
    obtain ⟨m', q1, q2, q3, q4⟩ := ih (x + 1) (mu m 84 (60 * b + j + x) (m 85 x)) f (by omega) (by omega)
    refine ⟨m', ?_, fun t h1 h2 => ?_, fun a ha => by rw [q3 a ha, mu_ar _ _ _ ha], fun t ht => by rw [q4 t (by omega), mu_j _ _ (by omega)]⟩
    · rw [zlp_s]
      show (if nI x < nI n then _ else _) = _
      rw [ifLt (by omega) (by omega), ZA_5_6 s81, Option.bind_some, ZA_5_7 s81, Option.bind_some, Ml_85 (by omega), Option.bind_some, nM_60, nI_add, nI_add, Ms_84 (by omega), Option.bind_some, nA_1, q1]
    · by_cases h : t = x
      · subst h; rw [q4 _ (by omega), mu_s]
      · rw [q2 t (by omega) h2, mu_a _ _ _ _ (by omega)]
theorem M_cp104 {a i n : Nat} {v3 v4 : Int32} (ha : a < 6) (hi : i + n ≤ 60) : ∀ c x m f, x + c = n → c < f → ∃ m', zlp (lb_X5_copy_104 81 (nI a) (nI i) v3 v4 (nI n)) f (nI x) (Z k m) = jn_X5_copy_133 81 v3 v4 (nI n) (Z k m') ∧ (∀ t, x ≤ t → t < n → m' 85 t = m 84 (60 * a + (i + t))) ∧ (∀ t, t < x → m' 85 t = m 85 t) ∧ ∀ a, a ≠ 85 → m' a = m a := by
  intro c
  induction c with
  | zero =>
    intro x m f hx hf
    obtain ⟨f, rfl⟩ : ∃ g, f = g + 1 := ⟨f - 1, by omega⟩
    obtain rfl : x = n := by omega
    refine ⟨m, ?_, fun t h1 h2 => by omega, fun _ _ => rfl, fun _ _ => rfl⟩
    rw [zlp_s]
    show (if nI x < nI x then _ else _) = _
    rw [ifLf (Nat.le_refl _) (by omega)]
  | succ c ih =>
    intro x m f hx hf
    obtain ⟨f, rfl⟩ : ∃ g, f = g + 1 := ⟨f - 1, by omega⟩
    obtain ⟨m', q1, q2, q3, q4⟩ := ih (x + 1) (mu m 85 x (m 84 (60 * a + (i + x)))) f (by omega) (by omega)
    refine ⟨m', ?_, fun t h1 h2 => ?_, fun t ht => by rw [q3 t (by omega), mu_j _ _ (by omega)], fun b hb => by rw [q4 b hb, mu_ar _ _ _ hb]⟩
    · rw [zlp_s]
      show (if nI x < nI n then _ else _) = _
      rw [ifLt (by omega) (by omega), ZA_5_7 s81, Option.bind_some, nI_add, M_rowAt ha (by omega), zbd_s, Ms_85 (by omega), Option.bind_some, nA_1, q1]
    · by_cases h : t = x
      · subst h; rw [q3 _ (by omega), mu_s]
      · rw [q2 t (by omega) h2, mu_a _ _ _ _ (by omega)]
theorem x5_copy (r i to j n : Int32) : okM (dn_X5_copy 81 r i to j n) (g_copy r i to j n) := by
  intro s k m hS hM
  have hN5 := hS.2.2.2.1.1.2.1
  unfold dn_X5_copy g_copy jn_X5_copy_14 jn_X5_copy_45 jn_X5_copy_95
  rw [ZO_5 s81, Option.bind_some, M_isRow, zbd_s]
  cases h : ix r 6 with
  | none => exact ⟨k, m, by rw [ifNo, ifb0], hM, zfM.rf⟩
  | some a =>
    rw [ifSo, ifb1, M_isRow, zbd_s]
    cases h' : ix to 6 with
    | none => exact ⟨k, m, by rw [ifNo, ifb0], hM, zfM.rf⟩
    | some b =>
      dsimp only
      rw [ifSo, ifb1]
      obtain ⟨rfl, ha⟩ := ix_s (by omega) h
      obtain ⟨rfl, hb⟩ := ix_s (by omega) h'
      by_cases h0 : n < 0
      · obtain ⟨m', f1, f2, f3⟩ := M_meets (f := 5) (by omega) hN5 hM
        have f1' : dn_X5_meets 81 5 (Z k m) = some (-3, Z k m') := f1
        simp only [h0, if_true]
        exact ⟨k, m', by rw [f1', zbd_s], f2, f3⟩
      · simp only [h0, if_false]
        obtain ⟨q1, q2⟩ := hM.2.1 a ha
        obtain ⟨p1, p2⟩ := hM.2.1 b hb
        have hF1 : ∃ m', dn_X5_meets 81 1 (Z k m) = some (-3, Z k m') ∧ MS (sFd 1 s) k m' ∧ zfM k m k m' := M_meets (f := 1) (by omega) hN5 hM
        have hF2 : ∃ m', dn_X5_meets 81 2 (Z k m) = some (-3, Z k m') ∧ MS (sFd 2 s) k m' ∧ zfM k m k m' := M_meets (f := 2) (by omega) hN5 hM
        obtain ⟨m1, f1, f2, f3⟩ := hF1
        obtain ⟨m2, e1, e2, e3⟩ := hF2
        rw [ZA_5_5 s81, Option.bind_some, Ml_83 ha, Option.bind_some, q1]
        cases hwa : (sW s).1 a with
        | none => exact ⟨k, m1, by rw [if_pos (szM0 rfl), f1, zbd_s], f2, f3⟩
        | some na =>
          have hna := hS.2.1 a na ha hwa
          rw [show szM (some na) = nI na from rfl, if_neg (nIn0 (by omega)), Option.bind_some, Ml_83 hb, Option.bind_some, p1]
          cases hwb : (sW s).1 b with
          | none => exact ⟨k, m1, by rw [if_pos (szM0 rfl), f1, zbd_s], f2, f3⟩
          | some nb =>
            dsimp only
            have hnb := hS.2.1 b nb hb hwb
            have ea : m 83 a = nI na := by rw [q1, hwa]; rfl
            have eb : m 83 b = nI nb := by rw [p1, hwb]; rfl
            have c1 := Int32.le_toInt n
            have c2 := Int32.toInt_lt n
            have hn0 : 0 ≤ n.toInt := by
              rw [I32_iI n, iL_0 c1 (by omega)] at h0
              omega
            have hlt : ∀ i : Int32, i < 0 ↔ i.toInt < 0 := fun i => by
              rw [I32_iI i, iL_0 (Int32.le_toInt i) (by have := Int32.toInt_lt i; omega), iI_toInt (Int32.le_toInt i) (by have := Int32.toInt_lt i; omega)]
            rw [show szM (some nb) = nI nb from rfl, if_neg (nIn0 (by omega))]
            by_cases hi : i < 0
            · rw [if_pos hi, if_neg (fun z => by have := (hlt i).mp hi; have := z.1.1; omega)]
              exact ⟨k, m2, by rw [e1, zbd_s], e2, e3⟩
            · rw [if_neg hi]
              by_cases hj : j < 0
              · rw [if_pos hj, if_neg (fun z => by have := (hlt j).mp hj; have := z.2.1; omega)]
                exact ⟨k, m2, by rw [e1, zbd_s], e2, e3⟩
              · rw [if_neg hj, Option.bind_some, Ml_83 ha, Option.bind_some, ea]
                have i1 : 0 ≤ i.toInt := Int.not_lt.mp fun z => hi ((hlt i).mpr z)
                have j1 : 0 ≤ j.toInt := Int.not_lt.mp fun z => hj ((hlt j).mpr z)
                by_cases hfa : (na : Int) < i.toInt + n.toInt
                · rw [if_pos ((L_fits (by omega)).mpr hfa), if_neg (fun z => by have := z.1.2; omega)]
                  exact ⟨k, m2, by rw [e1, zbd_s], e2, e3⟩
                · rw [if_neg (fun z => hfa ((L_fits (by omega)).mp z)), Option.bind_some, Ml_83 hb, Option.bind_some, eb]
                  by_cases hfb : (nb : Int) < j.toInt + n.toInt
                  · rw [if_pos ((L_fits (by omega)).mpr hfb), if_neg (fun z => by have := z.2.2; omega)]
                    exact ⟨k, m2, by rw [e1, zbd_s], e2, e3⟩
                  · rw [if_neg (fun z => hfb ((L_fits (by omega)).mp z)), if_pos ⟨⟨i1, by omega⟩, ⟨j1, by omega⟩⟩]
                    obtain ⟨i', ei, ti, ui⟩ : ∃ i', i = nI i' ∧ i.toInt = (i' : Int) ∧ i.toInt.toNat = i' := ⟨i.toInt.toNat, by rw [iI_nI, Int.toNat_of_nonneg i1]; exact I32_iI i, (Int.toNat_of_nonneg i1).symm, rfl⟩
                    obtain ⟨j', ej, tj, uj⟩ : ∃ j', j = nI j' ∧ j.toInt = (j' : Int) ∧ j.toInt.toNat = j' := ⟨j.toInt.toNat, by rw [iI_nI, Int.toNat_of_nonneg j1]; exact I32_iI j, (Int.toNat_of_nonneg j1).symm, rfl⟩
                    obtain ⟨n', en, tn, un⟩ : ∃ n', n = nI n' ∧ n.toInt = (n' : Int) ∧ n.toInt.toNat = n' := ⟨n.toInt.toNat, by rw [iI_nI, Int.toNat_of_nonneg hn0]; exact I32_iI n, (Int.toNat_of_nonneg hn0).symm, rfl⟩
                    rw [ui, uj, un, ei, ej, en]
                    obtain ⟨w1, u1, u2, u3, u4⟩ := M_cp104 (k := k) (v3 := nI b) (v4 := nI j') (i := i') (n := n') ha (by omega) n' 0 m 2000 (by omega) (by omega)
                    obtain ⟨w2, v1, v2, v3, v4⟩ := M_cp136 (k := k) (j := j') (n := n') hb (by omega) n' 0 w1 2000 (by omega) (by omega)
                    have z : MS (sWs (stW (sW s) b nb (va_cpy ((sW s).2 a) ((sW s).2 b) i' j' n')) s) k w2 := by
                      have hM1 : MS s k w1 := hM.sc hN5 ⟨fun c h1 h2 _ _ _ _ _ => u4 c h2, fun f _ => by rw [u4 81 (by omega)], fun t _ => by rw [u4 100 (by omega)]⟩
                      refine hM1.w hN5 (zMQ.st hS.2.1 hM1.2.1 hb (by rw [v3 83 (by omega), u4 83 (by omega)]; exact eb) (fun t ht => ?_) (fun r' h1 h2 => by rw [v3 83 (by omega)]) (fun r' t h1 h2 h3 => by rw [v4 _ (by omega)])) (fun c h1 h2 => v3 c h2)
                      simp only [va_cpy]
                      by_cases hc : j' ≤ t ∧ t < j' + n'
                      · rw [if_pos hc]
                        have e9 : 60 * b + t = 60 * b + j' + (t - j') := by omega
                        rw [e9, v2 _ (by omega) (by omega), u2 _ (by omega) (by omega)]
                        exact q2 na hwa _ (by omega)
                      · rw [if_neg hc, v4 _ (by omega), u4 84 (by omega)]
                        exact p2 nb hwb t ht
                    refine ⟨k, w2, ?_, z, zfM.of fun c hc => by rw [v3 c (by omega), u4 c (by omega)]⟩
                    have u1' : lp_X5_copy_104 81 (nI a) (nI i') (nI b) (nI j') (nI n') 0 (Z k m) = _ := u1
                    rw [u1']
                    exact v1
theorem o_copy (r i to j n : Int32) : okG (g_copy r i to j n) := by
  intro s hS
  unfold g_copy
  cases h : ix r 6 with
  | none => exact hS
  | some a =>
    cases h' : ix to 6 with
    | none => exact hS
    | some b =>
      dsimp only
      obtain ⟨-, hb⟩ := ix_s (by omega) h'
      by_cases h0 : n < 0
      · simp only [h0, if_true]; exact hS
      · simp only [h0, if_false]
        cases hwa : (sW s).1 a with
        | none => exact hS
        | some na =>
          cases hwb : (sW s).1 b with
          | none => exact hS
          | some nb =>
            dsimp only
            by_cases hc : fits i n na ∧ fits j n nb
            · rw [if_pos hc]; exact hS.w (stW_sz hS.2.1 (hS.2.1 b nb hb hwb))
            · rw [if_neg hc]; exact hS
end
