section
variable {k k' : zK} {m m' : Nat → Nat → Int32} {s : zSt}
theorem zfX.tr0 {m1 m2 : Nat → Nat → Int32} (h1 : zfX k m k m1) (h2 : ∀ a, 81 ≤ a → m2 a = m1 a) : zfX k m k m2 := ⟨fun a ha => (h2 a ha).trans (h1.1 a ha), h1.2⟩
/-! row, text -/
def g_row (r n : Int32) (s : zSt) : Int32 × zSt := match ix r 6 with
  | none => (-1, s)
  | some j => match ir n 0 60 with
    | none => if n < 0 then (-3, sFd 5 s) else (-1, s)
    | some p => (n, sWs (stW (sW s) j p (fun _ => 0)) s)
def g_text (r n : Int32) (s : zSt) : Int32 × zSt := match ix r 4 with
  | none => (-1, s)
  | some j => match ir n 0 100 with
    | none => if n < 0 then (-3, sFd 5 s) else (-1, s)
    | some p => (n, sTs (stW (sT s) j p (fun _ => 32)) s)
theorem X_layOut {am ba ct ln : Nat} {r n v : Int32} (hP : rwP am ba ct ln) (hX : XS s k m) :
    (ix r ct = none → dn_X4_layOut 2 am r n v (Z k m) = some (-1, Z k m)) ∧ (∀ j, ix r ct = some j → ir n 0 ln = none → n < 0 → ∃ m', dn_X4_layOut 2 am r n v (Z k m) = some (-3, Z k m') ∧ XS (sFd 5 s) k m' ∧ zfX k m k m') ∧ (∀ j, ix r ct = some j → ir n 0 ln = none → ¬ n < 0 → dn_X4_layOut 2 am r n v (Z k m) = some (-1, Z k m)) ∧ ∀ j p, ix r ct = some j → ir n 0 ln = some p → ∃ m', dn_X4_layOut 2 am r n v (Z k m) = some (n, Z k m') ∧ m' (ba + 2 * j) 1 = n ∧ (∀ i, i < ln → m' (ba + 2 * j + 1) i = v) ∧ ∀ a, a ≠ ba + 2 * j → a ≠ ba + 2 * j + 1 → m' a = m a := by
  have hle := rwP_le hP
  unfold dn_X4_layOut jn_X4_layOut_21
  rw [ZO_4 s2, Option.bind_some, RW_n hP, Option.bind_some]
  refine ⟨fun h => ?_, fun j h hn h0 => ?_, fun j h hn h0 => ?_, fun j p h hn => ?_⟩
  · rcases ix_n (by omega) h with h0 | ⟨h0, h1⟩
    · rw [if_pos h0]
    · rw [if_neg h0, if_neg h1]
  · obtain ⟨rfl, hj⟩ := ix_s (by omega) h
    obtain ⟨m', f1, f2, f3⟩ := X_found (f := 5) (by omega) hX
    have hs := RW_s hP hj
    have hnl : ¬ nI ln < n := fun z => by
      have b1 := Int32.le_toInt n
      have b2 := Int32.toInt_lt n
      rw [I32_iI n, iL_0 b1 (by omega)] at h0
      rw [I32_iI n, iI_nI, iI_lt (by omega) (by omega) b1 (by omega)] at z
      omega
    refine ⟨m', ?_, f2, f3⟩
    have f1' : dn_X4_found 2 5 (Z k m) = some (-3, Z k m') := f1
    rw [if_neg (nIn0 (by omega)), ifLt hj (by omega), RW_r hP hj, Option.bind_some, ZA_3_0 hs, Option.bind_some, RW_ln hP hj, Option.bind_some, if_neg hnl, if_pos h0, f1', zbd_s]
  · obtain ⟨rfl, hj⟩ := ix_s (by omega) h
    have hs := RW_s hP hj
    have hnl : nI ln < n := by
      rcases ir_n (by omega) (by omega) hn with z | z
      · exact absurd z h0
      · exact z.2
    rw [if_neg (nIn0 (by omega)), ifLt hj (by omega), RW_r hP hj, Option.bind_some, ZA_3_0 hs, Option.bind_some, RW_ln hP hj, Option.bind_some, if_pos hnl]
  · obtain ⟨rfl, hj⟩ := ix_s (by omega) h
    obtain ⟨rfl, -, hp⟩ := ir_s (by omega) (by omega) hn
    have hs := RW_s hP hj
    obtain ⟨m', r1, r2, r3, r4⟩ := X_renew (k := k) (m := m) (n := nI p) (v := v) hP hj
    refine ⟨m', ?_, r2, r3, r4⟩
    rw [if_neg (nIn0 (by omega)), ifLt hj (by omega), RW_r hP hj, Option.bind_some, ZA_3_0 hs, Option.bind_some, RW_ln hP hj, Option.bind_some, ifLf hp (by omega), if_neg (nIn0 (by omega)), Option.bind_some, r1, zbd_s]
theorem x_row (r n : Int32) : okX (dn_X4_row 2 r n) (g_row r n) := by
  intro s k m hS hX hN
  obtain ⟨l1, l2, l3, l4⟩ := X_layOut (r := r) (n := n) (v := 0) rwP_r hX
  unfold dn_X4_row g_row
  rw [ZO_4 s2, Option.bind_some, ZA_4_0 s2, Option.bind_some]
  cases h : ix r 6 with
  | none => exact ⟨k, m, by rw [l1 h, zbd_s], hX, zfX.rf⟩
  | some j =>
    cases hn : ir n 0 60 with
    | none =>
      by_cases h0 : n < 0
      · obtain ⟨m', f1, f2, f3⟩ := l2 j h hn h0
        simp only [h0, if_true]
        exact ⟨k, m', by rw [f1, zbd_s], f2, f3⟩
      · simp only [h0, if_false]
        exact ⟨k, m, by rw [l3 j h hn h0, zbd_s], hX, zfX.rf⟩
    | some p =>
      obtain ⟨m', r1, r2, r3, r4⟩ := l4 j p h hn
      obtain ⟨-, hj⟩ := ix_s (by omega) h
      obtain ⟨rfl, -, hp⟩ := ir_s (by omega) (by omega) hn
      refine ⟨k, m', by rw [r1, zbd_s], hX.w (zXQ.st hX.2.1 hj r2 (fun i hi => r3 i (by omega)) fun r' h1 h2 => ⟨r4 _ (by omega) (by omega), r4 _ (by omega) (by omega)⟩) (fun a h1 h2 => r4 a (by omega) (by omega)), zfX.of fun a ha => r4 a (by omega) (by omega)⟩
theorem x_text (r n : Int32) : okX (dn_X4_text 2 r n) (g_text r n) := by
  intro s k m hS hX hN
  obtain ⟨l1, l2, l3, l4⟩ := X_layOut (r := r) (n := n) (v := 32) rwP_t hX
  unfold dn_X4_text g_text
  rw [ZO_4 s2, Option.bind_some, ZA_4_1 s2, Option.bind_some]
  cases h : ix r 4 with
  | none => exact ⟨k, m, by rw [l1 h, zbd_s], hX, zfX.rf⟩
  | some j =>
    cases hn : ir n 0 100 with
    | none =>
      by_cases h0 : n < 0
      · obtain ⟨m', f1, f2, f3⟩ := l2 j h hn h0
        simp only [h0, if_true]
        exact ⟨k, m', by rw [f1, zbd_s], f2, f3⟩
      · simp only [h0, if_false]
        exact ⟨k, m, by rw [l3 j h hn h0, zbd_s], hX, zfX.rf⟩
    | some p =>
      obtain ⟨m', r1, r2, r3, r4⟩ := l4 j p h hn
      obtain ⟨-, hj⟩ := ix_s (by omega) h
      obtain ⟨rfl, -, hp⟩ := ir_s (by omega) (by omega) hn
      refine ⟨k, m', by rw [r1, zbd_s], hX.t (zXQ.st hX.2.2.1 hj r2 (fun i hi => r3 i (by omega)) fun r' h1 h2 => ⟨r4 _ (by omega) (by omega), r4 _ (by omega) (by omega)⟩) (fun a h1 h2 => r4 a (by omega) (by omega)), zfX.of fun a ha => r4 a (by omega) (by omega)⟩
theorem M_row34 {j p : Nat} (hj : j < 6) : ∀ n x m f, x + n = 60 → n < f → (∀ i, i < x → m 84 (60 * j + i) = 0) → ∃ m', zlp (lb_X5_row_34 81 (nI j) (nI p)) f (nI x) (Z k m) = some (nI p, Z k m') ∧ (∀ i, i < 60 → m' 84 (60 * j + i) = 0) ∧ (∀ a, a ≠ 84 → m' a = m a) ∧ ∀ i, (i < 60 * j ∨ 60 * j + 60 ≤ i) → m' 84 i = m 84 i := by
  intro n
  induction n with
  | zero =>
    intro x m f hx hf hz
    obtain ⟨f, rfl⟩ : ∃ g, f = g + 1 := ⟨f - 1, by omega⟩
    obtain rfl : x = 60 := by omega
    refine ⟨m, ?_, hz, fun _ _ => rfl, fun _ _ => rfl⟩
    rw [zlp_s]
    show (if nI 60 < 60 then _ else _) = _
    rw [if_neg (by decide)]
    rfl
  | succ n ih =>
    intro x m f hx hf hz
    obtain ⟨f, rfl⟩ : ∃ g, f = g + 1 := ⟨f - 1, by omega⟩
    obtain ⟨m', q1, q2, q3, q4⟩ := ih (x + 1) (mu m 84 (60 * j + x) 0) f (by omega) (by omega) (fun i hi => by
      by_cases h : i = x
      · subst h; rw [mu_s]
      · rw [mu_j _ _ (by omega)]; exact hz i (by omega))
    refine ⟨m', ?_, q2, fun a ha => by rw [q3 a ha, mu_ar _ _ _ ha], fun i hi => by rw [q4 i hi, mu_j _ _ (by omega)]⟩
    rw [zlp_s]
    show (if nI x < 60 then _ else _) = _
    rw [it_60 (by omega), ZA_5_6 s81, Option.bind_some, nM_60, nI_add, Ms_84 (by omega), Option.bind_some, nA_1, q1]
theorem M_text34 {j p : Nat} (hj : j < 4) : ∀ n x m f, x + n = 100 → n < f → (∀ i, i < x → m 87 (100 * j + i) = 32) → ∃ m', zlp (lb_X5_text_34 81 (nI j) (nI p)) f (nI x) (Z k m) = some (nI p, Z k m') ∧ (∀ i, i < 100 → m' 87 (100 * j + i) = 32) ∧ (∀ a, a ≠ 87 → m' a = m a) ∧ ∀ i, (i < 100 * j ∨ 100 * j + 100 ≤ i) → m' 87 i = m 87 i := by
  intro n
  induction n with
  | zero =>
    intro x m f hx hf hz
    obtain ⟨f, rfl⟩ : ∃ g, f = g + 1 := ⟨f - 1, by omega⟩
    obtain rfl : x = 100 := by omega
    refine ⟨m, ?_, hz, fun _ _ => rfl, fun _ _ => rfl⟩
    rw [zlp_s]
    show (if nI 100 < 100 then _ else _) = _
    rw [if_neg (by decide)]
    rfl
  | succ n ih =>
    intro x m f hx hf hz
    obtain ⟨f, rfl⟩ : ∃ g, f = g + 1 := ⟨f - 1, by omega⟩
    obtain ⟨m', q1, q2, q3, q4⟩ := ih (x + 1) (mu m 87 (100 * j + x) 32) f (by omega) (by omega) (fun i hi => by
      by_cases h : i = x
      · subst h; rw [mu_s]
      · rw [mu_j _ _ (by omega)]; exact hz i (by omega))
    refine ⟨m', ?_, q2, fun a ha => by rw [q3 a ha, mu_ar _ _ _ ha], fun i hi => by rw [q4 i hi, mu_j _ _ (by omega)]⟩
    rw [zlp_s]
    show (if nI x < 100 then _ else _) = _
    rw [it_100 (by omega), ZA_5_9 s81, Option.bind_some, nM_100, nI_add, Ms_87 (by omega), Option.bind_some, nA_1, show ((Int32.toInt8 32).toInt32) = 32 by decide, q1]
theorem x5_row (r n : Int32) : okM (dn_X5_row 81 r n) (g_row r n) := by
  intro s k m hS hM
  have hN5 := hS.2.2.2.1.1.2.1
  unfold dn_X5_row g_row jn_X5_row_13
  rw [ZO_5 s81, Option.bind_some, M_isRow, zbd_s]
  cases h : ix r 6 with
  | none => exact ⟨k, m, by rw [ifNo, ifb0], hM, zfM.rf⟩
  | some j =>
    obtain ⟨rfl, hj⟩ := ix_s (by omega) h
    rw [ifSo, ifb1]
    cases hn : ir n 0 60 with
    | none =>
      rcases ir_n (by omega) (by omega) hn with h0 | ⟨h0, h1⟩
      · have h0' : n < 0 := h0
        have hnl : ¬ (60 : Int32) < n := fun z => by
          have b1 := Int32.le_toInt n
          have b2 := Int32.toInt_lt n
          rw [I32_iI n, iL_0 b1 (by omega)] at h0'
          rw [I32_iI n, jL_60 b1 (by omega)] at z
          omega
        obtain ⟨m', f1, f2, f3⟩ := M_meets (f := 5) (by omega) hN5 hM
        have f1' : dn_X5_meets 81 5 (Z k m) = some (-3, Z k m') := f1
        simp only [h0', if_true]
        exact ⟨k, m', by rw [if_neg hnl, f1', zbd_s], f2, f3⟩
      · have h0' : ¬ n < 0 := h0
        have h1' : (60 : Int32) < n := h1
        simp only [h0', if_false]
        exact ⟨k, m, by rw [if_pos h1'], hM, zfM.rf⟩
    | some p =>
      obtain ⟨rfl, -, hp⟩ := ir_s (by omega) (by omega) hn
      obtain ⟨m', q1, q2, q3, q4⟩ := M_row34 (k := k) (p := p) hj 60 0 (mu m 83 j (nI p)) 2000 (by omega) (by omega) (fun i hi => by omega)
      refine ⟨k, m', ?_, hM.w hN5 (zMQ.st hS.2.1 hM.2.1 hj (by rw [q3 83 (by omega), mu_s]) (fun i hi => q2 i (by omega)) (fun r' h1 h2 => by rw [q3 83 (by omega), mu_j _ _ h2]) (fun r' i h1 h2 h3 => by rw [q4 _ (by omega), mu_a _ _ _ _ (by omega)])) (fun a h1 h2 => by rw [q3 a h2, mu_ar _ _ _ h1]), zfM.of fun a ha => by rw [q3 a (by omega), mu_ar _ _ _ (by omega)]⟩
      rw [jf_60 (by omega), if_neg (nIn0 (by omega)), ZA_5_5 s81, Option.bind_some, Ms_83 hj, Option.bind_some]
      exact q1
theorem x5_text (r n : Int32) : okM (dn_X5_text 81 r n) (g_text r n) := by
  intro s k m hS hM
  have hN5 := hS.2.2.2.1.1.2.1
  unfold dn_X5_text g_text jn_X5_text_13
  rw [ZO_5 s81, Option.bind_some, M_isText, zbd_s]
  cases h : ix r 4 with
  | none => exact ⟨k, m, by rw [ifNo, ifb0], hM, zfM.rf⟩
  | some j =>
    obtain ⟨rfl, hj⟩ := ix_s (by omega) h
    rw [ifSo, ifb1]
    cases hn : ir n 0 100 with
    | none =>
      rcases ir_n (by omega) (by omega) hn with h0 | ⟨h0, h1⟩
      · have h0' : n < 0 := h0
        have hnl : ¬ (100 : Int32) < n := fun z => by
          have b1 := Int32.le_toInt n
          have b2 := Int32.toInt_lt n
          rw [I32_iI n, iL_0 b1 (by omega)] at h0'
          rw [I32_iI n, jL_100 b1 (by omega)] at z
          omega
        obtain ⟨m', f1, f2, f3⟩ := M_meets (f := 5) (by omega) hN5 hM
        have f1' : dn_X5_meets 81 5 (Z k m) = some (-3, Z k m') := f1
        simp only [h0', if_true]
        exact ⟨k, m', by rw [if_neg hnl, f1', zbd_s], f2, f3⟩
      · have h0' : ¬ n < 0 := h0
        have h1' : (100 : Int32) < n := h1
        simp only [h0', if_false]
        exact ⟨k, m, by rw [if_pos h1'], hM, zfM.rf⟩
    | some p =>
      obtain ⟨rfl, -, hp⟩ := ir_s (by omega) (by omega) hn
      obtain ⟨m', q1, q2, q3, q4⟩ := M_text34 (k := k) (p := p) hj 100 0 (mu m 86 j (nI p)) 2000 (by omega) (by omega) (fun i hi => by omega)
      refine ⟨k, m', ?_, hM.t hN5 (zMQ.st hS.2.2.1 hM.2.2.1 hj (by rw [q3 86 (by omega), mu_s]) (fun i hi => q2 i (by omega)) (fun r' h1 h2 => by rw [q3 86 (by omega), mu_j _ _ h2]) (fun r' i h1 h2 h3 => by rw [q4 _ (by omega), mu_a _ _ _ _ (by omega)])) (fun a h1 h2 => by rw [q3 a h2, mu_ar _ _ _ h1]), zfM.of fun a ha => by rw [q3 a (by omega), mu_ar _ _ _ (by omega)]⟩
      rw [jf_100 (by omega), if_neg (nIn0 (by omega)), ZA_5_8 s81, Option.bind_some, Ms_86 hj, Option.bind_some]
      exact q1
theorem o_row (r n : Int32) : okG (g_row r n) := by
  intro s hS
  unfold g_row
  cases h : ix r 6 with
  | none => exact hS
  | some j =>
    cases hn : ir n 0 60 with
    | none =>
      by_cases h0 : n < 0
      · simp only [h0, if_true]; exact hS
      · simp only [h0, if_false]; exact hS
    | some p =>
      obtain ⟨-, -, hp⟩ := ir_s (by omega) (by omega) hn
      exact hS.w (stW_sz hS.2.1 hp)
theorem o_text (r n : Int32) : okG (g_text r n) := by
  intro s hS
  unfold g_text
  cases h : ix r 4 with
  | none => exact hS
  | some j =>
    cases hn : ir n 0 100 with
    | none =>
      by_cases h0 : n < 0
      · simp only [h0, if_true]; exact hS
      · simp only [h0, if_false]; exact hS
    | some p =>
      obtain ⟨-, -, hp⟩ := ir_s (by omega) (by omega) hn
      exact hS.t (stW_sz hS.2.2.1 hp)
end
