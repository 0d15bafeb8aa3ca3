/-! posts -/
abbrev zT3 : Type := Nat × Nat × (Nat → Int32)
def okT (t : zT3) : Prop := t.1 < 32 ∧ t.2.1 = popN t.1
theorem bt_add1 : ∀ a, a < 32 → ∀ x, x < 5 → (a.testBit x = false → popN (a ||| 2 ^ x) = popN a + 1 ∧ (nI a &&& ((1 : Int32) <<< (nI x &&& 31))) = 0) := by decide +kernel
theorem bt_add2 : ∀ a, a < 32 → ∀ x, x < 5 → (a.testBit x = true → ¬ (nI a &&& ((1 : Int32) <<< (nI x &&& 31))) = 0) := by decide +kernel
theorem bt_add3 : ∀ a, a < 32 → ∀ x, x < 5 → ((nI a >>> (nI x &&& 31)) &&& 1) = (if a.testBit x then 1 else 0) := by decide +kernel
theorem bt_add5 : ∀ a, a < 32 → ∀ x, x < 5 → (a ||| 2 ^ x).testBit x = true := by decide +kernel
theorem bt_add6 : ∀ a, a < 32 → ∀ x, x < 5 → ∀ w, w < 5 → a.testBit w = true → (a ||| 2 ^ x).testBit w = true := by decide +kernel
theorem popN_le : ∀ a, a < 32 → popN a ≤ 5 := by decide +kernel
theorem M_has {a x : Nat} {h : zAH} (ha : a < 32) (hx : x < 5) : dn_X5_has (nI a) (nI x) h = some (if a.testBit x then 1 else 0, h) := by
  have e := bt_add3 a ha x hx
  unfold dn_X5_has jn_X5_has_14
  rw [e]
  cases a.testBit x
  · rfl
  · rfl
def nt1 (R : zRS) (y x : Nat) (t : zT3) : zT3 := if t.1.testBit x = false ∧ y ≤ rYd R x then (t.1 ||| 2 ^ x, t.2.1 + 1, va_up t.2.2 t.2.1 (nI x)) else t
def ntL (R : zRS) (y : Nat) : Nat → zT3 → zT3
  | 0, t => t
  | n + 1, t => nt1 R y n (ntL R y n t)
theorem okT_nt1 {R : zRS} {y x : Nat} {t : zT3} (ht : okT t) (hx : x < 5) : okT (nt1 R y x t) := by
  unfold nt1
  by_cases h : t.1.testBit x = false ∧ y ≤ rYd R x
  · rw [if_pos h]
    have h1 := bt_add1 t.1 ht.1 x hx
    refine ⟨(bt_or t.1 ht.1 x hx).2, ?_⟩
    show t.2.1 + 1 = popN (t.1 ||| 2 ^ x)
    rw [(h1 h.1).1, ht.2]
  · rw [if_neg h]
    exact ht
theorem okT_ntL {R : zRS} {y : Nat} {t : zT3} (ht : okT t) : ∀ n, n ≤ 5 → okT (ntL R y n t)
  | 0, _ => ht
  | n + 1, h => okT_nt1 (okT_ntL ht n (by omega)) (by omega)
theorem okT_5 {t : zT3} (ht : okT t) : t.2.1 ≤ 5 := by
  rw [ht.2]
  exact popN_le _ ht.1
theorem ntL_done {R : zRS} {y : Nat} {t : zT3} (ht : okT t) : ∀ n, n ≤ 5 → ∀ x, x < n → y ≤ rYd R x → (ntL R y n t).1.testBit x = true
  | 0, _, x, hx, _ => absurd hx (by omega)
  | n + 1, h, x, hx, hy => by
    have hk := okT_ntL (R := R) (y := y) ht n (by omega)
    have h5 := bt_add5 (ntL R y n t).1 hk.1 n (by omega)
    have h6 := bt_add6 (ntL R y n t).1 hk.1 n (by omega)
    show (nt1 R y n (ntL R y n t)).1.testBit x = true
    unfold nt1
    by_cases hxn : x = n
    · subst hxn
      by_cases hc : (ntL R y x t).1.testBit x = false ∧ y ≤ rYd R x
      · rw [if_pos hc]; exact h5
      · rw [if_neg hc]
        cases hb : (ntL R y x t).1.testBit x
        · exact absurd ⟨hb, hy⟩ hc
        · rfl
    · have ih := ntL_done ht n (by omega) x (by omega) hy
      by_cases hc : (ntL R y n t).1.testBit n = false ∧ y ≤ rYd R n
      · rw [if_pos hc]; exact h6 x (by omega) ih
      · rw [if_neg hc]; exact ih
theorem ntL_same {R : zRS} {y : Nat} {t : zT3} : ∀ n, (∀ x, x < n → y ≤ rYd R x → t.1.testBit x = true) → ntL R y n t = t
  | 0, _ => rfl
  | n + 1, h => by
    have ih := ntL_same n (fun x hx => h x (by omega))
    show nt1 R y n (ntL R y n t) = t
    rw [ih]
    unfold nt1
    rw [if_neg]
    intro hc
    have := h n (by omega) hc.2
    rw [this] at hc
    exact absurd hc.1 (by decide)
section
variable {k k' : zK} {m m' : Nat → Nat → Int32} {s : zSt} {c : Nat} {H : zHD} {R : zRS}
noncomputable def rnS (s : zSt) : Nat → zRS := by
  classical exact fun c => Nat.rec (begS (sH s) (sD s) (sB s)) (fun _ R => if ovS (sH s) R then R else stepS (sH s) (sLw s) (plW (sH s) (rSt R)) R) c
theorem rnS_0 : rnS s 0 = begS (sH s) (sD s) (sB s) := rfl
theorem rnS_o {c : Nat} (h : ovS (sH s) (rnS s c)) : rnS s (c + 1) = rnS s c := if_pos h
theorem rnS_n {c : Nat} (h : ¬ ovS (sH s) (rnS s c)) : rnS s (c + 1) = stepS (sH s) (sLw s) (plW (sH s) (rSt (rnS s c))) (rnS s c) := if_neg h
theorem rnS_ok (hO : okS s) : ∀ c, okR (sH s) (rnS s c) := by
  have hOH := hO.2.2.2.1.1
  intro c
  induction c with
  | zero => rw [rnS_0]; exact okR_beg (stD9 hO) (stB_le hO)
  | succ c ih =>
    by_cases h : ovS (sH s) (rnS s c)
    · rw [rnS_o h]; exact ih
    · rw [rnS_n h]
      exact okR_step hOH ih (plW_le hOH _) (by unfold ovS at h; omega)
noncomputable def pT (s : zSt) (y : Nat) : Nat → zT3
  | 0 => (0, 0, fun _ => 0)
  | c + 1 => ntL (rnS s c) y (hN (sH s)) (pT s y c)
theorem pT_ok {y : Nat} (hN5 : hN (sH s) ≤ 5) : ∀ c, okT (pT s y c)
  | 0 => ⟨show 0 < 32 by omega, show 0 = popN 0 by decide⟩
  | c + 1 => okT_ntL (pT_ok hN5 c) _ hN5
theorem pT_end {y c : Nat} (hN5 : hN (sH s) ≤ 5) (h : ovS (sH s) (rnS s c)) : ∀ d, pT s y (c + 1 + d) = pT s y (c + 1) ∧ rnS s (c + d) = rnS s c
  | 0 => ⟨rfl, rfl⟩
  | d + 1 => by
    obtain ⟨h1, h2⟩ := pT_end (y := y) hN5 h d
    have h3 : rnS s (c + (d + 1)) = rnS s c := by
      show rnS s (c + d + 1) = _
      rw [rnS_o (by rw [h2]; exact h), h2]
    refine ⟨?_, h3⟩
    show ntL (rnS s (c + 1 + d)) y (hN (sH s)) (pT s y (c + 1 + d)) = _
    rw [h1, show c + 1 + d = c + (d + 1) by omega, h3]
    exact ntL_same _ fun x hx hy => ntL_done (pT_ok hN5 c) _ hN5 x hx hy
noncomputable def g_post (y r : Int32) (s : zSt) : Int32 × zSt := match ir y 1 40 with
  | none => (-1, s)
  | some y => match ix r 6 with
    | none => (-1, s)
    | some j => if hY (sH s) = 0 then (-4, s) else if hY (sH s) < y then (-3, sFd 2 s) else (nI (pT s y 61).2.1, sWs (stW (sW s) j (pT s y 61).2.1 (pT s y 61).2.2) s)
theorem zXQ_at {ba ct j n : Nat} {f : Nat → Int32} {W : zWr} (h : zXQ ba ct (stW W j n f) m) (hj : j < ct) : m (ba + 2 * j) 1 = nI n ∧ ∀ i, i < n → m (ba + 2 * j + 1) i = f i := by
  obtain ⟨h1, h2⟩ := h j hj
  refine ⟨by rw [h1, stW_1]; rfl, fun i hi => ?_⟩
  rw [h2 n stW_1 i hi, stW_2]
theorem X_note {j y : Nat} {t : zT3} (hO : okS s) (hj : j < 6) (hX : XS (sWs (stW (sW s) j t.2.1 t.2.2) s) k m) (hE : encX 26 (sH s) R m) (hok : okR (sH s) R) (hy : y ≤ hY (sH s)) (ht : okT t) : ∃ m', dn_X4_notePassers 2 (nI y) (nI t.1) (40 + 2 * j) (Z k m) = some (nI (ntL R y (hN (sH s)) t).1, Z k m') ∧ XS (sWs (stW (sW s) j (ntL R y (hN (sH s)) t).2.1 (ntL R y (hN (sH s)) t).2.2) s) k m' ∧ ∀ a, a ≠ 40 + 2 * j → a ≠ 40 + 2 * j + 1 → m' a = m a := by
  have hOH := hO.2.2.2.1.1
  have hN5 := hOH.2.1
  have h40 := hOH.1
  unfold dn_X4_notePassers lp_X4_notePassers_6
  rw [ZO_4 s2, Option.bind_some]
  refine lp_inv (N := hN (sH s)) (I := fun x u h => ∃ m2, u = (nI (ntL R y x t).1, nI x) ∧ h = Z k m2 ∧ XS (sWs (stW (sW s) j (ntL R y x t).2.1 (ntL R y x t).2.2) s) k m2 ∧ ∀ a, a ≠ 40 + 2 * j → a ≠ 40 + 2 * j + 1 → m2 a = m a) (Q := fun r => ∃ m', r = some (nI (ntL R y (hN (sH s)) t).1, Z k m') ∧ XS (sWs (stW (sW s) j (ntL R y (hN (sH s)) t).2.1 (ntL R y (hN (sH s)) t).2.2) s) k m' ∧ ∀ a, a ≠ 40 + 2 * j → a ≠ 40 + 2 * j + 1 → m' a = m a) ?_ ?_ (hN (sH s)) 0 2000 _ _ (by omega) (by omega) ⟨m, rfl, rfl, hX, fun _ _ _ => rfl⟩
  · rintro x u h hx ⟨m2, rfl, rfl, h1, h2⟩
    left
    have hk := okT_ntL (R := R) (y := y) ht x (by omega)
    have b1 := bt_add1 _ hk.1 x (by omega)
    have b2 := bt_add2 _ hk.1 x (by omega)
    have b4 := (bt_or _ hk.1 x (by omega)).1
    have hz := okT_5 hk
    have hE2 : encX 26 (sH s) R m2 := encX_cg hE fun a g1 g2 => h2 a (by omega) (by omega)
    have hG : encH (kC k) (sH s) m2 := h1.2.2.2.1.2.1
    obtain ⟨w1, w2⟩ := zXQ_at h1.2.1 hj
    have hyx := (hok.2.2 x hx).2.2.1
    have hgo : ∀ rec, lb_X4_notePassers_6 2 (nI y) (40 + 2 * j) rec (nI (ntL R y x t).1, nI x) (Z k m2) = if nI (min (rYd R x) (hY (sH s))) < nI y then rec (nI (ntL R y x t).1, nI (x + 1)) (Z k m2) else if (nI (ntL R y x t).1 &&& ((1 : Int32) <<< (nI x &&& 31))) = 0 then rec (nI ((ntL R y x t).1 ||| 2 ^ x), nI (x + 1)) (Z k (mu (mu m2 (40 + 2 * j + 1) (ntL R y x t).2.1 (nI x)) (40 + 2 * j) 1 (nI ((ntL R y x t).2.1 + 1)))) else rec (nI (ntL R y x t).1, nI (x + 1)) (Z k m2) := by
      intro rec
      unfold lb_X4_notePassers_6 jn_X4_notePassers_57
      dsimp only
      rw [ZA_4_2 s2, Option.bind_some, ZI_0_2 hG.1, Option.bind_some, hG.2.2.1, ifLt hx (by omega), ZA_4_5 s2, Option.bind_some, ZA_1_6 rfl, Option.bind_some, Zl5 rfl (by omega), Option.bind_some, (hE2.2.2.2.2.2.2 x hx).1, X_add hj (by omega) w1, zbd_s, nA_1, b4]
    by_cases hc : (ntL R y x t).1.testBit x = false ∧ y ≤ rYd R x
    · have e : ntL R y (x + 1) t = ((ntL R y x t).1 ||| 2 ^ x, (ntL R y x t).2.1 + 1, va_up (ntL R y x t).2.2 (ntL R y x t).2.1 (nI x)) := if_pos hc
      have hXn := h1.w (zXQ.st (n := (ntL R y x t).2.1 + 1) (f := va_up (ntL R y x t).2.2 (ntL R y x t).2.1 (nI x)) (m' := mu (mu m2 (40 + 2 * j + 1) (ntL R y x t).2.1 (nI x)) (40 + 2 * j) 1 (nI ((ntL R y x t).2.1 + 1))) h1.2.1 hj (mu_s _ _ _ _) (fun i hi => by
        rw [mu_a _ _ _ _ (by omega)]
        by_cases hiz : i = (ntL R y x t).2.1
        · rw [hiz, mu_s]; simp [va_up]
        · rw [mu_j _ _ hiz, w2 i (by omega)]; simp [va_up, hiz]) fun r' g1 g2 => ⟨by rw [mu_ar _ _ _ (by omega), mu_ar _ _ _ (by omega)], by rw [mu_ar _ _ _ (by omega), mu_ar _ _ _ (by omega)]⟩) (fun a g1 g2 => by rw [mu_ar _ _ _ (by omega), mu_ar _ _ _ (by omega)])
      refine ⟨(nI (ntL R y (x + 1) t).1, nI (x + 1)), Z k (mu (mu m2 (40 + 2 * j + 1) (ntL R y x t).2.1 (nI x)) (40 + 2 * j) 1 (nI ((ntL R y x t).2.1 + 1))), ⟨_, rfl, rfl, ?_, fun a g1 g2 => by rw [mu_ar _ _ _ g1, mu_ar _ _ _ g2]; exact h2 a g1 g2⟩, fun rec => ?_⟩
      · rw [e]
        have hXn' : XS (sWs (stW (stW (sW s) j (ntL R y x t).2.1 (ntL R y x t).2.2) j ((ntL R y x t).2.1 + 1) (va_up (ntL R y x t).2.2 (ntL R y x t).2.1 (nI x))) s) k _ := hXn
        rw [stW_stW] at hXn'
        exact hXn'
      · rw [hgo, ifLf (by omega) (by omega), if_pos (b1 hc.1).2, e]
    · have e : ntL R y (x + 1) t = ntL R y x t := if_neg hc
      refine ⟨(nI (ntL R y (x + 1) t).1, nI (x + 1)), Z k m2, ⟨m2, rfl, rfl, by rw [e]; exact h1, h2⟩, fun rec => ?_⟩
      rw [hgo, e]
      by_cases hlt : rYd R x < y
      · rw [ifLt (by omega) (by omega)]
      · cases hb : (ntL R y x t).1.testBit x
        · exact absurd ⟨hb, by omega⟩ hc
        · rw [ifLf (by omega) (by omega), if_neg (b2 hb)]
  · rintro u h ⟨m2, rfl, rfl, h1, h2⟩ rec
    have hG : encH (kC k) (sH s) m2 := h1.2.2.2.1.2.1
    refine ⟨m2, ?_, h1, h2⟩
    unfold lb_X4_notePassers_6 jn_X4_notePassers_63
    dsimp only
    rw [ZA_4_2 s2, Option.bind_some, ZI_0_2 hG.1, Option.bind_some, hG.2.2.1, ifLf (Nat.le_refl _) (by omega)]
theorem x_post (y r : Int32) : okX (dn_X4_post 2 y r) (g_post y r) := by
  intro s k m hO hX hk
  have hOH := hO.2.2.2.1.1
  have hN5 := hOH.2.1
  have h40 := hOH.1
  have hG := hX.2.2.2.1
  have hkc := hG.1
  have s7 := shp_2 _ (shp_le (by have := hG.2.1.1; omega)) hG.2.1.1
  unfold dn_X4_post g_post jn_X4_post_18
  rw [ZO_4 s2, Option.bind_some]
  rcases ir_c y 1 40 (by omega) (by omega) with ⟨y, y1, y2, rfl, e1⟩ | ⟨e1, h0 | ⟨h0, h1⟩⟩
  · rw [e1, if_neg (fun z => by have := (nL_1 (by omega)).mp z; omega), jf_40 (by omega), X_isRow, zbd_s]
    dsimp only
    cases h : ix r 6 with
    | none => exact ⟨k, m, by rw [ifNo, ifb0], hX, zfX.rf⟩
    | some j =>
      dsimp only
      obtain ⟨rfl, hj⟩ := ix_s (by omega) h
      rw [ifSo, ifb1, ZA_4_2 s2, Option.bind_some, X_hasRoad h40 hG.2.1, zbd_s]
      by_cases hz : hY (sH s) = 0
      · rw [if_pos hz, if_pos hz, ifb0]
        exact ⟨k, m, rfl, hX, zfX.rf⟩
      · rw [if_neg hz, if_neg hz, ifb1, ZA_4_2 s2, Option.bind_some, ZI_0_0 hG.2.1.1, Option.bind_some, hG.2.1.2.1]
        by_cases hyy : hY (sH s) < y
        · obtain ⟨m', f1, f2, f3⟩ := F2 hX
          rw [ifLt hyy (by omega), if_pos hyy]
          exact ⟨k, m', by rw [f1, zbd_s], f2, f3⟩
        · rw [ifLf (by omega) (by omega), if_neg hyy]
          obtain ⟨m1, u1, u2, u3, u4⟩ := X_renew (k := k) (m := m) (n := 0) (v := 0) rwP_r hj
          have hX1 : XS (sWs (stW (sW s) j 0 (fun _ => 0)) s) k m1 := hX.w (zXQ.st hX.2.1 hj u2 (fun i hi => by omega) fun r' g1 g2 => ⟨u4 _ (by omega) (by omega), u4 _ (by omega) (by omega)⟩) (fun a g1 g2 => u4 a (by omega) (by omega))
          have hG1 := hX1.2.2.2.1
          obtain ⟨m2, r1, r2, r3⟩ := X_setOff (k := k) (a := 26) (c := kC k) (hd := sD s) (br := sB s) (ah := kC k + 4) (ab := kC k + 3) hOH rfl s7.2.2.2.1 s7.2.2.1 (by omega) (by omega) (stD9 hO) hG1.2.1 (fun i hi => ⟨(hG1.2.2 i hi).2, (hG1.2.2 i hi).1⟩)
          have hX2 := hX1.t26 r3
          obtain ⟨m3, n1, n2, n3⟩ := X_note (t := (0, 0, fun _ => 0)) (y := y) hO hj hX2 r2 (rnS_ok hO 0) (by omega) ⟨by decide, by decide⟩
          have n1' : dn_X4_notePassers 2 (nI y) 0 (40 + 2 * j) (Z k m2) = some (nI (pT s y 1).1, Z k m3) := n1
          have hE3 : encX 26 (sH s) (rnS s 0) m3 := encX_cg r2 fun a g1 g2 => n3 a (by omega) (by omega)
          have hf3 : zfX k m k m3 := zfX.of fun a ha => by rw [n3 a (by omega) (by omega), r3 a (by omega), u4 a (by omega) (by omega)]
          rw [ZA_4_0 s2, Option.bind_some, RW_r rwP_r hj, Option.bind_some, u1, zbd_s, ZA_4_5 s2, Option.bind_some, ZA_4_2 s2, Option.bind_some, Option.bind_some, ZA_0_5 hG.2.1.1, Option.bind_some, Option.bind_some, ZA_0_4 hG.2.1.1, Option.bind_some, r1, zbd_s, ZA_4_0 s2, Option.bind_some, RW_r rwP_r hj, Option.bind_some, n1', zbd_s]
          have hfin : ∀ {m4 c}, XS (sWs (stW (sW s) j (pT s y c).2.1 (pT s y c).2.2) s) k m4 → jn_X4_post_157 2 (nI j) (Z k m4) = some (nI (pT s y c).2.1, Z k m4) := by
            intro m4 c h4
            unfold jn_X4_post_157
            rw [ZA_4_0 s2, Option.bind_some, RW_r rwP_r hj, Option.bind_some, ZI_3_1 (RW_s rwP_r hj), Option.bind_some, (zXQ_at h4.2.1 hj).1]
          refine lp_inv (N := 60) (I := fun c u h => ∃ m4, u = (nI (pT s y (c + 1)).1, nI c) ∧ h = Z k m4 ∧ XS (sWs (stW (sW s) j (pT s y (c + 1)).2.1 (pT s y (c + 1)).2.2) s) k m4 ∧ encX 26 (sH s) (rnS s c) m4 ∧ zfX k m k m4) (Q := fun r => ∃ k' m', r = some (nI (pT s y 61).2.1, Z k' m') ∧ XS (sWs (stW (sW s) j (pT s y 61).2.1 (pT s y 61).2.2) s) k' m' ∧ zfX k m k' m') ?_ ?_ 60 0 2000 _ _ (by omega) (by omega) ⟨m3, rfl, rfl, n2, hE3, hf3⟩
          · rintro c u h hc ⟨m4, rfl, rfl, h1, h2, h3⟩
            have hok := rnS_ok hO c
            have hov := X_isOver (k := k) hN5 hok h2
            by_cases ho : ovS (sH s) (rnS s c)
            · right
              intro rec
              have e9 : pT s y 61 = pT s y (c + 1) := by
                rw [show 61 = c + 1 + (60 - c) by omega]
                exact (pT_end hN5 ho _).1
              refine ⟨k, m4, ?_, by rw [e9]; exact h1, h3⟩
              unfold lb_X4_post_102
              dsimp only
              rw [it_60 hc, ZA_4_5 s2, Option.bind_some, hov.1 ho, zbd_s, ifb1, e9]
              exact hfin h1
            · left
              have hG4 : encH (kC k) (sH s) m4 := h1.2.2.2.1.2.1
              have h35 : ∀ x, x < 5 → m4 35 x = -1 := h1.2.2.2.2.2.2
              have hl : m4 2 7 = nI (sLw s) := h1.1.1
              have hwf : wfX (sH s) (rSt (rnS s c)) (plW (sH s) (rSt (rnS s c))) m4 := fun x hx => Or.inl ⟨h35 x (by omega), rfl⟩
              obtain ⟨m5, q1, q2, q3⟩ := X_takeStep (k := k) hOH hok hO.1 hG4 hwf h2
              have hX5 := h1.t26 q3
              rw [← rnS_n ho] at q2
              obtain ⟨m6, p1, p2, p3⟩ := X_note (t := pT s y (c + 1)) (y := y) hO hj hX5 q2 (rnS_ok hO (c + 1)) (by omega) (pT_ok hN5 _)
              refine ⟨(nI (pT s y (c + 2)).1, nI (c + 1)), Z k m6, ⟨m6, rfl, rfl, p2, encX_cg q2 fun a g1 g2 => p3 a (by omega) (by omega), h3.tr0 fun a ha => by rw [p3 a (by omega) (by omega), q3 a (by omega)]⟩, fun rec => ?_⟩
              unfold lb_X4_post_102
              dsimp only
              rw [it_60 hc, ZA_4_5 s2, Option.bind_some, hov.2 ho, zbd_s, ifb0, ZA_4_5 s2, Option.bind_some, ZA_4_2 s2, Option.bind_some, ZI_4_7 s2, Option.bind_some, hl, ZA_4_13 s2, Option.bind_some, q1, zbd_s, ZA_4_0 s2, Option.bind_some, RW_r rwP_r hj, Option.bind_some, p1, zbd_s, nA_1]
              rfl
          · rintro u h ⟨m4, rfl, rfl, h1, h2, h3⟩ rec
            refine ⟨k, m4, ?_, h1, h3⟩
            unfold lb_X4_post_102
            dsimp only
            rw [if_neg (by decide)]
            exact hfin h1
  · rw [e1]
    have h0' : y < 1 := h0
    exact ⟨k, m, by rw [if_pos h0'], hX, zfX.rf⟩
  · rw [e1]
    have h0' : ¬ y < 1 := h0
    have h1' : 40 < y := h1
    exact ⟨k, m, by rw [if_neg h0', if_pos h1'], hX, zfX.rf⟩
end
