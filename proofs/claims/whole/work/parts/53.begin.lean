section
variable {k : zK} {m : Nat → Nat → Int32} {q a c : Nat} {H : zHD} {R : zRS}
theorem shp_11 : ∀ a, a < 104 → ∀ b, b < 104 → shp a = 1 → shp b = 1 → a = b ∨ a + 6 < b ∨ b + 6 < a := by decide +kernel
def soP (a : Nat) (H : zHD) (B : zRS) (x : Nat) (m : Nat → Nat → Int32) : Prop := m a 0 = nI (hN H) ∧ m a 1 = nI (rSt B) ∧ m a 2 = nI (cntD B x) ∧ m a 3 = nI (rHd B) ∧ m a 4 = rPs B ∧ ∀ i, i < x → m (a + 1) i = nI (min (rYd B i) (hY H)) ∧ m (a + 2) i = nI (rBr B i) ∧ m (a + 3) i = nI (rMb B i) ∧ m (a + 4) i = rDn B i ∧ m (a + 5) i = rCr B i ∧ m (a + 6) i = rPb B i
theorem X_so31 {hd br : Nat → Nat} {ah ab : Nat} (hO : okH H) (ha : shp a = 1) (sh : shp ah = 6) (sb : shp ab = 6) (nh : ah < a ∨ a + 6 < ah) (nb : ab < a ∨ a + 6 < ab) (h1 : ∀ x, x < hN H → hd x ≤ 9) : ∀ n x m f, x + n = hN H → n < f → encH c H m → (∀ i, i < hN H → m ah i = nI (hd i) ∧ m ab i = nI (br i)) → soP a H (begS H hd br) x m → ∃ m', zlp (lb_X1_setOff_31 a c ah ab) f (nI x) (Z k m) = some ((), Z k m') ∧ encX a H (begS H hd br) m' ∧ zFr a m m' := by
  have hN5 := hO.2.1
  have h40 := hO.1
  have s := shp_1 a (shp_le (by omega)) ha
  intro n
  induction n with
  | zero =>
    intro x m f hx hf hH hv hP
    obtain ⟨f, rfl⟩ : ∃ g, f = g + 1 := ⟨f - 1, by omega⟩
    obtain rfl : x = hN H := by omega
    refine ⟨m, ?_, ⟨ha, hP⟩, zFr.rf⟩
    rw [zlp_s]
    show (zgI 1 0 a (Z k m)).bind _ = _
    rw [ZI_1_0 ha, Option.bind_some, hP.1, ifLf (Nat.le_refl _) (by omega)]
    rfl
  | succ n ih =>
    intro x m f hx hf hH hv hP
    obtain ⟨f, rfl⟩ : ∃ g, f = g + 1 := ⟨f - 1, by omega⟩
    have hxN : x < hN H := by omega
    obtain ⟨v1, v2⟩ := hv x hxN
    have hh := h1 x hxN
    obtain ⟨p0, p1, p2, p3, p4, pi⟩ := hP
    have hF1 : zFr a m (mu m (a + 1) x (nI (min (hd x) (hY H)))) := zFr.mu (by omega) (by omega)
    have hg1 : mu m (a + 1) x (nI (min (hd x) (hY H))) ab x = nI (br x) := by rw [hF1 ab nb]; exact v2
    have hF2 : zFr a m (mu (mu m (a + 1) x (nI (min (hd x) (hY H)))) (a + 2) x (nI (br x))) := zFr.tr hF1 (zFr.mu (by omega) (by omega))
    have hg2 : mu (mu m (a + 1) x (nI (min (hd x) (hY H)))) (a + 2) x (nI (br x)) ab x = nI (br x) := by rw [hF2 ab nb]; exact v2
    generalize hm7 : mu (mu (mu (mu (mu (mu m (a + 1) x (nI (min (hd x) (hY H)))) (a + 2) x (nI (br x))) (a + 3) x (nI (br x))) (a + 4) x (-9)) (a + 5) x 0) (a + 6) x 0 = m7
    have hF7 : zFr a m m7 := by
      rw [← hm7]
      exact zFr.tr hF2 (zFr.tr (zFr.mu (by omega) (by omega)) (zFr.tr (zFr.mu (by omega) (by omega)) (zFr.tr (zFr.mu (by omega) (by omega)) (zFr.mu (by omega) (by omega)))))
    have a0 : ∀ j, m7 a j = m a j := by intro j; rw [← hm7]; simp [mu]
    have a1 : ∀ i, m7 (a + 1) i = if i = x then nI (min (hd x) (hY H)) else m (a + 1) i := by intro i; rw [← hm7]; simp [mu, upd]
    have a2 : ∀ i, m7 (a + 2) i = if i = x then nI (br x) else m (a + 2) i := by intro i; rw [← hm7]; simp [mu, upd]
    have a3 : ∀ i, m7 (a + 3) i = if i = x then nI (br x) else m (a + 3) i := by intro i; rw [← hm7]; simp [mu, upd]
    have a4 : ∀ i, m7 (a + 4) i = if i = x then -9 else m (a + 4) i := by intro i; rw [← hm7]; simp [mu, upd]
    have a5 : ∀ i, m7 (a + 5) i = if i = x then 0 else m (a + 5) i := by intro i; rw [← hm7]; simp [mu, upd]
    have a6 : ∀ i, m7 (a + 6) i = if i = x then 0 else m (a + 6) i := by intro i; rw [← hm7]; simp [mu, upd]
    have hH7 := encH_fr ha hH hF7
    have hv7 : ∀ i, i < hN H → m7 ah i = nI (hd i) ∧ m7 ab i = nI (br i) := fun i hi => by rw [hF7 ah nh, hF7 ab nb]; exact hv i hi
    have hx7 : m7 (a + 1) x = nI (min (hd x) (hY H)) := by rw [a1, if_pos rfl]
    rw [zlp_s]
    show ∃ m', (zgI 1 0 a (Z k m)).bind _ = _ ∧ _
    rw [ZI_1_0 ha, Option.bind_some, p0, ifLt hxN (by omega), ZA_1_6 ha, Option.bind_some, Zl5 sh (by omega), Option.bind_some, v1, ZI_0_0 hH.1, Option.bind_some, hH.2.1, zmn_n (by omega) (by omega), Zs5 s.1 (by omega), Option.bind_some, ZA_1_7 ha, Option.bind_some, Zl5 sb (by omega), Option.bind_some, hg1, Zs5 s.2.1 (by omega), Option.bind_some, ZA_1_8 ha, Option.bind_some, Zl5 sb (by omega), Option.bind_some, hg2, Zs5 s.2.2.1 (by omega), Option.bind_some, ZA_1_9 ha, Option.bind_some, Zs5 s.2.2.2.1 (by omega), Option.bind_some, ZA_1_10 ha, Option.bind_some, Zs5 s.2.2.2.2.1 (by omega), Option.bind_some, ZA_1_11 ha, Option.bind_some, Zs5 s.2.2.2.2.2 (by omega), Option.bind_some, hm7]
    unfold dn_X1_noteEnd jn_X1_noteEnd_33
    rw [ZO_1 ha, Option.bind_some, ZA_1_6 ha, Option.bind_some, Zl5 s.1 (by omega), Option.bind_some, hx7, ZI_0_0 hH7.1, Option.bind_some, hH7.2.1]
    have ecn : ∀ z, rDn (begS H hd br) x = z → cntD (begS H hd br) (x + 1) = cntD (begS H hd br) x + (if z = -9 then 0 else 1) := fun z hz => by rw [← hz]; rfl
    by_cases hlt : hd x < hY H
    · have hdn : rDn (begS H hd br) x = -9 := if_pos hlt
      have ec := ecn _ hdn
      rw [if_pos rfl, Nat.add_zero] at ec
      obtain ⟨m', q1, q2, q3⟩ := ih (x + 1) m7 f (by omega) (by omega) hH7 hv7 ⟨by rw [a0]; exact p0, by rw [a0]; exact p1, by rw [a0, ec]; exact p2, by rw [a0]; exact p3, by rw [a0]; exact p4, fun i hi => by
        rw [a1, a2, a3, a4, a5, a6]
        by_cases hix : i = x
        · subst hix
          simp only [if_true]
          exact ⟨rfl, rfl, rfl, hdn.symm, rfl, rfl⟩
        · simp only [hix, if_false]
          exact pi i (by omega)⟩
      refine ⟨m', ?_, q2, zFr.tr hF7 q3⟩
      rw [ifLt (by omega) (by omega), zbd_s, nA_1, q1]
    · have hdn : rDn (begS H hd br) x = 0 := if_neg hlt
      have ec := ecn _ hdn
      rw [if_neg (by decide)] at ec
      have e71 : m7 a 1 = 0 := by rw [a0, p1]; rfl
      have e82 : mu m7 (a + 4) x 0 a 2 = nI (cntD (begS H hd br) x) := by rw [mu_a _ _ _ _ (by omega), a0]; exact p2
      have hF9 : zFr a m7 (mu (mu m7 (a + 4) x 0) a 2 (nI (cntD (begS H hd br) x + 1))) := zFr.tr (zFr.mu (by omega) (by omega)) (zFr.mu (by omega) (by omega))
      generalize hm9 : mu (mu m7 (a + 4) x 0) a 2 (nI (cntD (begS H hd br) x + 1)) = m9 at hF9
      have b0 : ∀ j, m9 a j = if j = 2 then nI (cntD (begS H hd br) x + 1) else m a j := by intro j; rw [← hm9]; simp [mu, upd, a0]
      have b1 : ∀ i, m9 (a + 1) i = m7 (a + 1) i := by intro i; rw [← hm9]; simp [mu]
      have b2 : ∀ i, m9 (a + 2) i = m7 (a + 2) i := by intro i; rw [← hm9]; simp [mu]
      have b3 : ∀ i, m9 (a + 3) i = m7 (a + 3) i := by intro i; rw [← hm9]; simp [mu]
      have b4 : ∀ i, m9 (a + 4) i = if i = x then 0 else m7 (a + 4) i := by intro i; rw [← hm9]; simp [mu, upd]
      have b5 : ∀ i, m9 (a + 5) i = m7 (a + 5) i := by intro i; rw [← hm9]; simp [mu]
      have b6 : ∀ i, m9 (a + 6) i = m7 (a + 6) i := by intro i; rw [← hm9]; simp [mu]
      obtain ⟨m', q1, q2, q3⟩ := ih (x + 1) m9 f (by omega) (by omega) (encH_fr ha hH7 hF9) (fun i hi => by rw [hF9 ah nh, hF9 ab nb]; exact hv7 i hi) ⟨by rw [b0, if_neg (by decide)]; exact p0, by rw [b0, if_neg (by decide)]; exact p1, by rw [b0, if_pos rfl, ec], by rw [b0, if_neg (by decide)]; exact p3, by rw [b0, if_neg (by decide)]; exact p4, fun i hi => by
        rw [b1, b2, b3, b4, b5, b6, a1, a2, a3, a4, a5, a6]
        by_cases hix : i = x
        · subst hix
          simp only [if_true]
          exact ⟨rfl, rfl, rfl, hdn.symm, rfl, rfl⟩
        · simp only [hix, if_false]
          exact pi i (by omega)⟩
      refine ⟨m', ?_, q2, zFr.tr hF7 (zFr.tr hF9 q3)⟩
      rw [ifLf (by omega) (by omega), ZA_1_9 ha, Option.bind_some, ZI_1_1 ha, Option.bind_some, e71, Zs5 s.2.2.2.1 (by omega), Option.bind_some, ZI_1_2 ha, Option.bind_some, e82, nA_1, ZP_1_2 ha, Option.bind_some, hm9, zbd_s, nA_1, q1]
theorem X_setOff {hd br : Nat → Nat} {ah ab : Nat} (hO : okH H) (ha : shp a = 1) (sh : shp ah = 6) (sb : shp ab = 6) (nh : ah < a ∨ a + 6 < ah) (nb : ab < a ∨ a + 6 < ab) (h1 : ∀ x, x < hN H → hd x ≤ 9) (hH : encH c H m) (hv : ∀ i, i < hN H → m ah i = nI (hd i) ∧ m ab i = nI (br i)) : ∃ m', dn_X1_setOff a c ah ab (Z k m) = some ((), Z k m') ∧ encX a H (begS H hd br) m' ∧ zFr a m m' := by
  have hN5 := hO.2.1
  have hF : zFr a m (mu (mu (mu (mu (mu m a 0 (nI (hN H))) a 1 0) a 2 0) a 3 0) a 4 0) := zFr.tr (zFr.mu (by omega) (by omega)) (zFr.tr (zFr.mu (by omega) (by omega)) (zFr.tr (zFr.mu (by omega) (by omega)) (zFr.tr (zFr.mu (by omega) (by omega)) (zFr.mu (by omega) (by omega)))))
  generalize hm5 : mu (mu (mu (mu (mu m a 0 (nI (hN H))) a 1 0) a 2 0) a 3 0) a 4 0 = m5 at hF
  obtain ⟨m', q1, q2, q3⟩ := X_so31 (k := k) (br := br) hO ha sh sb nh nb h1 (hN H) 0 m5 2000 (by omega) (by omega) (encH_fr ha hH hF) (fun i hi => by rw [hF ah nh, hF ab nb]; exact hv i hi) ⟨by rw [← hm5]; simp [mu, upd], by rw [← hm5]; simp [mu, upd]; rfl, by rw [← hm5]; simp [mu, upd]; rfl, by rw [← hm5]; simp [mu, upd]; rfl, by rw [← hm5]; simp [mu, upd]; rfl, fun i hi => by omega⟩
  refine ⟨m', ?_, q2, zFr.tr hF q3⟩
  unfold dn_X1_setOff
  rw [ZO_1 ha, Option.bind_some, ZI_0_2 hH.1, Option.bind_some, hH.2.2.1, ZP_1_0 ha, Option.bind_some, ZP_1_1 ha, Option.bind_some, ZP_1_2 ha, Option.bind_some, ZP_1_3 ha, Option.bind_some, ZP_1_4 ha, Option.bind_some, hm5]
  exact q1
theorem encX_fr {b : Nat} {m' : Nat → Nat → Int32} (ha : shp a = 1) (h : encX b H R m) (hab : a ≠ b) (hf : zFr a m m') : encX b H R m' := by
  have hd : b + 6 < a ∨ a + 6 < b := by rcases shp_11 a (shp_le (by omega)) b (shp_le (by have := h.1; omega)) ha h.1 with z | z | z <;> omega
  obtain ⟨e0, e1, e2, e3, e4, e5, ex⟩ := h
  refine ⟨e0, ?_, ?_, ?_, ?_, ?_, fun x hx => ?_⟩
  · rw [hf b (by omega)]; exact e1
  · rw [hf b (by omega)]; exact e2
  · rw [hf b (by omega)]; exact e3
  · rw [hf b (by omega)]; exact e4
  · rw [hf b (by omega)]; exact e5
  · rw [hf (b + 1) (by omega), hf (b + 2) (by omega), hf (b + 3) (by omega), hf (b + 4) (by omega), hf (b + 5) (by omega), hf (b + 6) (by omega)]
    exact ex x hx
theorem X_bl42 {b : Nat} (hN5 : hN H ≤ 5) (ha : shp a = 1) (hab : a ≠ b) : ∀ n x m f, x + n = hN H → n < f → encX b H R m → (m a 0 = nI (hN H) ∧ m a 1 = nI (rSt R) ∧ m a 2 = nI (cntD R (hN H)) ∧ m a 3 = nI (rHd R) ∧ m a 4 = rPs R ∧ ∀ i, i < x → m (a + 1) i = nI (min (rYd R i) (hY H)) ∧ m (a + 2) i = nI (rBr R i) ∧ m (a + 3) i = nI (rMb R i) ∧ m (a + 4) i = rDn R i ∧ m (a + 5) i = rCr R i ∧ m (a + 6) i = rPb R i) → ∃ m', zlp (lb_X1_becomeLike_42 a b) f (nI x) (Z k m) = some ((), Z k m') ∧ encX a H R m' ∧ zFr a m m' := by
  intro n
  induction n with
  | zero =>
    intro x m f hx hf hB hP
    obtain ⟨f, rfl⟩ : ∃ g, f = g + 1 := ⟨f - 1, by omega⟩
    obtain rfl : x = hN H := by omega
    refine ⟨m, ?_, ⟨ha, hP⟩, zFr.rf⟩
    rw [zlp_s]
    show (zgI 1 0 a (Z k m)).bind _ = _
    rw [ZI_1_0 ha, Option.bind_some, hP.1, ifLf (Nat.le_refl _) (by omega)]
    rfl
  | succ n ih =>
    intro x m f hx hf hB hP
    obtain ⟨f, rfl⟩ : ∃ g, f = g + 1 := ⟨f - 1, by omega⟩
    have hxN : x < hN H := by omega
    have hb := hB.1
    have s := shp_1 a (shp_le (by omega)) ha
    have s' := shp_1 b (shp_le (by omega)) hb
    have hd : b + 6 < a ∨ a + 6 < b := by rcases shp_11 a (shp_le (by omega)) b (shp_le (by omega)) ha hb with z | z | z <;> omega
    obtain ⟨p0, p1, p2, p3, p4, pi⟩ := hP
    obtain ⟨x1, x2, x3, x4, x5, x6⟩ := hB.2.2.2.2.2.2 x hxN
    have g1 : zFr a m (mu m (a + 1) x (nI (min (rYd R x) (hY H)))) := zFr.mu (by omega) (by omega)
    have g2 : zFr a m (mu (mu m (a + 1) x (nI (min (rYd R x) (hY H)))) (a + 2) x (nI (rBr R x))) := zFr.tr g1 (zFr.mu (by omega) (by omega))
    have g3 : zFr a m (mu (mu (mu m (a + 1) x (nI (min (rYd R x) (hY H)))) (a + 2) x (nI (rBr R x))) (a + 3) x (nI (rMb R x))) := zFr.tr g2 (zFr.mu (by omega) (by omega))
    have g4 : zFr a m (mu (mu (mu (mu m (a + 1) x (nI (min (rYd R x) (hY H)))) (a + 2) x (nI (rBr R x))) (a + 3) x (nI (rMb R x))) (a + 4) x (rDn R x)) := zFr.tr g3 (zFr.mu (by omega) (by omega))
    have g5 : zFr a m (mu (mu (mu (mu (mu m (a + 1) x (nI (min (rYd R x) (hY H)))) (a + 2) x (nI (rBr R x))) (a + 3) x (nI (rMb R x))) (a + 4) x (rDn R x)) (a + 5) x (rCr R x)) := zFr.tr g4 (zFr.mu (by omega) (by omega))
    have r2 := (congrFun (g1 (b + 2) (by omega)) x).trans x2
    have r3 := (congrFun (g2 (b + 3) (by omega)) x).trans x3
    have r4 := (congrFun (g3 (b + 4) (by omega)) x).trans x4
    have r5 := (congrFun (g4 (b + 5) (by omega)) x).trans x5
    have r6 := (congrFun (g5 (b + 6) (by omega)) x).trans x6
    have hF7 : zFr a m (mu (mu (mu (mu (mu (mu m (a + 1) x (nI (min (rYd R x) (hY H)))) (a + 2) x (nI (rBr R x))) (a + 3) x (nI (rMb R x))) (a + 4) x (rDn R x)) (a + 5) x (rCr R x)) (a + 6) x (rPb R x)) := zFr.tr g5 (zFr.mu (by omega) (by omega))
    generalize hm7 : mu (mu (mu (mu (mu (mu m (a + 1) x (nI (min (rYd R x) (hY H)))) (a + 2) x (nI (rBr R x))) (a + 3) x (nI (rMb R x))) (a + 4) x (rDn R x)) (a + 5) x (rCr R x)) (a + 6) x (rPb R x) = m7 at hF7
    have a0 : ∀ j, m7 a j = m a j := by intro j; rw [← hm7]; simp [mu]
    have a1 : ∀ i, m7 (a + 1) i = if i = x then nI (min (rYd R x) (hY H)) else m (a + 1) i := by intro i; rw [← hm7]; simp [mu, upd]
    have a2 : ∀ i, m7 (a + 2) i = if i = x then nI (rBr R x) else m (a + 2) i := by intro i; rw [← hm7]; simp [mu, upd]
    have a3 : ∀ i, m7 (a + 3) i = if i = x then nI (rMb R x) else m (a + 3) i := by intro i; rw [← hm7]; simp [mu, upd]
    have a4 : ∀ i, m7 (a + 4) i = if i = x then rDn R x else m (a + 4) i := by intro i; rw [← hm7]; simp [mu, upd]
    have a5 : ∀ i, m7 (a + 5) i = if i = x then rCr R x else m (a + 5) i := by intro i; rw [← hm7]; simp [mu, upd]
    have a6 : ∀ i, m7 (a + 6) i = if i = x then rPb R x else m (a + 6) i := by intro i; rw [← hm7]; simp [mu, upd]
    obtain ⟨m', q1, q2, q3⟩ := ih (x + 1) m7 f (by omega) (by omega) (encX_fr ha hB hab hF7) ⟨by rw [a0]; exact p0, by rw [a0]; exact p1, by rw [a0]; exact p2, by rw [a0]; exact p3, by rw [a0]; exact p4, fun i hi => by
      rw [a1, a2, a3, a4, a5, a6]
      by_cases hix : i = x
      · subst hix
        exact ⟨if_pos rfl, if_pos rfl, if_pos rfl, if_pos rfl, if_pos rfl, if_pos rfl⟩
      · simp only [hix, if_false]
        exact pi i (by omega)⟩
    refine ⟨m', ?_, q2, zFr.tr hF7 q3⟩
    rw [zlp_s]
    show (zgI 1 0 a (Z k m)).bind _ = _
    rw [ZI_1_0 ha, Option.bind_some, p0, ifLt hxN (by omega), ZA_1_6 ha, Option.bind_some, ZA_1_6 hb, Option.bind_some, Zl5 s'.1 (by omega), Option.bind_some, x1, Zs5 s.1 (by omega), Option.bind_some,
      ZA_1_7 ha, Option.bind_some, ZA_1_7 hb, Option.bind_some, Zl5 s'.2.1 (by omega), Option.bind_some, r2, Zs5 s.2.1 (by omega), Option.bind_some,
      ZA_1_8 ha, Option.bind_some, ZA_1_8 hb, Option.bind_some, Zl5 s'.2.2.1 (by omega), Option.bind_some, r3, Zs5 s.2.2.1 (by omega), Option.bind_some,
      ZA_1_9 ha, Option.bind_some, ZA_1_9 hb, Option.bind_some, Zl5 s'.2.2.2.1 (by omega), Option.bind_some, r4, Zs5 s.2.2.2.1 (by omega), Option.bind_some,
      ZA_1_10 ha, Option.bind_some, ZA_1_10 hb, Option.bind_some, Zl5 s'.2.2.2.2.1 (by omega), Option.bind_some, r5, Zs5 s.2.2.2.2.1 (by omega), Option.bind_some,
      ZA_1_11 ha, Option.bind_some, ZA_1_11 hb, Option.bind_some, Zl5 s'.2.2.2.2.2 (by omega), Option.bind_some, r6, Zs5 s.2.2.2.2.2 (by omega), Option.bind_some, hm7, nA_1, q1]
theorem X_becomeLike {b : Nat} (hN5 : hN H ≤ 5) (ha : shp a = 1) (hab : a ≠ b) (hB : encX b H R m) : ∃ m', dn_X1_becomeLike a b (Z k m) = some ((), Z k m') ∧ encX a H R m' ∧ zFr a m m' := by
  have hb := hB.1
  have hd : b + 6 < a ∨ a + 6 < b := by rcases shp_11 a (shp_le (by omega)) b (shp_le (by omega)) ha hb with z | z | z <;> omega
  obtain ⟨-, e0, e1, e2, e3, e4, -⟩ := id hB
  have hF : zFr a m (mu (mu (mu (mu (mu m a 0 (nI (hN H))) a 1 (nI (rSt R))) a 2 (nI (cntD R (hN H)))) a 3 (nI (rHd R))) a 4 (rPs R)) := zFr.tr (zFr.mu (by omega) (by omega)) (zFr.tr (zFr.mu (by omega) (by omega)) (zFr.tr (zFr.mu (by omega) (by omega)) (zFr.tr (zFr.mu (by omega) (by omega)) (zFr.mu (by omega) (by omega)))))
  generalize hm5 : mu (mu (mu (mu (mu m a 0 (nI (hN H))) a 1 (nI (rSt R))) a 2 (nI (cntD R (hN H)))) a 3 (nI (rHd R))) a 4 (rPs R) = m5 at hF
  obtain ⟨m', q1, q2, q3⟩ := X_bl42 (k := k) hN5 ha hab (hN H) 0 m5 2000 (by omega) (by omega) (encX_fr ha hB hab hF) ⟨by rw [← hm5]; simp [mu, upd], by rw [← hm5]; simp [mu, upd], by rw [← hm5]; simp [mu, upd], by rw [← hm5]; simp [mu, upd], by rw [← hm5]; simp [mu, upd], fun i hi => by omega⟩
  refine ⟨m', ?_, q2, zFr.tr hF q3⟩
  unfold dn_X1_becomeLike
  rw [ZO_1 ha, Option.bind_some, ZI_1_0 hb, Option.bind_some, e0, ZP_1_0 ha, Option.bind_some, ZI_1_1 hb, Option.bind_some, mu_a _ _ _ _ (by omega), e1, ZP_1_1 ha, Option.bind_some, ZI_1_2 hb, Option.bind_some, mu_a _ _ _ _ (by omega), mu_a _ _ _ _ (by omega), e2, ZP_1_2 ha, Option.bind_some, ZI_1_3 hb, Option.bind_some, mu_a _ _ _ _ (by omega), mu_a _ _ _ _ (by omega), mu_a _ _ _ _ (by omega), e3, ZP_1_3 ha, Option.bind_some, ZI_1_4 hb, Option.bind_some, mu_a _ _ _ _ (by omega), mu_a _ _ _ _ (by omega), mu_a _ _ _ _ (by omega), mu_a _ _ _ _ (by omega), e4, ZP_1_4 ha, Option.bind_some, hm5]
  exact q1
/-! the reference: races copied, no choices -/
theorem encM_mv {q' : Nat} {m' : Nat → Nat → Int32} (hq : q' + 33 ≤ 165) (hN5 : hN H ≤ 5) (h : ∀ i, i < 33 → m' 100 (q' + i) = m 100 (q + i)) (hE : encM q H R m) : encM q' H R m' := by
  obtain ⟨-, e0, e1, e2, ex⟩ := hE
  refine ⟨hq, by rw [h 0 (by omega)]; exact e0, by rw [h 1 (by omega)]; exact e1, by rw [h 2 (by omega)]; exact e2, fun x hx => ?_⟩
  rw [h (3 + x) (by omega), h (8 + x) (by omega), h (13 + x) (by omega), h (18 + x) (by omega), h (23 + x) (by omega), h (28 + x) (by omega)]
  exact ex x hx
theorem M_cr2 {p t : Nat} (hp : p ≤ 4) (ht : t ≤ 4) (hpt : p ≠ t) : ∀ n x m f, x + n = 33 → n < f → (∀ i, i < x → m 100 (33 * t + i) = m 100 (33 * p + i)) → ∃ m', zlp (lb_X5_copyRace_2 81 (nI p) (nI t)) f (nI x) (Z k m) = some ((), Z k m') ∧ (∀ i, i < 33 → m' 100 (33 * t + i) = m 100 (33 * p + i)) ∧ zFm (33 * t) m m' := by
  intro n
  induction n with
  | zero =>
    intro x m f hx hf hz
    obtain ⟨f, rfl⟩ : ∃ g, f = g + 1 := ⟨f - 1, by omega⟩
    obtain rfl : x = 33 := by omega
    refine ⟨m, ?_, hz, zFm.rf⟩
    rw [zlp_s]
    show (if nI 33 < 33 then _ else _) = _
    rw [if_neg (by decide)]
    rfl
  | succ n ih =>
    intro x m f hx hf hz
    obtain ⟨f, rfl⟩ : ∃ g, f = g + 1 := ⟨f - 1, by omega⟩
    have hF : zFm (33 * t) m (mu m 100 (33 * t + x) (m 100 (33 * p + x))) := zFm.mu (by omega)
    generalize hm1 : mu m 100 (33 * t + x) (m 100 (33 * p + x)) = m1 at hF
    have h1 : ∀ i, m1 100 i = if i = 33 * t + x then m 100 (33 * p + x) else m 100 i := fun i => by rw [← hm1, mu100]
    have hsame : ∀ i, i < 33 → m1 100 (33 * p + i) = m 100 (33 * p + i) := fun i hi => by rw [h1, if_neg (by omega)]
    obtain ⟨m', q1, q2, q3⟩ := ih (x + 1) m1 f (by omega) (by omega) (fun i hi => by
      rw [hsame i (by omega), h1]
      by_cases h : i = x
      · subst h; rw [if_pos rfl]
      · rw [if_neg (by omega)]; exact hz i (by omega))
    refine ⟨m', ?_, fun i hi => (q2 i hi).trans (hsame i hi), zFm.tr hF q3⟩
    rw [zlp_s]
    show (if nI x < 33 then _ else _) = _
    rw [if_pos ((nL_33 (by omega)).mpr (by omega)), ZA_5_28 s81, Option.bind_some, Option.bind_some, nM_33, nI_add, Ml_100 (by omega), Option.bind_some, nM_33, nI_add, Ms_100 (by omega), Option.bind_some, hm1, nA_1, q1]
theorem M_copyRace {p t : Nat} (hN5 : hN H ≤ 5) (hp : p ≤ 4) (ht : t ≤ 4) (hpt : p ≠ t) (hE : encM (33 * p) H R m) : ∃ m', dn_X5_copyRace 81 (nI p) (nI t) (Z k m) = some ((), Z k m') ∧ encM (33 * t) H R m' ∧ zFm (33 * t) m m' := by
  obtain ⟨m', r1, r2, r3⟩ := M_cr2 (k := k) hp ht hpt 33 0 m 2000 (by omega) (by omega) (fun i hi => by omega)
  refine ⟨m', ?_, encM_mv (by omega) hN5 r2 hE, r3⟩
  unfold dn_X5_copyRace
  rw [ZO_5 s81, Option.bind_some]
  exact r1
theorem M_look {t : Nat} : dn_X5_look 81 (nI t) (Z k m) = some ((), Z k (mu m 81 29 (nI (33 * t)))) := by
  unfold dn_X5_look
  rw [ZO_5 s81, Option.bind_some, nM_33, ZP_5_29 s81, Option.bind_some]
theorem M_nc2 : ∀ n x m f, x + n = 5 → n < f → (∀ i, i < x → m 101 i = 0) → ∃ m', zlp (lb_X5_noChoices_2 81) f (nI x) (Z k m) = some ((), Z k m') ∧ (∀ i, i < 5 → m' 101 i = 0) ∧ ∀ b, b ≠ 101 → m' b = m b := by
  intro n
  induction n with
  | zero =>
    intro x m f hx hf hz
    obtain ⟨f, rfl⟩ : ∃ g, f = g + 1 := ⟨f - 1, by omega⟩
    obtain rfl : x = 5 := by omega
    refine ⟨m, ?_, hz, fun _ _ => rfl⟩
    rw [zlp_s]
    show (if nI 5 < 5 then _ else _) = _
    rw [if_neg (by decide)]
    rfl
  | succ n ih =>
    intro x m f hx hf hz
    obtain ⟨f, rfl⟩ : ∃ g, f = g + 1 := ⟨f - 1, by omega⟩
    obtain ⟨m', q1, q2, q3⟩ := ih (x + 1) (mu m 101 x 0) f (by omega) (by omega) (fun i hi => by
      by_cases h : i = x
      · subst h; rw [mu_s]
      · rw [mu_j _ _ h]; exact hz i (by omega))
    refine ⟨m', ?_, q2, fun b hb => by rw [q3 b hb, mu_ar _ _ _ hb]⟩
    rw [zlp_s]
    show (if nI x < 5 then _ else _) = _
    rw [it_5 (by omega), ZA_5_31 s81, Option.bind_some, Ms_101 (by omega), Option.bind_some, nA_1, q1]
theorem M_noChoices : ∃ m', dn_X5_noChoices 81 (Z k m) = some ((), Z k m') ∧ (∀ i, i < 5 → m' 101 i = 0) ∧ ∀ b, b ≠ 101 → m' b = m b := by
  obtain ⟨m', r1, r2, r3⟩ := M_nc2 (k := k) 5 0 m 2000 (by omega) (by omega) (fun i hi => by omega)
  refine ⟨m', ?_, r2, r3⟩
  unfold dn_X5_noChoices
  rw [ZO_5 s81, Option.bind_some]
  exact r1
end
