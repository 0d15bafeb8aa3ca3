section
variable {k k' : zK} {m m' : Nat → Nat → Int32} {s : zSt} {c : Nat} {H : zHD} {R : zRS}
theorem M_lc15 {x kk code : Nat} (hx : x < 5) (hkk : kk ≤ 4) (hc : code < 2 ^ 31) : ∃ m', zlp (lb_X5_layChoices_15 81 (nI x)) 2000 (nI kk - 1, nI code) (Z k m) = some ((), Z k m') ∧ (∀ i, i < kk → m' 102 (4 * x + i) = nI (dg code (kk - 1 - i))) ∧ (∀ j, (j < 4 * x ∨ 4 * x + 4 ≤ j) → m' 102 j = m 102 j) ∧ ∀ a, a ≠ 102 → m' a = m a := by
  refine lp_inv (N := kk) (I := fun t st h => ∃ m2, st = (iI ((kk : Int) - t - 1), nI (code / 4 ^ t)) ∧ h = Z k m2 ∧ (∀ i, kk - t ≤ i → i < kk → m2 102 (4 * x + i) = nI (dg code (kk - 1 - i))) ∧ (∀ j, (j < 4 * x ∨ 4 * x + 4 ≤ j) → m2 102 j = m 102 j) ∧ ∀ a, a ≠ 102 → m2 a = m a) (Q := fun r => ∃ m', r = some ((), Z k m') ∧ (∀ i, i < kk → m' 102 (4 * x + i) = nI (dg code (kk - 1 - i))) ∧ (∀ j, (j < 4 * x ∨ 4 * x + 4 ≤ j) → m' 102 j = m 102 j) ∧ ∀ a, a ≠ 102 → m' a = m a) ?_ ?_ kk 0 2000 _ (Z k m) (by omega) (by omega) ⟨m, ?_, rfl, fun i h1 h2 => by omega, fun _ _ => rfl, fun _ _ => rfl⟩
  · rintro t st h ht ⟨m2, rfl, rfl, h1, h2, h3⟩
    left
    have hcd : code / 4 ^ t < 2 ^ 31 := Nat.lt_of_le_of_lt (Nat.div_le_self _ _) hc
    have e : iI ((kk : Int) - t - 1) = nI (kk - t - 1) := by rw [iI_nI]; congr 1; omega
    refine ⟨(iI ((kk : Int) - (t + 1 : Nat) - 1), nI (code / 4 ^ (t + 1))), Z k (mu m2 102 (4 * x + (kk - t - 1)) (nI (code / 4 ^ t % 4))), ⟨_, rfl, rfl, fun i g1 g2 => ?_, fun j hj => by rw [mu_j _ _ (by omega)]; exact h2 j hj, fun a ha => by rw [mu_ar _ _ _ ha]; exact h3 a ha⟩, fun rec => ?_⟩
    · by_cases hi : i = kk - t - 1
      · subst hi
        rw [mu_s]
        unfold dg
        rw [show kk - 1 - (kk - t - 1) = t by omega]
      · rw [mu_j _ _ (by omega)]; exact h1 i (by omega) g2
    · have e2 : iI ((kk : Int) - t - 1) + (-1) = iI ((kk : Int) - (t + 1 : Nat) - 1) := by
        rw [show (-1 : Int32) = iI (-1) by decide, iI_add]; congr 1; omega
      unfold lb_X5_layChoices_15
      dsimp only
      rw [e2, e, if_neg (nIn0 (by omega)), ZA_5_32 s81, Option.bind_some, if_neg (by decide), nM_4, nI_add, nR4 hcd, Ms_102 (by omega), Option.bind_some, if_neg (by decide), nD4 hcd, Nat.div_div_eq_div_mul, ← Nat.pow_succ]
  · rintro st h ⟨m2, rfl, rfl, h1, h2, h3⟩ rec
    refine ⟨m2, ?_, fun i hi => h1 i (by omega) hi, h2, h3⟩
    unfold lb_X5_layChoices_15 jn_X5_layChoices_47
    dsimp only
    rw [show (kk : Int) - kk - 1 = -1 by omega, if_pos (by decide)]
  · rw [show nI kk - 1 = iI ((kk : Int) - 1) by rw [iI_nI, show (1 : Int32) = iI 1 by decide, iI_sub]]
    simp
theorem M_layChoices {x kk code : Nat} (hx : x < 5) (hkk : kk ≤ 4) (hc : code < 2 ^ 31) : ∃ m', dn_X5_layChoices 81 (nI x) (nI kk) (nI code) (Z k m) = some ((), Z k m') ∧ m' 101 = upd (m 101) x (nI kk) ∧ (∀ i, i < kk → m' 102 (4 * x + i) = nI (dg code (kk - 1 - i))) ∧ ∀ a, a ≠ 101 → a ≠ 102 → m' a = m a := by
  obtain ⟨m', r1, r2, r3, r4⟩ := M_lc15 (k := k) (m := mu m 101 x (nI kk)) (code := code) hx hkk hc
  refine ⟨m', ?_, by rw [r4 101 (by omega)]; simp [mu], r2, fun a h1 h2 => by rw [r4 a h2, mu_ar _ _ _ h1]⟩
  unfold dn_X5_layChoices
  rw [ZO_5 s81, Option.bind_some, ZA_5_31 s81, Option.bind_some, Ms_101 hx, Option.bind_some]
  exact r1
theorem M_lb23 {x y kk code : Nat} (hx : x < 5) (hy : y < 5) (hxy : x ≠ y) (hkk : kk ≤ 2) (hc : code < 2 ^ 31) : ∃ m', zlp (lb_X5_layBoth_23 81 (nI x) (nI y)) 2000 (nI code, nI kk - 1) (Z k m) = some ((), Z k m') ∧ (∀ i, i < kk → m' 102 (4 * x + i) = nI (dg code (2 * kk - 1 - 2 * i)) ∧ m' 102 (4 * y + i) = nI (dg code (2 * kk - 2 - 2 * i))) ∧ ∀ a, a ≠ 102 → m' a = m a := by
  refine lp_inv (N := kk) (I := fun t st h => ∃ m2, st = (nI (code / 4 ^ (2 * t)), iI ((kk : Int) - t - 1)) ∧ h = Z k m2 ∧ (∀ i, kk - t ≤ i → i < kk → m2 102 (4 * x + i) = nI (dg code (2 * kk - 1 - 2 * i)) ∧ m2 102 (4 * y + i) = nI (dg code (2 * kk - 2 - 2 * i))) ∧ ∀ a, a ≠ 102 → m2 a = m a) (Q := fun r => ∃ m', r = some ((), Z k m') ∧ (∀ i, i < kk → m' 102 (4 * x + i) = nI (dg code (2 * kk - 1 - 2 * i)) ∧ m' 102 (4 * y + i) = nI (dg code (2 * kk - 2 - 2 * i))) ∧ ∀ a, a ≠ 102 → m' a = m a) ?_ ?_ kk 0 2000 _ (Z k m) (by omega) (by omega) ⟨m, ?_, rfl, fun i h1 h2 => by omega, fun _ _ => rfl⟩
  · rintro t st h ht ⟨m2, rfl, rfl, h1, h3⟩
    left
    have hcd : code / 4 ^ (2 * t) < 2 ^ 31 := Nat.lt_of_le_of_lt (Nat.div_le_self _ _) hc
    have hcd2 : code / 4 ^ (2 * t) / 4 < 2 ^ 31 := Nat.lt_of_le_of_lt (Nat.div_le_self _ _) hcd
    have ed : code / 4 ^ (2 * t) / 4 = code / 4 ^ (2 * t + 1) := by rw [Nat.div_div_eq_div_mul, ← Nat.pow_succ]
    have e : iI ((kk : Int) - t - 1) = nI (kk - t - 1) := by rw [iI_nI]; congr 1; omega
    refine ⟨(nI (code / 4 ^ (2 * (t + 1))), iI ((kk : Int) - (t + 1 : Nat) - 1)), Z k (mu (mu m2 102 (4 * y + (kk - t - 1)) (nI (code / 4 ^ (2 * t) % 4))) 102 (4 * x + (kk - t - 1)) (nI (code / 4 ^ (2 * t) / 4 % 4))), ⟨_, rfl, rfl, fun i g1 g2 => ?_, fun a ha => by rw [mu_ar _ _ _ ha, mu_ar _ _ _ ha]; exact h3 a ha⟩, fun rec => ?_⟩
    · by_cases hi : i = kk - t - 1
      · subst hi
        rw [mu_s, mu_j _ _ (by omega), mu_s, ed]
        unfold dg
        rw [show 2 * kk - 1 - 2 * (kk - t - 1) = 2 * t + 1 by omega, show 2 * kk - 2 - 2 * (kk - t - 1) = 2 * t by omega]
        exact ⟨rfl, rfl⟩
      · rw [mu_j _ _ (by omega), mu_j _ _ (by omega), mu_j _ _ (by omega), mu_j _ _ (by omega)]; exact h1 i (by omega) g2
    · have e2 : iI ((kk : Int) - t - 1) + (-1) = iI ((kk : Int) - (t + 1 : Nat) - 1) := by
        rw [show (-1 : Int32) = iI (-1) by decide, iI_add]; congr 1; omega
      unfold lb_X5_layBoth_23
      dsimp only
      rw [e2, e, if_neg (nIn0 (by omega)), ZA_5_32 s81, Option.bind_some, if_neg (by decide), nM_4, nI_add, nR4 hcd, Ms_102 (by omega), Option.bind_some, if_neg (by decide), ZA_5_32 s81, Option.bind_some, if_neg (by decide), nM_4, nI_add, nD4 hcd, nR4 hcd2, Ms_102 (by omega), Option.bind_some, if_neg (by decide), nD4 hcd2, ed, Nat.div_div_eq_div_mul, ← Nat.pow_succ, show (2 * t + 1).succ = 2 * (t + 1) by omega]
  · rintro st h ⟨m2, rfl, rfl, h1, h3⟩ rec
    refine ⟨m2, ?_, fun i hi => h1 i (by omega) hi, h3⟩
    unfold lb_X5_layBoth_23 jn_X5_layBoth_76
    dsimp only
    rw [show (kk : Int) - kk - 1 = -1 by omega, if_pos (by decide)]
  · rw [show nI kk - 1 = iI ((kk : Int) - 1) by rw [iI_nI, show (1 : Int32) = iI 1 by decide, iI_sub]]
    simp
theorem M_layBoth {x y kk code : Nat} (hx : x < 5) (hy : y < 5) (hxy : x ≠ y) (hkk : kk ≤ 2) (hc : code < 2 ^ 31) : ∃ m', dn_X5_layBoth 81 (nI x) (nI y) (nI kk) (nI code) (Z k m) = some ((), Z k m') ∧ m' 101 = upd (upd (m 101) x (nI kk)) y (nI kk) ∧ (∀ i, i < kk → m' 102 (4 * x + i) = nI (dg code (2 * kk - 1 - 2 * i)) ∧ m' 102 (4 * y + i) = nI (dg code (2 * kk - 2 - 2 * i))) ∧ ∀ a, a ≠ 101 → a ≠ 102 → m' a = m a := by
  obtain ⟨m', r1, r2, r4⟩ := M_lb23 (k := k) (m := mu (mu m 101 x (nI kk)) 101 y (nI kk)) (code := code) hx hy hxy hkk hc
  refine ⟨m', ?_, by rw [r4 101 (by omega)]; simp [mu], r2, fun a h1 h2 => by rw [r4 a h2, mu_ar _ _ _ h1, mu_ar _ _ _ h1]⟩
  unfold dn_X5_layBoth
  rw [ZO_5 s81, Option.bind_some, ZA_5_31 s81, Option.bind_some, Ms_101 hx, Option.bind_some, ZA_5_31 s81, Option.bind_some, Ms_101 hy, Option.bind_some]
  exact r1
/-- the reference is about to try choices -/
def zCb (s : zSt) (b : Nat → Bool) (m : Nat → Nat → Int32) : Prop := m 81 30 = nI (rSt (sR s)) ∧ ∀ x, x < 5 → b x = false → m 101 x = 0
theorem M_choicesBegin (hO : okS s) (hM : MS s k m) : ∃ m', dn_X5_choicesBegin 81 (Z k m) = some ((), Z k m') ∧ MS s k m' ∧ (∀ b, zCb s b m') ∧ zFw m m' := by
  have hN5 := hO.2.2.2.1.1.2.1
  obtain ⟨m1, n1, n2, n3, n4, n5⟩ := M_nc hN5 hM
  have hF : zFw m1 (mu m1 81 30 (nI (rSt (sR s)))) := zFw.f81 (by omega)
  refine ⟨mu m1 81 30 (nI (rSt (sR s))), ?_, n3.sc hN5 hF, fun b => ⟨mu_s _ _ _ _, fun x hx _ => by rw [mu_ar _ _ _ (by omega)]; exact n2 x hx⟩, zFw.tr n5 hF⟩
  have e0 : m1 100 0 = nI (rSt (sR s)) := n3.2.2.2.2.1.2.1
  unfold dn_X5_choicesBegin
  rw [ZO_5 s81, Option.bind_some, n1, zbd_s, ZA_5_28 s81, Option.bind_some, show zaI 0 100 0 (Z k m1) = _ from Ml_100 (j := 0) (by omega), Option.bind_some, e0, ZP_5_30 s81, Option.bind_some]
theorem M_try1 {x kk code : Nat} (hO : okS s) (hM : MS s k m) (hcb : zCb s (b1 x) m) (hx : x < hN (sH s)) (hkk : kk ≤ 4) (hc : code < 2 ^ 31) : ∃ m1 m', dn_X5_layChoices 81 (nI x) (nI kk) (nI code) (Z k m) = some ((), Z k m1) ∧ dn_X5_layEnd 81 (Z k m1) = some ((), Z k m') ∧ encM 132 (sH s) (ch1 s x kk code) m' ∧ m' 81 29 = nI 132 ∧ MS s k m' ∧ zCb s (b1 x) m' ∧ zFw m m' := by
  have hN5 := hO.2.2.2.1.1.2.1
  obtain ⟨m1, l1, l2, l3, l4⟩ := M_layChoices (k := k) (m := m) (kk := kk) (code := code) (show x < 5 by omega) hkk hc
  have hF : zFw m m1 := ⟨fun a _ _ _ h1 h2 _ _ => l4 a h1 h2, fun f _ => by rw [l4 81 (by omega) (by omega)], fun j _ => by rw [l4 100 (by omega) (by omega)]⟩
  have hM1 := hM.sc hN5 hF
  have hst := hO.2.2.2.2.2.1.1
  have hwf : ∀ st, rSt (sR s) ≤ st → st < 60 → wfM (sH s) st (chW (sH s) (rSt (sR s)) kk (b1 x) (d1 kk code) st) m1 := by
    intro st h1 h2 z hz
    by_cases hzx : z = x
    · right
      subst hzx
      refine ⟨rSt (sR s), kk, hst, hkk, by rw [l4 81 (by omega) (by omega)]; exact hcb.1, by rw [l2]; simp [upd], ?_⟩
      by_cases hc2 : st < rSt (sR s) + kk
      · right
        have e : chW (sH s) (rSt (sR s)) kk (b1 z) (d1 kk code) st z = dg code (kk - 1 - (st - rSt (sR s))) := by
          unfold chW b1 d1
          rw [if_pos ⟨by simp, h1, hc2⟩]
        rw [e]
        exact ⟨h1, hc2, dg_le _ _, l3 _ (by omega)⟩
      · left
        refine ⟨fun q => hc2 q.2, ?_⟩
        unfold chW
        rw [if_neg (fun q => hc2 q.2.2)]
        rfl
    · left
      refine ⟨by rw [l2]; simp only [upd, hzx, if_false]; exact hcb.2 z (by omega) (by simp [b1, hzx]), ?_⟩
      unfold chW b1
      rw [if_neg (fun q => hzx (by simpa using q.1))]
      rfl
  obtain ⟨m', r1, r2, r3, r4⟩ := M_layEnd hO hM1 hwf
  refine ⟨m1, m', l1, r1, r2, r4.2.2.1, hM1.sc hN5 r4.w, ⟨by rw [r4.2.1 30 (by omega), l4 81 (by omega) (by omega)]; exact hcb.1, fun z hz hb => ?_⟩, zFw.tr hF r4.w⟩
  have hzx : z ≠ x := fun q => by simp [b1, q] at hb
  rw [r4.1 101 (by omega) (by omega), l2]
  simp only [upd, hzx, if_false]
  exact hcb.2 z hz hb
theorem M_try2 {x y kk code : Nat} (hO : okS s) (hM : MS s k m) (hcb : zCb s (b2 x y) m) (hx : x < hN (sH s)) (hy : y < hN (sH s)) (hxy : x ≠ y) (hkk : kk ≤ 2) (hc : code < 2 ^ 31) : ∃ m1 m', dn_X5_layBoth 81 (nI x) (nI y) (nI kk) (nI code) (Z k m) = some ((), Z k m1) ∧ dn_X5_layEnd 81 (Z k m1) = some ((), Z k m') ∧ encM 132 (sH s) (ch2 s x y kk code) m' ∧ m' 81 29 = nI 132 ∧ MS s k m' ∧ zCb s (b2 x y) m' ∧ zFw m m' ∧ (∀ a, a ≠ 81 → a ≠ 100 → a ≠ 101 → a ≠ 102 → m' a = m a) ∧ ∀ f, f ≠ 29 → m' 81 f = m 81 f := by
  have hN5 := hO.2.2.2.1.1.2.1
  obtain ⟨m1, l1, l2, l3, l4⟩ := M_layBoth (k := k) (m := m) (kk := kk) (code := code) (show x < 5 by omega) (show y < 5 by omega) hxy hkk hc
  have hF : zFw m m1 := ⟨fun a _ _ _ h1 h2 _ _ => l4 a h1 h2, fun f _ => by rw [l4 81 (by omega) (by omega)], fun j _ => by rw [l4 100 (by omega) (by omega)]⟩
  have hM1 := hM.sc hN5 hF
  have hst := hO.2.2.2.2.2.1.1
  have hwf : ∀ st, rSt (sR s) ≤ st → st < 60 → wfM (sH s) st (chW (sH s) (rSt (sR s)) kk (b2 x y) (d2 x kk code) st) m1 := by
    intro st h1 h2 z hz
    by_cases hzz : z = x ∨ z = y
    · right
      refine ⟨rSt (sR s), kk, hst, by omega, by rw [l4 81 (by omega) (by omega)]; exact hcb.1, by rw [l2]; rcases hzz with q | q <;> simp [upd, q], ?_⟩
      by_cases hc2 : st < rSt (sR s) + kk
      · right
        have e : chW (sH s) (rSt (sR s)) kk (b2 x y) (d2 x kk code) st z = d2 x kk code z (st - rSt (sR s)) := by
          unfold chW b2
          rw [if_pos ⟨by simp [hzz], h1, hc2⟩]
        rw [e]
        refine ⟨h1, hc2, d2_le _ _, ?_⟩
        obtain ⟨g1, g2⟩ := l3 (st - rSt (sR s)) (by omega)
        unfold d2
        rcases hzz with q | q
        · rw [if_pos q, q]; exact g1
        · rw [if_neg (by omega), q]; exact g2
      · left
        refine ⟨fun q => hc2 q.2, ?_⟩
        unfold chW
        rw [if_neg (fun q => hc2 q.2.2)]
        rfl
    · left
      have hzx : z ≠ x := fun q => hzz (Or.inl q)
      have hzy : z ≠ y := fun q => hzz (Or.inr q)
      refine ⟨by rw [l2]; simp only [upd, hzx, hzy, if_false]; exact hcb.2 z (by omega) (by simp [b2, hzx, hzy]), ?_⟩
      unfold chW b2
      rw [if_neg (fun q => by have := q.1; simp [hzx, hzy] at this)]
      rfl
  obtain ⟨m', r1, r2, r3, r4⟩ := M_layEnd hO hM1 hwf
  refine ⟨m1, m', l1, r1, r2, r4.2.2.1, hM1.sc hN5 r4.w, ⟨by rw [r4.2.1 30 (by omega), l4 81 (by omega) (by omega)]; exact hcb.1, fun z hz hb => ?_⟩, zFw.tr hF r4.w, fun a h1 h2 h3 h4 => by rw [r4.1 a h1 h2, l4 a h3 h4], fun f hf => by rw [r4.2.1 f hf, l4 81 (by omega) (by omega)]⟩
  have hzx : z ≠ x := fun q => by simp [b2, q] at hb
  have hzy : z ≠ y := fun q => by simp [b2, q] at hb
  rw [r4.1 101 (by omega) (by omega), l2]
  simp only [upd, hzx, hzy, if_false]
  exact hcb.2 z hz hb
end
