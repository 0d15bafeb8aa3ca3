/-! count -/
theorem lp_acc {ρ : Type} {f : (Int32 × Int32 → zAH → Option (ρ × zAH)) → Int32 × Int32 → zAH → Option (ρ × zAH)} {N : Nat} {h : zAH} {out : Option (ρ × zAH)} (P : Nat → Prop) (c0 x0 : Nat) (hs : ∀ x c, x < N → ∀ rec, (P x → f rec (nI c, nI (x0 + x)) h = rec (nI (c + 1), nI (x0 + (x + 1))) h) ∧ (¬ P x → f rec (nI c, nI (x0 + x)) h = rec (nI c, nI (x0 + (x + 1))) h)) (he : ∀ rec, f rec (nI (c0 + cnt P N), nI (x0 + N)) h = out) {fuel : Nat} (hf : N < fuel) : zlp f fuel (nI c0, nI x0) h = out := by
  refine lp_fn (N := N) (fun x => (nI (c0 + cnt P x), nI (x0 + x))) (fun _ => h) (fun x hx rec => ?_) he hf
  by_cases hp : P x
  · rw [(hs x _ hx rec).1 hp, cnt_t hp, Nat.add_assoc]
  · rw [(hs x _ hx rec).2 hp, cnt_f hp]
section
variable {k k' : zK} {m m' : Nat → Nat → Int32} {s : zSt} {c : Nat} {H : zHD} {R : zRS}
theorem cnt_0 {P : Nat → Prop} : ∀ n, (∀ x, x < n → ¬ P x) → cnt P n = 0
  | 0, _ => rfl
  | n + 1, h => by rw [cnt_f (h n (by omega)), cnt_0 n fun x hx => h x (by omega)]
theorem cntD_cnt : ∀ n, cntD R n = cnt (fun x => ¬ rDn R x = -9) n
  | 0 => rfl
  | n + 1 => by
    show cntD R n + (if rDn R n = -9 then 0 else 1) = _
    by_cases h : rDn R n = -9
    · rw [if_pos h, cnt_f (fun z => z h), cntD_cnt n]; rfl
    · rw [if_neg h, cnt_t h, cntD_cnt n]
noncomputable def ctS (s : zSt) (w : Nat) : Int32 := if w = 0 then nI (hY (sH s)) else if w = 1 then nI (hN (sH s)) else if w = 2 then nI (rSt (sR s)) else if w = 3 then nI (cntD (sR s) (hN (sH s))) else if w = 4 then nI (cnt (fun x => hK (sH s) x = 1 ∨ hK (sH s) x = 4) (hN (sH s))) else if w = 5 then nI (cnt (fun j => (sK s j).isSome = true) 3) else if w = 6 then nI (cnt (fun r => ((sW s).1 r).isSome = true) 6) else nI (cnt (fun r => ((sT s).1 r).isSome = true) 4)
noncomputable def g_count (v : Int32) (s : zSt) : Int32 × zSt := match ix v 8 with
  | none => (-1, s)
  | some w => (ctS s w, s)
theorem X_goats (hO : okH H) (hH : encH c H m) : dn_X0_goats c (Z k m) = some (nI (cnt (fun x => hK H x = 1 ∨ hK H x = 4) (hN H)), Z k m) := by
  have s7 := shp_2 _ (shp_le (by have := hH.1; omega)) hH.1
  have hN5 := hO.2.1
  unfold dn_X0_goats lp_X0_goats_4
  rw [ZO_0 hH.1, Option.bind_some]
  refine lp_cnt (N := hN H) (fun x => hK H x = 1 ∨ hK H x = 4) (fun x c' hx rec => ?_) (fun rec => ?_) (by omega)
  · have hk5 := (hO.2.2.2 x hx).1
    unfold lb_X0_goats_4 jn_X0_goats_28
    dsimp only
    rw [ZI_0_2 hH.1, Option.bind_some, hH.2.2.1, ifLt hx (by omega), ZA_0_3 hH.1, Option.bind_some, Zl5 s7.2.1 (by omega), Option.bind_some, (hH.2.2.2.2 x hx).1, X_isOf1 hk5, zbd_s, nA_1, nA_1]
    exact ⟨fun h => by rw [if_pos h, ifb1], fun h => by rw [if_neg h, ifb0]⟩
  · unfold lb_X0_goats_4 jn_X0_goats_34
    dsimp only
    rw [ZI_0_2 hH.1, Option.bind_some, hH.2.2.1, ifLf (Nat.le_refl _) (by omega)]
theorem X_keptCount {K : Nat → Option zRS} (hK : XK H K m) : dn_X4_keptCount 2 (Z k m) = some (nI (cnt (fun j => (K j).isSome = true) 3), Z k m) := by
  unfold dn_X4_keptCount lp_X4_keptCount_4
  rw [ZO_4 s2, Option.bind_some]
  refine lp_cnt (N := 3) (fun j => (K j).isSome = true) (fun x c' hx rec => ?_) (fun rec => ?_) (by omega)
  · unfold lb_X4_keptCount_4 jn_X4_keptCount_24
    dsimp only
    rw [it_3 hx, ZA_4_6 s2, Option.bind_some, ZrK hx, Option.bind_some, ZI_1_5 (shp_kp x hx), Option.bind_some, (hK x hx).1, nA_1, nA_1]
    exact ⟨fun h => by rw [if_pos h, ifb1], fun h => by rw [if_neg h, ifb0]⟩
  · unfold lb_X4_keptCount_4 jn_X4_keptCount_30
    dsimp only
    rw [if_3 (by omega) (by omega)]
theorem X_there {am ba ct ln : Nat} {W : zWr} (hP : rwP am ba ct ln) (hQ : zXQ ba ct W m) (hsz : ∀ r n, r < ct → W.1 r = some n → n ≤ ln) : dn_X4_thereAmong am (Z k m) = some (nI (cnt (fun r => (W.1 r).isSome = true) ct), Z k m) := by
  have hle := rwP_le hP
  unfold dn_X4_thereAmong lp_X4_thereAmong_4
  refine lp_cnt (N := ct) (fun r => (W.1 r).isSome = true) (fun x c' hx rec => ?_) (fun rec => ?_) (by omega)
  · unfold lb_X4_thereAmong_4 jn_X4_thereAmong_22
    dsimp only
    rw [RW_n hP, Option.bind_some, ifLt hx (by omega), RW_r hP hx, Option.bind_some, X_isMissing (RW_s hP hx) (hQ x hx).1 (fun n hn => by have := hsz x n hx hn; omega), zbd_s, nA_1, nA_1]
    exact ⟨fun h => by rw [if_pos h, ifb0], fun h => by rw [if_neg h, ifb1]⟩
  · unfold lb_X4_thereAmong_4 jn_X4_thereAmong_28
    dsimp only
    rw [RW_n hP, Option.bind_some, ifLf (Nat.le_refl _) (by omega)]
theorem X_count {w : Nat} (hO : okS s) (hX : XS s k m) (hw : w < 8) : dn_X4_count 2 (nI w) (Z k m) = some (ctS s w, Z k m) := by
  have hH := hX.2.2.2.1.2.1
  have hOH := hO.2.2.2.1.1
  have hR := hX.2.2.2.2.1
  unfold dn_X4_count ctS
  rw [ZO_4 s2, Option.bind_some]
  by_cases h0 : w = 0
  · rw [et_0 h0, if_pos h0, ZA_4_2 s2, Option.bind_some, ZI_0_0 hH.1, Option.bind_some, hH.2.1]
  rw [ef_0 h0 (by omega), if_neg h0]
  by_cases h1 : w = 1
  · rw [et_1 h1, if_pos h1, ZA_4_2 s2, Option.bind_some, ZI_0_2 hH.1, Option.bind_some, hH.2.2.1]
  rw [ef_1 h1 (by omega), if_neg h1]
  by_cases h2 : w = 2
  · rw [et_2 h2, if_pos h2, ZA_4_4 s2, Option.bind_some, ZI_1_1 hR.1, Option.bind_some, hR.2.2.1]
  rw [ef_2 h2 (by omega), if_neg h2]
  by_cases h3 : w = 3
  · rw [et_3 h3, if_pos h3, ZA_4_4 s2, Option.bind_some, ZI_1_2 hR.1, Option.bind_some, hR.2.2.2.1]
  rw [ef_3 h3 (by omega), if_neg h3]
  by_cases h4 : w = 4
  · rw [et_4 h4, if_pos h4, ZA_4_2 s2, Option.bind_some, X_goats hOH hH, zbd_s]
  rw [ef_4 h4 (by omega), if_neg h4]
  by_cases h5 : w = 5
  · rw [et_5 h5, if_pos h5, X_keptCount hX.2.2.2.2.2.1, zbd_s]
  rw [ef_5 h5 (by omega), if_neg h5]
  by_cases h6 : w = 6
  · rw [et_6 h6, if_pos h6, ZA_4_0 s2, Option.bind_some, X_there rwP_r hX.2.1 hO.2.1, zbd_s]
  rw [ef_6 h6 (by omega), if_neg h6, if_pos (show nI w = 7 by rw [show w = 7 by omega]; rfl), ZA_4_1 s2, Option.bind_some, X_there rwP_t hX.2.2.1 hO.2.2.1, zbd_s]
theorem x_count (v : Int32) : okX (dn_X4_count 2 v) (g_count v) := by
  intro s k m hO hX hk
  unfold g_count
  rcases ix_c v 8 (by omega) with ⟨w, hw, rfl, e⟩ | ⟨e, h⟩
  · rw [e]
    exact ⟨k, m, X_count hO hX hw, hX, zfX.rf⟩
  · rw [e]
    refine ⟨k, m, ?_, hX, zfX.rf⟩
    have hne : ∀ i : Nat, i < 8 → ¬ v = nI i := by
      intro i hi z
      subst z
      rcases h with h | ⟨-, h⟩
      · exact nIn0 (by omega) h
      · exact h (nI_lt hi (by omega))
    unfold dn_X4_count
    rw [ZO_4 s2, Option.bind_some, if_neg (show ¬ v = 0 from hne 0 (by omega)), if_neg (show ¬ v = 1 from hne 1 (by omega)), if_neg (show ¬ v = 2 from hne 2 (by omega)), if_neg (show ¬ v = 3 from hne 3 (by omega)), if_neg (show ¬ v = 4 from hne 4 (by omega)), if_neg (show ¬ v = 5 from hne 5 (by omega)), if_neg (show ¬ v = 6 from hne 6 (by omega)), if_neg (show ¬ v = 7 from hne 7 (by omega))]
theorem M_counted {w : Nat} (hO : okS s) (hM : MS s k m) (hw : w < 8) : dn_X5_counted 81 (nI w) (Z k m) = some (ctS s w, Z k (mu m 81 29 (nI 0))) := by
  have hOH := hO.2.2.2.1.1
  have hN5 := hOH.2.1
  obtain ⟨l1, l2⟩ := hM.lk hN5
  have hb : mu m 81 29 (nI 0) 81 29 = nI 0 := mu_s _ _ _ _
  unfold dn_X5_counted lp_X5_counted_9
  rw [ZO_5 s81, Option.bind_some, M_look0, zbd_s]
  generalize mu m 81 29 (nI 0) = m1 at l1 l2 hb ⊢
  have hG := l1.2.2.2.1.1
  have hE := l1.2.2.2.2.1
  have hKp := l1.2.2.2.2.2
  have hW := l1.2.1
  have hT := l1.2.2.1
  refine lp_acc (N := hN (sH s)) (fun x => (w = 3 ∧ ¬ rDn (sR s) x = -9) ∨ (w = 4 ∧ (hK (sH s) x = 1 ∨ hK (sH s) x = 4))) 0 0 (fun x c' hx rec => ?_) (fun rec => ?_) (by omega)
  · unfold lb_X5_counted_9 jn_X5_counted_31 jn_X5_counted_44 jn_X5_counted_48 jn_X5_counted_49
    dsimp only
    simp only [Nat.zero_add]
    rw [ZI_5_12 s81, Option.bind_some, hG.2.1, ifLt hx (by omega)]
    by_cases h3 : w = 3
    · rw [et_3 h3, M_isDone hb hE hN5 hx, zbd_s, ef_4 (by omega) (by omega), Int32.add_zero, nA_1, nA_1]
      constructor
      · intro h
        rcases h with ⟨-, h⟩ | ⟨h, -⟩
        · rw [if_neg h, ifb1]
        · omega
      · intro h
        rw [if_pos (Decidable.not_not.mp fun z => h (Or.inl ⟨h3, z⟩)), ifb0]
    · rw [ef_3 h3 (by omega)]
      by_cases h4 : w = 4
      · rw [et_4 h4, M_isGoat hOH hG hx, zbd_s, Int32.add_zero, nA_1, nA_1]
        constructor
        · intro h
          rcases h with ⟨h, -⟩ | ⟨-, h⟩
          · omega
          · rw [if_pos h, ifb1]
        · intro h
          rw [if_neg (fun z => h (Or.inr ⟨h4, z⟩)), ifb0]
      · rw [ef_4 h4 (by omega), Int32.add_zero, nA_1]
        refine ⟨fun h => ?_, fun _ => rfl⟩
        rcases h with ⟨h, -⟩ | ⟨h, -⟩
        · exact absurd h h3
        · exact absurd h h4
  unfold lb_X5_counted_9 jn_X5_counted_57 lp_X5_counted_59
  dsimp only
  rw [Nat.zero_add, Nat.zero_add, ZI_5_12 s81, Option.bind_some, hG.2.1, ifLf (Nat.le_refl _) (by omega)]
  generalize e1 : cnt _ _ = c1
  refine lp_acc (N := 3) (fun j => w = 5 ∧ (sK s j).isSome = true) c1 1 (fun x c' hx rec => ?_) (fun rec => ?_) (by omega)
  · unfold lb_X5_counted_59 jn_X5_counted_83 jn_X5_counted_84
    dsimp only
    rw [it_4 (by omega), ← Nat.add_assoc 1 x 1]
    by_cases h5 : w = 5
    · rw [et_5 h5, ZA_5_27 s81, Option.bind_some, Ml_99 (by omega), Option.bind_some, (hKp x hx).1, Int32.add_zero, nA_1, nA_1]
      exact ⟨fun h => by rw [if_pos h.2, ifb1], fun h => by rw [if_neg (fun z => h ⟨h5, z⟩), ifb0]⟩
    · rw [ef_5 h5 (by omega), Int32.add_zero, nA_1]
      exact ⟨fun h => absurd h.1 h5, fun _ => rfl⟩
  unfold lb_X5_counted_59 jn_X5_counted_92 lp_X5_counted_94
  dsimp only
  rw [if_4 (by omega) (by omega)]
  generalize e2 : cnt _ _ = c2
  refine lp_acc (N := 6) (fun j => w = 6 ∧ ((sW s).1 j).isSome = true) (c1 + c2) 0 (fun x c' hx rec => ?_) (fun rec => ?_) (by omega)
  · unfold lb_X5_counted_94 jn_X5_counted_120 jn_X5_counted_121
    dsimp only
    simp only [Nat.zero_add]
    rw [it_6 hx]
    by_cases h6 : w = 6
    · rw [et_6 h6, ZA_5_5 s81, Option.bind_some, Ml_83 hx, Option.bind_some, (hW x hx).1, Int32.add_zero, nA_1, nA_1]
      cases hc : (sW s).1 x with
      | none => exact ⟨fun h => absurd h.2 (by decide), fun _ => by rw [if_pos (show szM none < 0 by decide)]⟩
      | some n =>
        have hn := hO.2.1 x n hx hc
        exact ⟨fun _ => by rw [if_neg (show ¬ szM (some n) < 0 from nIn0 (by omega))], fun h => absurd ⟨h6, rfl⟩ h⟩
    · rw [ef_6 h6 (by omega), Int32.add_zero, nA_1]
      exact ⟨fun h => absurd h.1 h6, fun _ => rfl⟩
  unfold lb_X5_counted_94 jn_X5_counted_129 lp_X5_counted_131
  dsimp only
  rw [if_6 (by omega) (by omega)]
  generalize e3 : cnt _ _ = c3
  refine lp_acc (N := 4) (fun j => w = 7 ∧ ((sT s).1 j).isSome = true) (c1 + c2 + c3) 0 (fun x c' hx rec => ?_) (fun rec => ?_) (by omega)
  · unfold lb_X5_counted_131 jn_X5_counted_156 jn_X5_counted_157
    dsimp only
    simp only [Nat.zero_add]
    rw [it_4 hx]
    by_cases h7 : w = 7
    · rw [if_pos ((nE_7 (by omega)).mpr h7), ZA_5_8 s81, Option.bind_some, Ml_86 hx, Option.bind_some, (hT x hx).1, Int32.add_zero, nA_1, nA_1]
      cases hc : (sT s).1 x with
      | none => exact ⟨fun h => absurd h.2 (by decide), fun _ => by rw [if_pos (show szM none < 0 by decide)]⟩
      | some n =>
        have hn := hO.2.2.1 x n hx hc
        exact ⟨fun _ => by rw [if_neg (show ¬ szM (some n) < 0 from nIn0 (by omega))], fun h => absurd ⟨h7, rfl⟩ h⟩
    · rw [if_neg (fun z => h7 ((nE_7 (by omega)).mp z)), Int32.add_zero, nA_1]
      exact ⟨fun h => absurd h.1 h7, fun _ => rfl⟩
  unfold lb_X5_counted_131 jn_X5_counted_165 jn_X5_counted_202
  dsimp only
  rw [if_4 (by omega) (by omega)]
  generalize e4 : cnt _ _ = c4
  unfold ctS
  by_cases h0 : w = 0
  · rw [et_0 h0, if_pos h0, ZI_5_10 s81, Option.bind_some, hG.1]
  rw [ef_0 h0 (by omega), if_neg h0]
  by_cases h1 : w = 1
  · rw [et_1 h1, if_pos h1, ZI_5_12 s81, Option.bind_some, hG.2.1]
  rw [ef_1 h1 (by omega), if_neg h1]
  by_cases h2 : w = 2
  · rw [et_2 h2, if_pos h2, M_v0 hb (by omega), zbd_s, hE.2.1]
  rw [ef_2 h2 (by omega), if_neg h2]
  have n1 : ¬ w = 3 → ¬ w = 4 → c1 = 0 := fun a b => by
    rw [← e1]
    exact cnt_0 _ fun x _ z => z.elim (fun z => a z.1) (fun z => b z.1)
  have n2 : ¬ w = 5 → c2 = 0 := fun a => by rw [← e2]; exact cnt_0 _ fun x _ z => a z.1
  have n3 : ¬ w = 6 → c3 = 0 := fun a => by rw [← e3]; exact cnt_0 _ fun x _ z => a z.1
  have n4 : ¬ w = 7 → c4 = 0 := fun a => by rw [← e4]; exact cnt_0 _ fun x _ z => a z.1
  by_cases h3 : w = 3
  · rw [if_pos h3, n2 (by omega), n3 (by omega), n4 (by omega), ← e1, cntD_cnt, cnt_cg (hN (sH s)) fun x _ => ⟨fun z => z.elim (fun z => z.2) (fun z => absurd z.1 (by omega)), fun z => Or.inl ⟨h3, z⟩⟩]; rfl
  rw [if_neg h3]
  by_cases h4 : w = 4
  · rw [if_pos h4, n2 (by omega), n3 (by omega), n4 (by omega), ← e1, cnt_cg (hN (sH s)) fun x _ => ⟨fun z => z.elim (fun z => absurd z.1 (by omega)) (fun z => z.2), fun z => Or.inr ⟨h4, z⟩⟩]; rfl
  rw [if_neg h4]
  by_cases h5 : w = 5
  · rw [if_pos h5, n1 h3 h4, n3 (by omega), n4 (by omega), ← e2, cnt_cg 3 fun x _ => ⟨fun z => z.2, fun z => ⟨h5, z⟩⟩, Nat.zero_add]; rfl
  rw [if_neg h5]
  by_cases h6 : w = 6
  · rw [if_pos h6, n1 h3 h4, n2 (by omega), n4 (by omega), ← e3, cnt_cg 6 fun x _ => ⟨fun z => z.2, fun z => ⟨h6, z⟩⟩]; simp only [Nat.zero_add, Nat.add_zero]
  rw [if_neg h6, n1 h3 h4, n2 (by omega), n3 (by omega), ← e4, cnt_cg 4 fun x _ => ⟨fun z => z.2, fun z => ⟨by omega, z⟩⟩]
  simp only [Nat.zero_add]
theorem x5_count (v : Int32) : okM (dn_X5_count 81 v) (g_count v) := by
  intro s k m hO hM
  have hN5 := hO.2.2.2.1.1.2.1
  unfold dn_X5_count g_count jn_X5_count_19
  rw [ZO_5 s81, Option.bind_some, show (7 : Int32) = nI 8 - 1 by decide, M_ix v 8 (by omega), zbd_s]
  rcases ix_c v 8 (by omega) with ⟨w, hw, rfl, e⟩ | ⟨e, -⟩
  · obtain ⟨l1, l2⟩ := hM.lk hN5
    rw [e, ifSo, ifb1]
    exact ⟨k, _, by rw [M_counted hO hM hw, zbd_s], l1, l2⟩
  · rw [e]
    exact ⟨k, m, by rw [ifNo, ifb0], hM, zfM.rf⟩
theorem o_count (v : Int32) : okG (g_count v) := by
  intro s hO
  unfold g_count
  cases h : ix v 8 with
  | none => exact hO
  | some w => exact hO
end
