def lI (n : Nat) : Int64 := Int32.toInt64 (nI n)
theorem lI_toInt {n : Nat} (h : n < 2 ^ 31) : (lI n).toInt = n := by
  unfold lI
  rw [Int32.toInt_toInt64, iI_nI, iI_toInt (by omega) (by omega)]
theorem lI_0 : lI 0 = 0 := by decide
theorem lI_eq0 {n : Nat} (h : n < 2 ^ 31) : lI n = 0 ↔ n = 0 := by
  rw [← Int64.toInt_inj, lI_toInt h]
  show (n : Int) = 0 ↔ _
  omega
theorem lI_mod {a b : Nat} (ha : a < 2 ^ 31) (hb : b < 2 ^ 31) : lI a % lI b = lI (a % b) := by
  have h1 : a % b < 2 ^ 31 := Nat.lt_of_le_of_lt (Nat.mod_le a b) ha
  rw [← Int64.toInt_inj, Int64.toInt_mod, lI_toInt ha, lI_toInt hb, lI_toInt h1]
  exact (Int.ofNat_tmod a b).symm
theorem cmp0 {n : Nat} (h : n < 2 ^ 31) : lg_cmp (lI n) 0 = 0 ↔ n = 0 := by rw [lg_cmp_eq, lI_eq0 h]
theorem cmp1 {n : Nat} (h : n < 2 ^ 31) : 0 < lg_cmp (lI n) 0 ↔ 0 < n := by
  rw [lg_cmp_gt, Int64.lt_iff_toInt_lt, lI_toInt h]
  show (0 : Int) < n ↔ _
  omega
theorem mod2 {a b : Nat} (h1 : 0 < a % b) : b % (a % b) ≤ (b - 1) / 2 := by
  rcases Nat.eq_zero_or_pos b with hb | hb
  · subst hb; simp
  have h2 : a % b < b := Nat.mod_lt _ hb
  generalize a % b = r at *
  have h3 : b % r < r := Nat.mod_lt _ h1
  by_cases hr : 2 * r ≤ b
  · omega
  · have : b % r = b - r := by
      rw [Nat.mod_eq_sub_mod (by omega), Nat.mod_eq_of_lt (by omega)]
    omega
theorem gcd_mod (a b : Nat) : Nat.gcd b (a % b) = Nat.gcd a b := by
  rw [Nat.gcd_comm a b, Nat.gcd_rec b a, Nat.gcd_comm]
section
variable {k k' : zK} {m m' : Nat → Nat → Int32} {s : zSt} {c : Nat} {H : zHD} {R : zRS}
theorem X_tf9 {v1 v3 : Int64} {h : zAH} : ∀ j a b t fuel, b < 2 ^ j → a < 2 ^ 31 → b < 2 ^ 31 → t + 2 * j + 1 ≤ 100 → 2 * j + 1 < fuel → zlp (lb_X4_tellFraction_9 2 v1 v3) fuel (lI a, lI b, nI t) h = jn_X4_tellFraction_44 2 v1 v3 (lI (Nat.gcd a b)) h := by
  have h0 : ∀ a t f, t < 100 → lb_X4_tellFraction_9 2 v1 v3 f (lI a, lI 0, nI t) h = jn_X4_tellFraction_44 2 v1 v3 (lI (Nat.gcd a 0)) h := by
    intro a t f ht
    unfold lb_X4_tellFraction_9
    dsimp only
    rw [it_100 ht, if_pos ((cmp0 (by omega)).mpr rfl), Nat.gcd_zero_right]
  have h1 : ∀ a b t f, t < 100 → 0 < b → a < 2 ^ 31 → b < 2 ^ 31 → lb_X4_tellFraction_9 2 v1 v3 f (lI a, lI b, nI t) h = f (lI b, lI (a % b), nI (t + 1)) h := by
    intro a b t f ht hb ha hb'
    unfold lb_X4_tellFraction_9
    dsimp only
    rw [it_100 ht, if_neg (fun z => by have := (cmp0 hb').mp z; omega), if_neg (fun z => by have := (lI_eq0 hb').mp z; omega), lI_mod ha hb', nA_1]
  intro j
  induction j with
  | zero =>
    intro a b t fuel hb ha hb' ht hf
    obtain ⟨g, rfl⟩ : ∃ g, fuel = g + 1 := ⟨fuel - 1, by omega⟩
    obtain rfl : b = 0 := by omega
    rw [zlp_s, h0 a t _ (by omega)]
  | succ j ih =>
    intro a b t fuel hb ha hb' ht hf
    obtain ⟨g, rfl⟩ : ∃ g, fuel = g + 1 := ⟨fuel - 1, by omega⟩
    by_cases hz : b = 0
    · subst hz
      rw [zlp_s, h0 a t _ (by omega)]
    · rw [zlp_s, h1 a b t _ (by omega) (by omega) ha hb']
      have hr : a % b < b := Nat.mod_lt _ (by omega)
      obtain ⟨g, rfl⟩ : ∃ g', g = g' + 1 := ⟨g - 1, by omega⟩
      by_cases hz2 : a % b = 0
      · rw [zlp_s, hz2, h0 b (t + 1) _ (by omega), ← hz2, gcd_mod]
      · have hm := mod2 (a := a) (b := b) (by omega)
        rw [zlp_s, h1 b (a % b) (t + 1) _ (by omega) (by omega) hb' (by omega), ih (a % b) (b % (a % b)) (t + 1 + 1) g (by rw [Nat.pow_succ] at hb; omega) (by omega) (by omega) (by omega) (by omega), gcd_mod, gcd_mod]
theorem M_fr6 {v1 v3 : Int64} {v5 : Int32} {h : zAH} : ∀ j a b fuel, b < 2 ^ j → a < 2 ^ 31 → b < 2 ^ 31 → 2 * j + 1 < fuel → zlp (lb_X5_fraction_6 81 v1 v3 v5) fuel (lI a, lI b) h = jn_X5_fraction_31 81 v1 v3 v5 (lI (Nat.gcd a b)) h := by
  have h0 : ∀ a f, lb_X5_fraction_6 81 v1 v3 v5 f (lI a, lI 0) h = jn_X5_fraction_31 81 v1 v3 v5 (lI (Nat.gcd a 0)) h := by
    intro a f
    unfold lb_X5_fraction_6
    dsimp only
    rw [if_pos ((cmp0 (by omega)).mpr rfl), Nat.gcd_zero_right]
  have h1 : ∀ a b f, 0 < b → a < 2 ^ 31 → b < 2 ^ 31 → lb_X5_fraction_6 81 v1 v3 v5 f (lI a, lI b) h = f (lI b, lI (a % b)) h := by
    intro a b f hb ha hb'
    unfold lb_X5_fraction_6
    dsimp only
    rw [if_neg (fun z => by have := (cmp0 hb').mp z; omega), if_neg (fun z => by have := (lI_eq0 hb').mp z; omega), lI_mod ha hb']
  intro j
  induction j with
  | zero =>
    intro a b fuel hb ha hb' hf
    obtain ⟨g, rfl⟩ : ∃ g, fuel = g + 1 := ⟨fuel - 1, by omega⟩
    obtain rfl : b = 0 := by omega
    rw [zlp_s, h0 a _]
  | succ j ih =>
    intro a b fuel hb ha hb' hf
    obtain ⟨g, rfl⟩ : ∃ g, fuel = g + 1 := ⟨fuel - 1, by omega⟩
    by_cases hz : b = 0
    · subst hz
      rw [zlp_s, h0 a _]
    · rw [zlp_s, h1 a b _ (by omega) ha hb']
      have hr : a % b < b := Nat.mod_lt _ (by omega)
      obtain ⟨g, rfl⟩ : ∃ g', g = g' + 1 := ⟨g - 1, by omega⟩
      by_cases hz2 : a % b = 0
      · rw [zlp_s, hz2, h0 b _, ← hz2, gcd_mod]
      · have hm := mod2 (a := a) (b := b) (by omega)
        rw [zlp_s, h1 b (a % b) _ (by omega) hb' (by omega), ih (a % b) (b % (a % b)) g (by rw [Nat.pow_succ] at hb; omega) (by omega) (by omega) (by omega), gcd_mod, gcd_mod]
/-- a fraction is told -/
def sFr (u l : Nat) (s : zSt) : zSt := ((sLw s, s.1.2.1, s.1.2.2.1, lI u / lI (Nat.gcd u l), lI l / lI (Nat.gcd u l), s.1.2.2.2.2.2), s.2)
theorem X_tell {u l : Nat} (hu : u < 1025) (hl : l < 1025) (hl0 : 0 < l) (hX : XS s k m) : ∃ k', dn_X4_tellFraction 2 (lI u) (lI l) (Z k m) = some ((), Z k' m) ∧ XS (sFr u l s) k' m ∧ zfX k m k' m := by
  have hg : 0 < Nat.gcd u l := Nat.gcd_pos_of_pos_right u hl0
  have hgl : Nat.gcd u l ≤ l := Nat.gcd_le_right u hl0
  obtain ⟨⟨a1, a2, a3, a4, a5, a6⟩, hW, hT, hG, hR, hK, hC⟩ := hX
  refine ⟨kml (kml k 0 (lI u / lI (Nat.gcd u l))) 1 (lI l / lI (Nat.gcd u l)), ?_, ⟨⟨a1, a2, a3, rfl, rfl, a6⟩, hW, hT, hG, hR, hK, hC⟩, fun _ _ => rfl, rfl, fun i hi => ?_, Nat.le_refl _, by show kN k ≤ kN k + 1; omega, by show kS k ≤ kS k + 3; omega⟩
  · have hl1 := X_tf9 (v1 := lI u) (v3 := lI l) (h := Z k m) 11 u l 0 2000 (by omega) (by omega) (by omega) (by omega) (by omega)
    have hl1' : lp_X4_tellFraction_9 2 (lI u) (lI l) (lI u, lI l, 0) (Z k m) = _ := hl1
    have hne : ¬ lI (Nat.gcd u l) = 0 := fun z => by have := (lI_eq0 (by omega)).mp z; omega
    unfold dn_X4_tellFraction
    rw [ZO_4 s2, Option.bind_some, hl1']
    unfold jn_X4_tellFraction_44 jn_X4_tellFraction_67
    rw [if_pos ((cmp1 (by omega)).mpr hg), if_neg hne, ZW_4_9 s2, Option.bind_some, if_neg hne, ZW_4_10 s2, Option.bind_some]
  · simp only [kml]
    rw [if_neg (by omega), if_neg (by omega)]
theorem M_tell {u l : Nat} {a : Int32} (hu : u < 1025) (hl : l < 1025) (hl0 : 0 < l) (hM : MS s k m) : ∃ k', dn_X5_fraction 81 (lI u) (lI l) a (Z k m) = some (a, Z k' m) ∧ MS (sFr u l s) k' m ∧ zfM k m k' m := by
  have hg : 0 < Nat.gcd u l := Nat.gcd_pos_of_pos_right u hl0
  have hgl : Nat.gcd u l ≤ l := Nat.gcd_le_right u hl0
  obtain ⟨⟨a1, a2, a3, a4, a5, a6⟩, hW, hT, hG, hR, hK⟩ := hM
  refine ⟨kml (kml k 2 (lI u / lI (Nat.gcd u l))) 3 (lI l / lI (Nat.gcd u l)), ?_, ⟨⟨a1, a2, a3, rfl, rfl, a6⟩, hW, hT, hG, hR, hK⟩, fun _ _ => rfl, rfl, rfl, rfl, rfl⟩
  have hl1 := M_fr6 (v1 := lI u) (v3 := lI l) (v5 := a) (h := Z k m) 11 u l 2000 (by omega) (by omega) (by omega) (by omega)
  have hl1' : lp_X5_fraction_6 81 (lI u) (lI l) a (lI u, lI l) (Z k m) = _ := hl1
  have hne : ¬ lI (Nat.gcd u l) = 0 := fun z => by have := (lI_eq0 (by omega)).mp z; omega
  unfold dn_X5_fraction
  rw [ZO_5 s81, Option.bind_some, hl1']
  unfold jn_X5_fraction_31
  rw [if_neg hne, ZW_5_3 s81, Option.bind_some, if_neg hne, ZW_5_4 s81, Option.bind_some]
/-! best, free -/
theorem XS.tc (h : XS s k m) (hf : ∀ a, (a < 26 ∨ 32 < a) → a ≠ 35 → m' a = m a) (h35 : ∀ x, x < 5 → m' 35 x = -1) : XS s k m' := h.sc (fun a h1 h2 h3 => hf a (by omega) (by omega)) h35
noncomputable def grS (s : zSt) (x kk code : Nat) : Nat := rkS (sH s) (ch1 s x kk code) x + (if rHd (ch1 s x kk code) = x then 10 else 0)
noncomputable def bsL (s : zSt) (x kk : Nat) : Nat → Nat × Nat
  | 0 => (0, 20)
  | n + 1 => if grS s x kk n < (bsL s x kk n).2 then (n, grS s x kk n) else bsL s x kk n
theorem grS_le {x kk code : Nat} (hN5 : hN (sH s) ≤ 5) : 1 ≤ grS s x kk code ∧ grS s x kk code ≤ 16 ∧ (rHd (ch1 s x kk code) = x → 11 ≤ grS s x kk code) ∧ (¬ rHd (ch1 s x kk code) = x → grS s x kk code ≤ 6) := by
  have := rkS_le (R := ch1 s x kk code) (x := x) hN5
  unfold grS
  by_cases h : rHd (ch1 s x kk code) = x
  · rw [if_pos h]; exact ⟨by omega, by omega, fun _ => by omega, fun z => absurd h z⟩
  · rw [if_neg h]; exact ⟨by omega, by omega, fun z => absurd z h, fun _ => by omega⟩
theorem bsL_le {x kk : Nat} (hN5 : hN (sH s) ≤ 5) : ∀ n, (bsL s x kk n).1 ≤ n ∧ (n = 0 ∨ ((bsL s x kk n).2 ≤ 16 ∧ 1 ≤ (bsL s x kk n).2 ∧ ((bsL s x kk n).2 ≤ 6 ∨ 11 ≤ (bsL s x kk n).2))) := by
  intro n
  induction n with
  | zero => exact ⟨Nat.le_refl _, Or.inl rfl⟩
  | succ n ih =>
    have hg := grS_le (s := s) (x := x) (kk := kk) (code := n) hN5
    by_cases h : grS s x kk n < (bsL s x kk n).2
    · rw [show bsL s x kk (n + 1) = (n, grS s x kk n) from if_pos h]
      refine ⟨by show n ≤ n + 1; omega, Or.inr ⟨hg.2.1, hg.1, ?_⟩⟩
      by_cases hc : rHd (ch1 s x kk n) = x
      · exact Or.inr (hg.2.2.1 hc)
      · exact Or.inl (hg.2.2.2 hc)
    · rw [show bsL s x kk (n + 1) = bsL s x kk n from if_neg h]
      obtain ⟨h1, h2⟩ := ih
      refine ⟨by omega, ?_⟩
      rcases h2 with h2 | h2
      · subst h2
        exact absurd (show grS s x kk 0 < 20 by omega) h
      · exact Or.inr h2
def fnS (g : Nat) : Nat := if 10 < g then 10 * (g - 10) + 1 else 10 * g
noncomputable def g_best (x r : Int32) (s : zSt) : Int32 × zSt := match ix x (hN (sH s)) with
  | none => (-1, s)
  | some x => match ir r 1 4 with
    | none => (-1, s)
    | some kk => (nI (bsL s x kk (4 ^ kk)).1, sAk (nI (fnS (bsL s x kk (4 ^ kk)).2)) s)
theorem pow4_le {kk : Nat} (h : kk ≤ 4) : 4 ^ kk ≤ 256 ∧ 1 ≤ 4 ^ kk := ⟨Nat.le_trans (Nat.pow_le_pow_right (by omega) h) (by decide), Nat.one_le_pow _ _ (by omega)⟩
theorem x_best (x r : Int32) : okX (dn_X4_best 2 x r) (g_best x r) := by
  intro s k m hO hX hk
  have hOH := hO.2.2.2.1.1
  have hN5 := hOH.2.1
  unfold dn_X4_best g_best jn_X4_best_18
  rw [ZO_4 s2, Option.bind_some, X_isRunner hN5 hX, zbd_s]
  rcases ix_c x (hN (sH s)) (by omega) with ⟨x, hx, rfl, e⟩ | ⟨e, -⟩
  · rw [e, ifSo, ifb1]
    dsimp only
    rcases ir_c r 1 4 (by omega) (by omega) with ⟨kk, k1, k2, rfl, e'⟩ | ⟨e', h0 | ⟨h0, h1⟩⟩
    · have hp := pow4_le k2
      rw [e', if_neg (fun z => by have := (nL_1 (by omega)).mp z; omega), jf_4 (by omega), X_pow4 (by omega), zbd_s]
      dsimp only
      refine lp_inv (N := 4 ^ kk) (I := fun c t h => ∃ m2, t = (nI (bsL s x kk c).1, nI (bsL s x kk c).2, nI c) ∧ h = Z k m2 ∧ XS s k m2 ∧ zfX k m k m2) (Q := fun r => ∃ k' m', r = some (nI (bsL s x kk (4 ^ kk)).1, Z k' m') ∧ XS (sAk (nI (fnS (bsL s x kk (4 ^ kk)).2)) s) k' m' ∧ zfX k m k' m') ?_ ?_ (4 ^ kk) 0 2000 _ (Z k m) (by omega) (by omega) ⟨m, rfl, rfl, hX, zfX.rf⟩
      · rintro c t h hc ⟨m2, rfl, rfl, h1, h2⟩
        left
        obtain ⟨m3, r1, r2, r3, r4⟩ := X_try1 (code := c) hO h1 hx k2 (by omega)
        have hg := grS_le (s := s) (x := x) (kk := kk) (code := c) hN5
        have hb := (bsL_le (s := s) (x := x) (kk := kk) hN5 c)
        have hh := rHd_le hN5 (ch1_ok (x := x) (kk := kk) (code := c) hO)
        have hb20 : (bsL s x kk c).2 ≤ 20 := by
          rcases hb.2 with z | z
          · subst z; exact Nat.le_refl _
          · omega
        refine ⟨(nI (bsL s x kk (c + 1)).1, nI (bsL s x kk (c + 1)).2, nI (c + 1)), Z k m3, ⟨m3, rfl, rfl, h1.tc r3 r4, h2.tr0 fun a ha => r3 a (by omega) (by omega)⟩, fun rec => ?_⟩
        have hfin : ∀ w0 w1 : Int32, w0 + w1 = nI (grS s x kk c) → jn_X4_best_75 rec 2 (nI x) (nI kk) (nI (4 ^ kk)) (nI (bsL s x kk c).1) (nI (bsL s x kk c).2) (nI c) w0 w1 (Z k m3) = rec (nI (bsL s x kk (c + 1)).1, nI (bsL s x kk (c + 1)).2, nI (c + 1)) (Z k m3) := by
          intro w0 w1 hw
          unfold jn_X4_best_75 jn_X4_best_93
          rw [hw, nA_1]
          by_cases hlt : grS s x kk c < (bsL s x kk c).2
          · rw [ifLt hlt (by omega), show bsL s x kk (c + 1) = (c, grS s x kk c) from if_pos hlt]
          · rw [ifLf (by omega) (by omega), show bsL s x kk (c + 1) = bsL s x kk c from if_neg hlt]
        unfold lb_X4_best_35
        dsimp only
        rw [ifLt hc (by omega), r1, zbd_s, ZA_4_5 s2, Option.bind_some, X_rankOf hN5 r2 (ch1_ok hO) hx, zbd_s, ZA_4_5 s2, Option.bind_some, ZI_1_3 rfl, Option.bind_some, r2.2.2.2.2.1]
        by_cases hhx : rHd (ch1 s x kk c) = x
        · rw [ifEt hhx]
          exact hfin _ _ (by unfold grS; rw [if_pos hhx, nA_10])
        · rw [ifEf hhx (by omega) (by omega)]
          exact hfin _ _ (by unfold grS; rw [if_neg hhx, Int32.add_zero, Nat.add_zero])
      · rintro t h ⟨m2, rfl, rfl, h1, h2⟩ rec
        have hb := (bsL_le (s := s) (x := x) (kk := kk) hN5 (4 ^ kk))
        have hb2 : (bsL s x kk (4 ^ kk)).2 ≤ 16 := by
          rcases hb.2 with z | z <;> omega
        obtain ⟨x1, x2⟩ := h1.ak (nI (fnS (bsL s x kk (4 ^ kk)).2))
        refine ⟨k, _, ?_, x1, h2.tr0 x2.1⟩
        unfold lb_X4_best_35 jn_X4_best_99 jn_X4_best_125
        dsimp only
        rw [ifLf (Nat.le_refl _) (by omega)]
        unfold fnS
        by_cases h10 : 10 < (bsL s x kk (4 ^ kk)).2
        · rw [jt_10 h10 (by omega), if_pos h10, show nI (bsL s x kk (4 ^ kk)).2 - 10 = nI ((bsL s x kk (4 ^ kk)).2 - 10) from pk_sub (b := 10) (by omega), nM_10, nA_1, ZP_4_8 s2, Option.bind_some]
        · rw [jf_10 h10, if_neg h10, nM_10, ZP_4_8 s2, Option.bind_some]
    · rw [e']
      have h0' : r < 1 := h0
      exact ⟨k, m, by rw [if_pos h0'], hX, zfX.rf⟩
    · rw [e']
      have h0' : ¬ r < 1 := h0
      have h1' : 4 < r := h1
      exact ⟨k, m, by rw [if_neg h0', if_pos h1'], hX, zfX.rf⟩
  · rw [e]
    exact ⟨k, m, by rw [ifNo, ifb0], hX, zfX.rf⟩
end
