def dg (code p : Nat) : Nat := code / 4 ^ p % 4
theorem dg_le (code p : Nat) : dg code p ≤ 3 := by unfold dg; omega
theorem fig_all : ∀ p, p < 5 → ∀ c, c < 1024 → ((nI c >>> ((2 * nI p) &&& 31)) &&& 3) = nI (dg c p) := by decide +kernel
theorem pow4_all : ∀ p, p < 6 → ((1 : Int32) <<< ((2 * nI p) &&& 31)) = nI (4 ^ p) := by decide +kernel
theorem nD4 {a : Nat} (ha : a < 2 ^ 31) : nI a / 4 = nI (a / 4) := nDiv (d := 4) ha (by omega) (by omega)
theorem nR4 {a : Nat} (ha : a < 2 ^ 31) : nI a % 4 = nI (a % 4) := nMod (d := 4) ha (by omega) (by omega)
section
variable {k k' : zK} {m m' : Nat → Nat → Int32} {s : zSt} {c : Nat} {H : zHD} {R : zRS}
theorem X_fig {c p : Nat} {h : zAH} (hp : p < 5) (hc : c < 1024) : dn_X4_figureOf (nI c) (nI p) h = some (nI (dg c p), h) := by
  unfold dn_X4_figureOf
  rw [fig_all p hp c hc]
theorem X_pow4 {p : Nat} {h : zAH} (hp : p < 6) : dn_X4_powerOfFour (nI p) h = some (nI (4 ^ p), h) := by
  unfold dn_X4_powerOfFour
  rw [pow4_all p hp]
theorem M_pow {b p : Nat} {h : zAH} (hp : p < 2 ^ 31) (hp2 : p < 2000) : dn_X5_powerOf (nI b) (nI p) h = some (nI (b ^ p), h) := by
  unfold dn_X5_powerOf lp_X5_powerOf_4
  refine lp_fn (N := p) (fun x => (nI (b ^ x), nI x)) (fun _ => h) (fun x hx rec => ?_) (fun rec => ?_) hp2
  · unfold lb_X5_powerOf_4
    dsimp only
    rw [ifLt hx hp, nA_1, pk_mul, Nat.pow_succ]
  · unfold lb_X5_powerOf_4 jn_X5_powerOf_19
    dsimp only
    rw [ifLf (Nat.le_refl _) hp]
/-- PACES with choices: who chooses, what -/
def chW (H : zHD) (st0 kk : Nat) (b : Nat → Bool) (d : Nat → Nat → Nat) (st x : Nat) : Nat := if b x = true ∧ st0 ≤ st ∧ st < st0 + kk then d x (st - st0) else plW H st x
theorem chW_le {st0 kk : Nat} {b : Nat → Bool} {d : Nat → Nat → Nat} (hO : okH H) (hd : ∀ x i, d x i ≤ 3) (st : Nat) : ∀ x, x < hN H → chW H st0 kk b d st x ≤ 3 := by
  intro x hx
  unfold chW
  split
  · exact hd _ _
  · exact plW_le hO st x hx
theorem runS_fuel {lw : Nat} {wf : Nat → Nat → Nat} (hO : okH H) (hw : ∀ st x, x < hN H → wf st x ≤ 3) : ∀ n n' R, okR H R → 60 ≤ n + rSt R → 60 ≤ n' + rSt R → runS H lw wf n R = runS H lw wf n' R := by
  intro n
  induction n with
  | zero =>
    intro n' R hok h1 h2
    have hov : ovS H R := Or.inl (by show 60 ≤ rSt R; omega)
    cases n' with
    | zero => rfl
    | succ n' => rw [show runS H lw wf (n' + 1) R = R from if_pos hov]; rfl
  | succ n ih =>
    intro n' R hok h1 h2
    by_cases h : ovS H R
    · rw [show runS H lw wf (n + 1) R = R from if_pos h]
      cases n' with
      | zero => rfl
      | succ n' => rw [show runS H lw wf (n' + 1) R = R from if_pos h]
    · have hst : rSt R < 60 := by unfold ovS at h; omega
      obtain ⟨n', rfl⟩ : ∃ p, n' = p + 1 := ⟨n' - 1, by omega⟩
      rw [show runS H lw wf (n + 1) R = runS H lw wf n (stepS H lw (wf (rSt R)) R) from if_neg h, show runS H lw wf (n' + 1) R = runS H lw wf n' (stepS H lw (wf (rSt R)) R) from if_neg h]
      have hs := stepS_st (lw := lw) hO hok (hw (rSt R))
      exact ih n' _ (okR_step hO hok (hw _) hst) (by rw [hs]; omega) (by rw [hs]; omega)
theorem runS_cg {lw : Nat} {wf wf' : Nat → Nat → Nat} (hO : okH H) (hw : ∀ st x, x < hN H → wf st x ≤ 3) : ∀ n R, okR H R → (∀ st, rSt R ≤ st → wf st = wf' st) → runS H lw wf n R = runS H lw wf' n R := by
  intro n
  induction n with
  | zero => intro R _ _; rfl
  | succ n ih =>
    intro R hok he
    by_cases h : ovS H R
    · rw [show runS H lw wf (n + 1) R = R from if_pos h, show runS H lw wf' (n + 1) R = R from if_pos h]
    · have hst : rSt R < 60 := by unfold ovS at h; omega
      have hs := stepS_st (lw := lw) hO hok (hw (rSt R))
      rw [show runS H lw wf (n + 1) R = runS H lw wf n (stepS H lw (wf (rSt R)) R) from if_neg h, show runS H lw wf' (n + 1) R = runS H lw wf' n (stepS H lw (wf' (rSt R)) R) from if_neg h, ← he _ (Nat.le_refl _)]
      exact ih _ (okR_step hO hok (hw _) hst) fun st h1 => he st (by rw [hs] at h1; omega)
def d1 (kk code : Nat) (_ i : Nat) : Nat := dg code (kk - 1 - i)
def b1 (x : Nat) (z : Nat) : Bool := decide (z = x)
def d2 (x kk code : Nat) (z i : Nat) : Nat := if z = x then dg code (2 * kk - 1 - 2 * i) else dg code (2 * kk - 2 - 2 * i)
def b2 (x y : Nat) (z : Nat) : Bool := decide (z = x ∨ z = y)
/-- the RACE gone on by a row of PACES of one, of two -/
noncomputable def ch1 (s : zSt) (x kk code : Nat) : zRS := runS (sH s) (sLw s) (chW (sH s) (rSt (sR s)) kk (b1 x) (d1 kk code)) 60 (sR s)
noncomputable def ch2 (s : zSt) (x y kk code : Nat) : zRS := runS (sH s) (sLw s) (chW (sH s) (rSt (sR s)) kk (b2 x y) (d2 x kk code)) 60 (sR s)
theorem d1_le {kk code : Nat} : ∀ x i, d1 kk code x i ≤ 3 := fun _ _ => dg_le _ _
theorem d2_le {x kk code : Nat} : ∀ z i, d2 x kk code z i ≤ 3 := fun z i => by unfold d2; split <;> exact dg_le _ _
theorem ch1_ok {x kk code : Nat} (hO : okS s) : okR (sH s) (ch1 s x kk code) := runS_ok hO.2.2.2.1.1 (chW_le hO.2.2.2.1.1 d1_le) 60 _ hO.2.2.2.2.2.1
theorem ch2_ok {x y kk code : Nat} (hO : okS s) : okR (sH s) (ch2 s x y kk code) := runS_ok hO.2.2.2.1.1 (chW_le hO.2.2.2.1.1 d2_le) 60 _ hO.2.2.2.2.2.1
/-! the class tries -/
theorem X_tryEnd {wf : Nat → Nat → Nat} (hO : okS s) (hw : ∀ st x, x < hN (sH s) → wf st x ≤ 3) {R : zRS} {m0 : Nat → Nat → Int32} (hX : XS s k m0) (hok : okR (sH s) R) (hE : encX 26 (sH s) R m) (hf : ∀ a, (a < 26 ∨ 32 < a) → a ≠ 35 → m a = m0 a) (h35 : ∀ x, x < 5 → m 35 x = -1) (hend : ovS (sH s) R ∨ ∀ st, rSt R ≤ st → wf st = plW (sH s) st) : ∃ m', jn_X4_tryChoices_125 2 (Z k m) = some ((), Z k m') ∧ encX 26 (sH s) (runS (sH s) (sLw s) wf 60 R) m' ∧ (∀ a, (a < 26 ∨ 32 < a) → a ≠ 35 → m' a = m0 a) ∧ ∀ x, x < 5 → m' 35 x = -1 := by
  have hOH := hO.2.2.2.1.1
  have hG := hX.2.2.2.1
  have hkc := hG.1
  have hH : encH (kC k) (sH s) m := encH_cg hG.2.1 fun a h1 h2 => hf a (by omega) (by omega)
  have h27 : m 2 7 = nI (sLw s) := by rw [hf 2 (by omega) (by omega)]; exact hX.1.1
  obtain ⟨m', q1, q2, q3, q4, q5⟩ := X_runOut (k := k) hOH hO.1 hok hH (fun x hx => h35 x (by have := hOH.2.1; omega)) hE
  have e : runS (sH s) (sLw s) wf 60 R = runS (sH s) (sLw s) (plW (sH s)) 60 R := by
    rcases hend with h | h
    · rw [show runS (sH s) (sLw s) wf 60 R = R from if_pos h, show runS (sH s) (sLw s) (plW (sH s)) 60 R = R from if_pos h]
    · exact runS_cg hOH hw 60 R hok h
  refine ⟨m', ?_, by rw [e]; exact q2, fun a h1 h2 => by rw [q5 a (by omega)]; exact hf a h1 h2, fun x hx => by rw [q5 35 (by omega)]; exact h35 x hx⟩
  unfold jn_X4_tryChoices_125
  rw [ZA_4_5 s2, Option.bind_some, ZA_4_2 s2, Option.bind_some, ZI_4_7 s2, Option.bind_some, h27, ZA_4_13 s2, Option.bind_some, q1, zbd_s]
theorem X_try1 {x kk code : Nat} (hO : okS s) (hX : XS s k m) (hx : x < hN (sH s)) (hkk : kk ≤ 4) (hc : code < 1024) : ∃ m', dn_X4_tryChoices 2 (nI x) (-1) (nI kk) (nI code) (Z k m) = some ((), Z k m') ∧ encX 26 (sH s) (ch1 s x kk code) m' ∧ (∀ a, (a < 26 ∨ 32 < a) → a ≠ 35 → m' a = m a) ∧ ∀ x, x < 5 → m' 35 x = -1 := by
  have hOH := hO.2.2.2.1.1
  have hN5 := hOH.2.1
  have hG := hX.2.2.2.1
  have hkc := hG.1
  have hle := chW_le (st0 := rSt (sR s)) (kk := kk) (b := b1 x) (d := d1 kk code) hOH d1_le
  obtain ⟨m1, r1, r2, r3⟩ := X_becomeLike (k := k) (a := 26) hN5 rfl (show 26 ≠ 19 by omega) hX.2.2.2.2.1
  unfold dn_X4_tryChoices jn_X4_tryChoices_23
  rw [ZO_4 s2, Option.bind_some, ZA_4_5 s2, Option.bind_some, ZA_4_4 s2, Option.bind_some, r1, zbd_s, if_pos rfl]
  have hreset : ∀ m2 : Nat → Nat → Int32, (∀ z, z < 5 → z ≠ x → m2 35 z = -1) → ∀ z, z < 5 → mu m2 35 x (-1) 35 z = -1 := by
    intro m2 h z hz
    by_cases hzx : z = x
    · subst hzx; rw [mu_s]
    · rw [mu_j _ _ hzx]; exact h z hz hzx
  refine lp_inv (N := kk) (I := fun i t h => ∃ m2 R2, t = (nI (kk - i), nI i) ∧ h = Z k m2 ∧ encX 26 (sH s) R2 m2 ∧ okR (sH s) R2 ∧ rSt R2 = rSt (sR s) + i ∧ runS (sH s) (sLw s) (chW (sH s) (rSt (sR s)) kk (b1 x) (d1 kk code)) 60 R2 = ch1 s x kk code ∧ (∀ a, (a < 26 ∨ 32 < a) → a ≠ 35 → m2 a = m a) ∧ ∀ z, z < 5 → z ≠ x → m2 35 z = -1) (Q := fun r => ∃ m', r = some ((), Z k m') ∧ encX 26 (sH s) (ch1 s x kk code) m' ∧ (∀ a, (a < 26 ∨ 32 < a) → a ≠ 35 → m' a = m a) ∧ ∀ x, x < 5 → m' 35 x = -1) ?_ ?_ kk 0 2000 (nI kk, 0) (Z k m1) (by omega) (by omega) ⟨m1, sR s, rfl, rfl, r2, hO.2.2.2.2.2.1, rfl, rfl, fun a h1 h2 => r3 a (by omega), fun z hz _ => by rw [r3 35 (by omega)]; exact hX.2.2.2.2.2.2 z hz⟩
  · rintro i t h hi ⟨m2, R2, rfl, rfl, hE, hok, hst, hrun, hf, h35⟩
    have hov := X_isOver (k := k) hN5 hok hE
    by_cases hend : ovS (sH s) R2
    · right
      intro rec
      obtain ⟨m', q1, q2, q3, q4⟩ := X_tryEnd (m := mu m2 35 x (-1)) (m0 := m) (wf := chW (sH s) (rSt (sR s)) kk (b1 x) (d1 kk code)) hO hle hX hok (encX_cg hE fun a h1 h2 => mu_ar _ _ _ (by omega)) (fun a h1 h2 => by rw [mu_ar _ _ _ h2]; exact hf a h1 h2) (hreset m2 h35) (Or.inl hend)
      refine ⟨m', ?_, by rw [← hrun]; exact q2, q3, q4⟩
      unfold lb_X4_tryChoices_28 jn_X4_tryChoices_106
      dsimp only
      rw [ifLt hi (by omega), ZA_4_5 s2, Option.bind_some, hov.1 hend, zbd_s, ifb1, ZA_4_13 s2, Option.bind_some, Ms_35 (by omega), Option.bind_some, if_pos rfl, q1]
    · left
      have hst60 : rSt R2 < 60 := by unfold ovS at hend; omega
      have hH : encH (kC k) (sH s) m2 := encH_cg hG.2.1 fun a h1 h2 => hf a (by omega) (by omega)
      have h27 : m2 2 7 = nI (sLw s) := by rw [hf 2 (by omega) (by omega)]; exact hX.1.1
      have hE3 : encX 26 (sH s) R2 (mu m2 35 x (nI (dg code (kk - i - 1)))) := encX_cg hE fun a h1 h2 => mu_ar _ _ _ (by omega)
      have hwf : wfX (sH s) (rSt R2) (chW (sH s) (rSt (sR s)) kk (b1 x) (d1 kk code) (rSt R2)) (mu m2 35 x (nI (dg code (kk - i - 1)))) := by
        intro z hz
        by_cases hzx : z = x
        · right
          have e : chW (sH s) (rSt (sR s)) kk (b1 x) (d1 kk code) (rSt R2) z = dg code (kk - i - 1) := by
            unfold chW b1 d1
            rw [if_pos ⟨by simp [hzx], by omega, by omega⟩]
            congr 1
            omega
          rw [e]
          exact ⟨by rw [hzx, mu_s], dg_le _ _⟩
        · left
          refine ⟨by rw [mu_j _ _ hzx]; exact h35 z (by omega) hzx, ?_⟩
          unfold chW b1
          rw [if_neg (fun q => hzx (by simpa using q.1))]
          rfl
      obtain ⟨m3, r1, r2, r3⟩ := X_takeStep (k := k) (m := mu m2 35 x (nI (dg code (kk - i - 1)))) hOH hok hO.1 (encH_cg hH fun a h1 h2 => mu_ar _ _ _ (by omega)) hwf hE3
      have hs := stepS_st (lw := sLw s) hOH hok (hle (rSt R2))
      have hok' := okR_step (lw := sLw s) hOH hok (hle (rSt R2)) hst60
      refine ⟨(nI (kk - (i + 1)), nI (i + 1)), Z k m3, ⟨m3, _, rfl, rfl, r2, hok', by rw [hs]; omega, ?_, fun a h1 h2 => by rw [r3 a (by omega), mu_ar _ _ _ h2]; exact hf a h1 h2, fun z hz hzx => by rw [r3 35 (by omega), mu_j _ _ hzx]; exact h35 z hz hzx⟩, fun rec => ?_⟩
      · rw [← hrun, show runS (sH s) (sLw s) (chW (sH s) (rSt (sR s)) kk (b1 x) (d1 kk code)) 60 R2 = runS (sH s) (sLw s) (chW (sH s) (rSt (sR s)) kk (b1 x) (d1 kk code)) 59 (stepS (sH s) (sLw s) (chW (sH s) (rSt (sR s)) kk (b1 x) (d1 kk code) (rSt R2)) R2) from if_neg hend]
        exact runS_fuel hOH hle 60 59 _ hok' (by omega) (by rw [hs]; omega)
      · have e1 : nI (kk - i) + (-1) = nI (kk - i - 1) := by
          obtain ⟨q, hq⟩ : ∃ q, kk - i = q + 1 := ⟨kk - i - 1, by omega⟩
          rw [hq]; exact nDec
        unfold lb_X4_tryChoices_28 jn_X4_tryChoices_81
        dsimp only
        rw [ifLt hi (by omega), ZA_4_5 s2, Option.bind_some, hov.2 hend, zbd_s, ifb0, ZA_4_13 s2, Option.bind_some, e1, X_fig (by omega) hc, zbd_s, Ms_35 (by omega), Option.bind_some, if_pos rfl, ZA_4_5 s2, Option.bind_some, ZA_4_2 s2, Option.bind_some, ZI_4_7 s2, Option.bind_some, mu_ar _ _ _ (by omega), h27, ZA_4_13 s2, Option.bind_some, r1, zbd_s, nA_1, show kk - i - 1 = kk - (i + 1) by omega]
  · rintro t h ⟨m2, R2, rfl, rfl, hE, hok, hst, hrun, hf, h35⟩ rec
    obtain ⟨m', q1, q2, q3, q4⟩ := X_tryEnd (m := mu m2 35 x (-1)) (m0 := m) (wf := chW (sH s) (rSt (sR s)) kk (b1 x) (d1 kk code)) hO hle hX hok (encX_cg hE fun a h1 h2 => mu_ar _ _ _ (by omega)) (fun a h1 h2 => by rw [mu_ar _ _ _ h2]; exact hf a h1 h2) (hreset m2 h35) (Or.inr fun st h1 => by funext z; unfold chW; rw [if_neg (by omega)])
    refine ⟨m', ?_, by rw [← hrun]; exact q2, q3, q4⟩
    unfold lb_X4_tryChoices_28 jn_X4_tryChoices_106
    dsimp only
    rw [ifLf (Nat.le_refl _) (by omega), ZA_4_13 s2, Option.bind_some, Ms_35 (by omega), Option.bind_some, if_pos rfl, q1]
theorem X_try2 {x y kk code : Nat} (hO : okS s) (hX : XS s k m) (hx : x < hN (sH s)) (hy : y < hN (sH s)) (hxy : x ≠ y) (hkk : kk ≤ 2) (hc : code < 1024) : ∃ m', dn_X4_tryChoices 2 (nI x) (nI y) (nI kk) (nI code) (Z k m) = some ((), Z k m') ∧ encX 26 (sH s) (ch2 s x y kk code) m' ∧ (∀ a, (a < 26 ∨ 32 < a) → a ≠ 35 → m' a = m a) ∧ ∀ x, x < 5 → m' 35 x = -1 := by
  have hOH := hO.2.2.2.1.1
  have hN5 := hOH.2.1
  have hG := hX.2.2.2.1
  have hkc := hG.1
  have hle := chW_le (st0 := rSt (sR s)) (kk := kk) (b := b2 x y) (d := d2 x kk code) hOH d2_le
  have hym : ¬ nI y = (-1 : Int32) := fun z => (nm1 (by omega)).mp z
  obtain ⟨m1, r1, r2, r3⟩ := X_becomeLike (k := k) (a := 26) hN5 rfl (show 26 ≠ 19 by omega) hX.2.2.2.2.1
  unfold dn_X4_tryChoices jn_X4_tryChoices_23
  rw [ZO_4 s2, Option.bind_some, ZA_4_5 s2, Option.bind_some, ZA_4_4 s2, Option.bind_some, r1, zbd_s, if_neg hym, nM_2]
  have hreset : ∀ m2 : Nat → Nat → Int32, (∀ z, z < 5 → z ≠ x → z ≠ y → m2 35 z = -1) → ∀ z, z < 5 → mu (mu m2 35 x (-1)) 35 y (-1) 35 z = -1 := by
    intro m2 h z hz
    by_cases hzy : z = y
    · subst hzy; rw [mu_s]
    · rw [mu_j _ _ hzy]
      by_cases hzx : z = x
      · subst hzx; rw [mu_s]
      · rw [mu_j _ _ hzx]; exact h z hz hzx hzy
  refine lp_inv (N := kk) (I := fun i t h => ∃ m2 R2, t = (nI (2 * kk - 2 * i), nI i) ∧ h = Z k m2 ∧ encX 26 (sH s) R2 m2 ∧ okR (sH s) R2 ∧ rSt R2 = rSt (sR s) + i ∧ runS (sH s) (sLw s) (chW (sH s) (rSt (sR s)) kk (b2 x y) (d2 x kk code)) 60 R2 = ch2 s x y kk code ∧ (∀ a, (a < 26 ∨ 32 < a) → a ≠ 35 → m2 a = m a) ∧ ∀ z, z < 5 → z ≠ x → z ≠ y → m2 35 z = -1) (Q := fun r => ∃ m', r = some ((), Z k m') ∧ encX 26 (sH s) (ch2 s x y kk code) m' ∧ (∀ a, (a < 26 ∨ 32 < a) → a ≠ 35 → m' a = m a) ∧ ∀ x, x < 5 → m' 35 x = -1) ?_ ?_ kk 0 2000 (nI (2 * kk), 0) (Z k m1) (by omega) (by omega) ⟨m1, sR s, rfl, rfl, r2, hO.2.2.2.2.2.1, rfl, rfl, fun a h1 h2 => r3 a (by omega), fun z hz _ _ => by rw [r3 35 (by omega)]; exact hX.2.2.2.2.2.2 z hz⟩
  · rintro i t h hi ⟨m2, R2, rfl, rfl, hE, hok, hst, hrun, hf, h35⟩
    have hov := X_isOver (k := k) hN5 hok hE
    by_cases hend : ovS (sH s) R2
    · right
      intro rec
      obtain ⟨m', q1, q2, q3, q4⟩ := X_tryEnd (m := mu (mu m2 35 x (-1)) 35 y (-1)) (m0 := m) (wf := chW (sH s) (rSt (sR s)) kk (b2 x y) (d2 x kk code)) hO hle hX hok (encX_cg hE fun a h1 h2 => by rw [mu_ar _ _ _ (by omega), mu_ar _ _ _ (by omega)]) (fun a h1 h2 => by rw [mu_ar _ _ _ h2, mu_ar _ _ _ h2]; exact hf a h1 h2) (hreset m2 h35) (Or.inl hend)
      refine ⟨m', ?_, by rw [← hrun]; exact q2, q3, q4⟩
      unfold lb_X4_tryChoices_28 jn_X4_tryChoices_106
      dsimp only
      rw [ifLt hi (by omega), ZA_4_5 s2, Option.bind_some, hov.1 hend, zbd_s, ifb1, ZA_4_13 s2, Option.bind_some, Ms_35 (by omega), Option.bind_some, if_neg hym, ZA_4_13 s2, Option.bind_some, Ms_35 (by omega), Option.bind_some, q1]
    · left
      have hst60 : rSt R2 < 60 := by unfold ovS at hend; omega
      have hH : encH (kC k) (sH s) m2 := encH_cg hG.2.1 fun a h1 h2 => hf a (by omega) (by omega)
      have h27 : m2 2 7 = nI (sLw s) := by rw [hf 2 (by omega) (by omega)]; exact hX.1.1
      generalize hm3 : mu (mu m2 35 x (nI (dg code (2 * kk - 2 * i - 1)))) 35 y (nI (dg code (2 * kk - 2 * i - 2))) = m3
      have f3 : ∀ a, a ≠ 35 → m3 a = m2 a := fun a ha => by rw [← hm3, mu_ar _ _ _ ha, mu_ar _ _ _ ha]
      have g3 : ∀ z, m3 35 z = if z = y then nI (dg code (2 * kk - 2 * i - 2)) else if z = x then nI (dg code (2 * kk - 2 * i - 1)) else m2 35 z := fun z => by rw [← hm3]; simp [mu, upd]
      have hE3 : encX 26 (sH s) R2 m3 := encX_cg hE fun a h1 h2 => f3 a (by omega)
      have hwf : wfX (sH s) (rSt R2) (chW (sH s) (rSt (sR s)) kk (b2 x y) (d2 x kk code) (rSt R2)) m3 := by
        intro z hz
        rw [g3]
        by_cases hzy : z = y
        · right
          have e : chW (sH s) (rSt (sR s)) kk (b2 x y) (d2 x kk code) (rSt R2) z = dg code (2 * kk - 2 * i - 2) := by
            unfold chW b2 d2
            rw [if_pos ⟨by simp [hzy], by omega, by omega⟩, if_neg (by omega)]
            congr 1
            omega
          rw [e, if_pos hzy]
          exact ⟨rfl, dg_le _ _⟩
        · by_cases hzx : z = x
          · right
            have e : chW (sH s) (rSt (sR s)) kk (b2 x y) (d2 x kk code) (rSt R2) z = dg code (2 * kk - 2 * i - 1) := by
              unfold chW b2 d2
              rw [if_pos ⟨by simp [hzx], by omega, by omega⟩, if_pos hzx]
              congr 1
              omega
            rw [e, if_neg hzy, if_pos hzx]
            exact ⟨rfl, dg_le _ _⟩
          · left
            rw [if_neg hzy, if_neg hzx]
            refine ⟨h35 z (by omega) hzx hzy, ?_⟩
            unfold chW b2
            rw [if_neg (fun q => by have := q.1; simp [hzx, hzy] at this)]
            rfl
      obtain ⟨m4, r1, r2, r3⟩ := X_takeStep (k := k) (m := m3) hOH hok hO.1 (encH_cg hH fun a h1 h2 => f3 a (by omega)) hwf hE3
      have hs := stepS_st (lw := sLw s) hOH hok (hle (rSt R2))
      have hok' := okR_step (lw := sLw s) hOH hok (hle (rSt R2)) hst60
      refine ⟨(nI (2 * kk - 2 * (i + 1)), nI (i + 1)), Z k m4, ⟨m4, _, rfl, rfl, r2, hok', by rw [hs]; omega, ?_, fun a h1 h2 => by rw [r3 a (by omega), f3 a h2]; exact hf a h1 h2, fun z hz hzx hzy => by rw [r3 35 (by omega), g3, if_neg hzy, if_neg hzx]; exact h35 z hz hzx hzy⟩, fun rec => ?_⟩
      · rw [← hrun, show runS (sH s) (sLw s) (chW (sH s) (rSt (sR s)) kk (b2 x y) (d2 x kk code)) 60 R2 = runS (sH s) (sLw s) (chW (sH s) (rSt (sR s)) kk (b2 x y) (d2 x kk code)) 59 (stepS (sH s) (sLw s) (chW (sH s) (rSt (sR s)) kk (b2 x y) (d2 x kk code) (rSt R2)) R2) from if_neg hend]
        exact runS_fuel hOH hle 60 59 _ hok' (by omega) (by rw [hs]; omega)
      · have e1 : nI (2 * kk - 2 * i) + (-1) = nI (2 * kk - 2 * i - 1) := by
          obtain ⟨q, hq⟩ : ∃ q, 2 * kk - 2 * i = q + 1 := ⟨2 * kk - 2 * i - 1, by omega⟩
          rw [hq]; exact nDec
        have e2 : nI (2 * kk - 2 * i - 1) + (-1) = nI (2 * kk - 2 * i - 2) := by
          obtain ⟨q, hq⟩ : ∃ q, 2 * kk - 2 * i - 1 = q + 1 := ⟨2 * kk - 2 * i - 2, by omega⟩
          rw [hq, show 2 * kk - 2 * i - 2 = q by omega]; exact nDec
        have h27' : m3 2 7 = nI (sLw s) := by rw [f3 2 (by omega)]; exact h27
        unfold lb_X4_tryChoices_28 jn_X4_tryChoices_81
        dsimp only
        rw [ifLt hi (by omega), ZA_4_5 s2, Option.bind_some, hov.2 hend, zbd_s, ifb0, ZA_4_13 s2, Option.bind_some, e1, X_fig (by omega) hc, zbd_s, Ms_35 (by omega), Option.bind_some, if_neg hym, ZA_4_13 s2, Option.bind_some, e2, X_fig (by omega) hc, zbd_s, Ms_35 (by omega), Option.bind_some, hm3, ZA_4_5 s2, Option.bind_some, ZA_4_2 s2, Option.bind_some, ZI_4_7 s2, Option.bind_some, h27', ZA_4_13 s2, Option.bind_some, r1, zbd_s, nA_1, show 2 * kk - 2 * i - 2 = 2 * kk - 2 * (i + 1) by omega]
  · rintro t h ⟨m2, R2, rfl, rfl, hE, hok, hst, hrun, hf, h35⟩ rec
    obtain ⟨m', q1, q2, q3, q4⟩ := X_tryEnd (m := mu (mu m2 35 x (-1)) 35 y (-1)) (m0 := m) (wf := chW (sH s) (rSt (sR s)) kk (b2 x y) (d2 x kk code)) hO hle hX hok (encX_cg hE fun a h1 h2 => by rw [mu_ar _ _ _ (by omega), mu_ar _ _ _ (by omega)]) (fun a h1 h2 => by rw [mu_ar _ _ _ h2, mu_ar _ _ _ h2]; exact hf a h1 h2) (hreset m2 h35) (Or.inr fun st h1 => by funext z; unfold chW; rw [if_neg (by omega)])
    refine ⟨m', ?_, by rw [← hrun]; exact q2, q3, q4⟩
    unfold lb_X4_tryChoices_28 jn_X4_tryChoices_106
    dsimp only
    rw [ifLf (Nat.le_refl _) (by omega), ZA_4_13 s2, Option.bind_some, Ms_35 (by omega), Option.bind_some, if_neg hym, ZA_4_13 s2, Option.bind_some, Ms_35 (by omega), Option.bind_some, q1]
end
