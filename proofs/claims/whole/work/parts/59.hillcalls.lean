theorem lp_inv {σ ρ : Type} {f : (σ → zAH → Option (ρ × zAH)) → σ → zAH → Option (ρ × zAH)} {I : Nat → σ → zAH → Prop} {N : Nat} {Q : Option (ρ × zAH) → Prop} (hs : ∀ x s h, x < N → I x s h → (∃ s' h', I (x + 1) s' h' ∧ ∀ rec, f rec s h = rec s' h') ∨ ∀ rec, Q (f rec s h)) (he : ∀ s h, I N s h → ∀ rec, Q (f rec s h)) : ∀ n x fuel s h, x + n = N → n < fuel → I x s h → Q (zlp f fuel s h) := by
  intro n
  induction n with
  | zero =>
    intro x fuel s h hx hf hI
    obtain ⟨g, rfl⟩ : ∃ g, fuel = g + 1 := ⟨fuel - 1, by omega⟩
    obtain rfl : x = N := by omega
    rw [zlp_s]
    exact he s h hI _
  | succ n ih =>
    intro x fuel s h hx hf hI
    obtain ⟨g, rfl⟩ : ∃ g, fuel = g + 1 := ⟨fuel - 1, by omega⟩
    rw [zlp_s]
    rcases hs x s h (by omega) hI with ⟨s', h', h1, h2⟩ | h1
    · rw [h2]
      exact ih (x + 1) g s' h' (by omega) (by omega) h1
    · exact h1 _
/-- a loop whose state and heap are known at each turn -/
theorem lp_fn {σ ρ : Type} {f : (σ → zAH → Option (ρ × zAH)) → σ → zAH → Option (ρ × zAH)} {N : Nat} {out : Option (ρ × zAH)} (st : Nat → σ) (hp : Nat → zAH) (hs : ∀ x, x < N → ∀ rec, f rec (st x) (hp x) = rec (st (x + 1)) (hp (x + 1))) (he : ∀ rec, f rec (st N) (hp N) = out) {fuel : Nat} (hf : N < fuel) : zlp f fuel (st 0) (hp 0) = out :=
  lp_inv (I := fun x s h => s = st x ∧ h = hp x) (N := N) (Q := fun r => r = out) (fun x s h hx hI => Or.inl ⟨st (x + 1), hp (x + 1), ⟨rfl, rfl⟩, fun rec => by rw [hI.1, hI.2]; exact hs x hx rec⟩) (fun s h hI rec => by rw [hI.1, hI.2]; exact he rec) N 0 fuel (st 0) (hp 0) (by omega) hf ⟨rfl, rfl⟩
noncomputable def cnt (P : Nat → Prop) : Nat → Nat
  | 0 => 0
  | n + 1 => by classical exact cnt P n + (if P n then 1 else 0)
theorem cnt_t {P : Nat → Prop} {n : Nat} (h : P n) : cnt P (n + 1) = cnt P n + 1 := by rw [cnt, if_pos h]
theorem cnt_f {P : Nat → Prop} {n : Nat} (h : ¬ P n) : cnt P (n + 1) = cnt P n := by rw [cnt, if_neg h]; rfl
theorem cnt_le {P : Nat → Prop} : ∀ n, cnt P n ≤ n := by
  intro n
  induction n with
  | zero => exact Nat.le_refl _
  | succ n ih =>
    by_cases h : P n
    · rw [cnt_t h]; omega
    · rw [cnt_f h]; omega
theorem cnt_cg {P Q : Nat → Prop} : ∀ n, (∀ x, x < n → (P x ↔ Q x)) → cnt P n = cnt Q n := by
  intro n
  induction n with
  | zero => exact fun _ => rfl
  | succ n ih =>
    intro h
    have e := ih (fun x hx => h x (by omega))
    by_cases hp : P n
    · rw [cnt_t hp, cnt_t ((h n (by omega)).mp hp), e]
    · rw [cnt_f hp, cnt_f (fun z => hp ((h n (by omega)).mpr z)), e]
/-- loops that count -/
theorem lp_cnt {ρ : Type} {f : (Int32 × Int32 → zAH → Option (ρ × zAH)) → Int32 × Int32 → zAH → Option (ρ × zAH)} {N : Nat} {h : zAH} {out : Option (ρ × zAH)} (P : Nat → Prop) (hs : ∀ x c, x < N → ∀ rec, (P x → f rec (nI c, nI x) h = rec (nI (c + 1), nI (x + 1)) h) ∧ (¬ P x → f rec (nI c, nI x) h = rec (nI c, nI (x + 1)) h)) (he : ∀ rec, f rec (nI (cnt P N), nI N) h = out) {fuel : Nat} (hf : N < fuel) : zlp f fuel (0, 0) h = out := by
  refine lp_fn (N := N) (fun x => (nI (cnt P x), nI x)) (fun _ => h) (fun x hx rec => ?_) he hf
  show f rec (nI (cnt P x), nI x) h = rec (nI (cnt P (x + 1)), nI (x + 1)) h
  by_cases hp : P x
  · rw [cnt_t hp]
    exact (hs x (cnt P x) hx rec).1 hp
  · rw [cnt_f hp]
    exact (hs x (cnt P x) hx rec).2 hp
section
variable {k k' : zK} {m m' : Nat → Nat → Int32} {s : zSt} {c : Nat} {H : zHD}
def sGs (hd : Nat → Nat) (s : zSt) : zSt := (s.1, s.2.1, s.2.2.1, (sH s, sB s, hd), s.2.2.2.2)
def sLs (v : Nat) (s : zSt) : zSt := ((v, s.1.2), s.2)
def abS (s : zSt) (x w : Nat) : Int32 := if w = 0 then nI (hK (sH s) x) else if w = 1 then nI (sB s x) else if w = 2 then nI (sD s x) else nI (hZ (sH s) x)
def isOfS (kd a : Nat) : Prop := kd = a ∨ (kd = 4 ∧ a = 1) ∨ (kd = 5 ∧ a = 2)
noncomputable def mkS (s : zSt) (x a : Nat) : Int32 := if a = 1 then nI (cnt (fun y => 0 < hS (sH s) y) (hY (sH s))) else if a = 2 then nI (sB s x) else if a = 4 then nI (cnt (fun i => hP (sH s) x i = 0) (hZ (sH s) x)) else nI (cnt (fun i => hP (sH s) x i = 3) (hZ (sH s) x))
def g_road (y : Int32) (s : zSt) : Int32 × zSt := match ix y 40 with
  | none => (-1, s)
  | some j => if j < hY (sH s) then (1, sAk (iI (hS (sH s) j)) s) else (-3, sFd 2 s)
def g_about (x w : Int32) (s : zSt) : Int32 × zSt := match ix x (hN (sH s)) with
  | none => (-1, s)
  | some x => match ix w 4 with
    | none => (-1, s)
    | some w => (1, sAk (abS s x w) s)
def g_pace (x i : Int32) (s : zSt) : Int32 × zSt := match ix x (hN (sH s)) with
  | none => (-1, s)
  | some x => match ix i (hZ (sH s) x) with
    | none => (-3, sFd 2 s)
    | some i => (nI (hP (sH s) x i), s)
noncomputable def g_mark (x a : Int32) (s : zSt) : Int32 × zSt := by
  classical exact match ix x (hN (sH s)) with
  | none => (-1, s)
  | some x => match ir a 1 5 with
    | none => (-1, s)
    | some a => if isOfS (hK (sH s) x) a then (mkS s x a, s) else (-3, sFd 3 s)
def g_head (x v : Int32) (s : zSt) : Int32 × zSt := match ix x (hN (sH s)) with
  | none => (-1, s)
  | some x => match ix v 10 with
    | none => (-1, s)
    | some v => (nI (sD s x), sGs (va_up (sD s) x v) s)
def g_law (v : Int32) (s : zSt) : Int32 × zSt := match ix v 3 with
  | none => (-1, s)
  | some v => (nI (sLw s), sLs v s)
theorem X_isRunner {x : Int32} (hN5 : hN (sH s) ≤ 5) (hX : XS s k m) : dn_X4_isRunner 2 x (Z k m) = some (if (ix x (hN (sH s))).isSome then 1 else 0, Z k m) := by
  have hG := hX.2.2.2.1
  unfold dn_X4_isRunner jn_X4_isRunner_19
  rw [ZO_4 s2, Option.bind_some, ZA_4_2 s2, Option.bind_some, ZI_0_2 hG.2.1.1, Option.bind_some, hG.2.1.2.2.1]
  rcases ix_c x (hN (sH s)) (by omega) with ⟨j, hj, rfl, e⟩ | ⟨e, h0 | ⟨h0, h1⟩⟩
  · rw [e, if_neg (nIn0 (by omega)), ifLt hj (by omega)]; rfl
  · rw [e, if_pos h0]; rfl
  · rw [e, if_neg h0, if_neg h1]; rfl
theorem M_isRunner {x : Int32} (hN5 : hN (sH s) ≤ 5) (hM : MS s k m) : dn_X5_isRunner 81 x (Z k m) = some (if (ix x (hN (sH s))).isSome then 1 else 0, Z k m) := by
  unfold dn_X5_isRunner
  rw [ZO_5 s81, Option.bind_some, ZI_5_12 s81, Option.bind_some, hM.2.2.2.1.1.2.1, M_ix x _ (by omega), zbd_s]
  by_cases h1 : (ix x (hN (sH s))).isSome = true
  · rw [if_pos h1]; rfl
  · rw [if_neg h1]; rfl
theorem X_fd (f : Nat) (hf : f < 6) (h : XS s k m) : ∃ m', dn_X4_found 2 (nI f) (Z k m) = some (-3, Z k m') ∧ XS (sFd f s) k m' ∧ zfX k m k m' := X_found hf h
theorem x_road (y : Int32) : okX (dn_X4_road 2 y) (g_road y) := by
  intro s k m hO hX hk
  have hG := hX.2.2.2.1
  have h40 := hO.2.2.2.1.1.1
  have s7 := shp_2 _ (shp_le (by have := hG.2.1.1; omega)) hG.2.1.1
  unfold dn_X4_road g_road jn_X4_road_10
  rw [ZO_4 s2, Option.bind_some]
  rcases ix_c y 40 (by omega) with ⟨j, hj, rfl, e⟩ | ⟨e, h0 | ⟨h0, h1⟩⟩
  · rw [e, if_neg (nIn0 (by omega)), it_40 hj, ZA_4_2 s2, Option.bind_some, ZI_0_0 hG.2.1.1, Option.bind_some, hG.2.1.2.1]
    dsimp only
    by_cases hc : j < hY (sH s)
    · obtain ⟨x1, x2⟩ := hX.ak (iI (hS (sH s) j))
      rw [if_pos hc]
      exact ⟨k, _, by rw [ifLt hc (by omega), Option.bind_some, ZA_0_1 hG.2.1.1, Option.bind_some, Zl40 s7.1 hj, Option.bind_some, hG.2.1.2.2.2.1 j hc, ZP_4_8 s2, Option.bind_some], x1, x2⟩
    · obtain ⟨m', f1, f2, f3⟩ : ∃ m', dn_X4_found 2 2 (Z k m) = some (-3, Z k m') ∧ XS (sFd 2 s) k m' ∧ zfX k m k m' := X_found (f := 2) (by omega) hX
      rw [if_neg hc]
      exact ⟨k, m', by rw [ifLf (by omega) (by omega), f1, zbd_s], f2, f3⟩
  · rw [e, if_pos h0]
    exact ⟨k, m, rfl, hX, zfX.rf⟩
  · have h1' : ¬ y < 40 := h1
    rw [e, if_neg h0, if_neg h1']
    exact ⟨k, m, rfl, hX, zfX.rf⟩
theorem x5_road (y : Int32) : okM (dn_X5_road 81 y) (g_road y) := by
  intro s k m hO hM
  have hN5 := hO.2.2.2.1.1.2.1
  have h40 := hO.2.2.2.1.1.1
  have hG := hM.2.2.2.1
  unfold dn_X5_road g_road jn_X5_road_39
  rw [ZO_5 s81, Option.bind_some, show (39 : Int32) = nI 40 - 1 by decide, M_ix y 40 (by omega), zbd_s]
  rcases ix_c y 40 (by omega) with ⟨j, hj, rfl, e⟩ | ⟨e, -⟩
  · rw [e, ifSo, ifb1, ZI_5_10 s81, Option.bind_some, hG.1.1]
    dsimp only
    by_cases hc : j < hY (sH s)
    · obtain ⟨m', t1, t2, t3⟩ := M_tells (v := iI (hS (sH s) j)) (a := 1) hN5 hM
      rw [if_pos hc]
      exact ⟨k, m', by rw [ifLt hc (by omega), ZA_5_11 s81, Option.bind_some, Ml_88 hj, Option.bind_some, hG.1.2.2.1 j hc, t1, zbd_s], t2, t3⟩
    · obtain ⟨m', f1, f2, f3⟩ : ∃ m', dn_X5_meets 81 2 (Z k m) = some (-3, Z k m') ∧ MS (sFd 2 s) k m' ∧ zfM k m k m' := M_meets (f := 2) (by omega) hN5 hM
      rw [if_neg hc]
      exact ⟨k, m', by rw [ifLf (by omega) (by omega), f1, zbd_s], f2, f3⟩
  · rw [e]
    exact ⟨k, m, by rw [ifNo, ifb0], hM, zfM.rf⟩
theorem o_road (y : Int32) : okG (g_road y) := by
  intro s hO
  unfold g_road
  cases h : ix y 40 with
  | none => exact hO
  | some j =>
    dsimp only
    by_cases hc : j < hY (sH s)
    · rw [if_pos hc]; exact hO
    · rw [if_neg hc]; exact hO
theorem X_hdetail {x w : Nat} (hN5 : hN (sH s) ≤ 5) (hG : XG (sH s) (sB s) (sD s) k m) (hx : x < hN (sH s)) (hw : w ≤ 3) : dn_X0_detail (kC k) (nI x) (nI w) (Z k m) = some (abS s x w, Z k m) := by
  have hH := hG.2.1
  have s7 := shp_2 _ (shp_le (by have := hH.1; omega)) hH.1
  obtain ⟨e1, e2, e3⟩ := hH.2.2.2.2 x hx
  obtain ⟨e4, e5⟩ := hG.2.2 x hx
  unfold dn_X0_detail abS
  rw [ZO_0 hH.1, Option.bind_some]
  by_cases h0 : w = 0
  · rw [et_0 h0, if_pos h0, ZA_0_3 hH.1, Option.bind_some, Zl5 s7.2.1 (by omega), Option.bind_some, e1]
  · rw [ef_0 h0 (by omega), if_neg h0]
    by_cases h1 : w = 1
    · rw [et_1 h1, if_pos h1, ZA_0_4 hH.1, Option.bind_some, Zl5 s7.2.2.1 (by omega), Option.bind_some, e4]
    · rw [ef_1 h1 (by omega), if_neg h1]
      by_cases h2 : w = 2
      · rw [et_2 h2, if_pos h2, ZA_0_5 hH.1, Option.bind_some, Zl5 s7.2.2.2.1 (by omega), Option.bind_some, e5]
      · rw [ef_2 h2 (by omega), if_neg h2, ZA_0_6 hH.1, Option.bind_some, Zl5 s7.2.2.2.2.1 (by omega), Option.bind_some, e2]
theorem M_aboutTells {x w : Nat} (hN5 : hN (sH s) ≤ 5) (hG : MG (sH s) (sB s) (sD s) m) (hx : x < hN (sH s)) (hw : w ≤ 3) : dn_X5_aboutTells 81 (nI x) (nI w) (Z k m) = some (abS s x w, Z k m) := by
  obtain ⟨e1, e2, e3⟩ := hG.1.2.2.2 x hx
  obtain ⟨e4, e5⟩ := hG.2 x hx
  unfold dn_X5_aboutTells abS jn_X5_aboutTells_47
  rw [ZO_5 s81, Option.bind_some]
  by_cases h0 : w = 0
  · rw [et_0 h0, if_pos h0, ZA_5_13 s81, Option.bind_some, Ml_89 (by omega), Option.bind_some, e1]
  · rw [ef_0 h0 (by omega), if_neg h0]
    by_cases h1 : w = 1
    · rw [et_1 h1, if_pos h1, ZA_5_14 s81, Option.bind_some, Ml_90 (by omega), Option.bind_some, e4]
    · rw [ef_1 h1 (by omega), if_neg h1]
      by_cases h2 : w = 2
      · rw [et_2 h2, if_pos h2, ZA_5_15 s81, Option.bind_some, Ml_91 (by omega), Option.bind_some, e5]
      · rw [ef_2 h2 (by omega), if_neg h2, ZA_5_16 s81, Option.bind_some, Ml_92 (by omega), Option.bind_some, e2]
theorem x_about (x w : Int32) : okX (dn_X4_about 2 x w) (g_about x w) := by
  intro s k m hO hX hk
  have hG := hX.2.2.2.1
  have hN5 := hO.2.2.2.1.1.2.1
  unfold dn_X4_about g_about jn_X4_about_17
  rw [ZO_4 s2, Option.bind_some, X_isRunner hN5 hX, zbd_s]
  rcases ix_c x (hN (sH s)) (by omega) with ⟨x, hx, rfl, e⟩ | ⟨e, -⟩
  · rw [e, ifSo, ifb1]
    dsimp only
    rcases ix_c w 4 (by omega) with ⟨w, hw, rfl, e'⟩ | ⟨e', h0 | ⟨h0, h1⟩⟩
    · obtain ⟨x1, x2⟩ := hX.ak (abS s x w)
      rw [e']
      exact ⟨k, _, by rw [if_neg (nIn0 (by omega)), jf_3 (by omega), ZA_4_2 s2, Option.bind_some, X_hdetail hN5 hG hx (by omega), zbd_s, ZP_4_8 s2, Option.bind_some], x1, x2⟩
    · rw [e']
      exact ⟨k, m, by rw [if_pos h0], hX, zfX.rf⟩
    · rw [e']
      have h1' : 3 < w := by
        have b1 := Int32.le_toInt w
        have b2 := Int32.toInt_lt w
        rw [I32_iI w, iI_nI, iI_lt b1 (by omega) (by omega) (by omega)] at h1
        rw [I32_iI w, jL_3 b1 (by omega)]
        omega
      exact ⟨k, m, by rw [if_neg h0, if_pos h1'], hX, zfX.rf⟩
  · rw [e]
    exact ⟨k, m, by rw [ifNo, ifb0], hX, zfX.rf⟩
theorem x5_about (x w : Int32) : okM (dn_X5_about 81 x w) (g_about x w) := by
  intro s k m hO hM
  have hG := hM.2.2.2.1
  have hN5 := hO.2.2.2.1.1.2.1
  unfold dn_X5_about g_about jn_X5_about_31 jn_X5_about_32
  rw [ZO_5 s81, Option.bind_some, M_isRunner hN5 hM, zbd_s]
  rcases ix_c x (hN (sH s)) (by omega) with ⟨x, hx, rfl, e⟩ | ⟨e, -⟩
  · rw [e, ifSo, ifb1, show (3 : Int32) = nI 4 - 1 by decide, M_ix w 4 (by omega), zbd_s]
    dsimp only
    rcases ix_c w 4 (by omega) with ⟨w, hw, rfl, e'⟩ | ⟨e', -⟩
    · obtain ⟨m', t1, t2, t3⟩ := M_tells (v := abS s x w) (a := 1) hN5 hM
      rw [e']
      exact ⟨k, m', by rw [ifSo, ifb1, M_aboutTells hN5 hG hx (by omega), zbd_s, t1, zbd_s], t2, t3⟩
    · rw [e']
      exact ⟨k, m, by rw [ifNo, ifb0], hM, zfM.rf⟩
  · rw [e]
    exact ⟨k, m, by rw [ifNo, ifb0], hM, zfM.rf⟩
theorem o_about (x w : Int32) : okG (g_about x w) := by
  intro s hO
  unfold g_about
  cases h : ix x (hN (sH s)) with
  | none => exact hO
  | some j =>
    dsimp only
    cases h' : ix w 4 with
    | none => exact hO
    | some j => exact hO
end
