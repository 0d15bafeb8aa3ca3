section
variable {k : zK} {m : Nat → Nat → Int32} {q a : Nat} {H : zHD} {R : zRS}
def ahS (R : zRS) (x o : Nat) : Prop := (¬ rDn R x = -9 ∧ rDn R o = -9) ∨ (¬ rDn R x = -9 ∧ ¬ rDn R o = -9 ∧ (rDn R x < rDn R o ∨ (rDn R x = rDn R o ∧ x < o))) ∨ (rDn R x = -9 ∧ rDn R o = -9 ∧ (rYd R o < rYd R x ∨ (rYd R o = rYd R x ∧ x < o)))
theorem ltne {u v : Int32} (h : u < v) : ¬ u = v := by
  intro e
  rw [e] at h
  exact Int32.lt_irrefl h
theorem M_isAhead {x o : Nat} (hN5 : hN H ≤ 5) (hb : m 81 29 = nI q) (hE : encM q H R m) (hok : okR H R) (hx : x < hN H) (ho : o < hN H) : (ahS R x o → dn_X5_isAhead 81 (nI x) (nI o) (Z k m) = some (1, Z k m)) ∧ (¬ ahS R x o → dn_X5_isAhead 81 (nI x) (nI o) (Z k m) = some (0, Z k m)) := by
  have hq := hE.1
  have dx := M_isDone (k := k) hb hE hN5 hx
  have dO := M_isDone (k := k) hb hE hN5 ho
  have vx : dn_X5_v 81 (nI (3 + x)) (Z k m) = some (nI (rYd R x), Z k m) := by rw [M_v hb (by omega), (hE.2.2.2.2 x hx).1]
  have vo : dn_X5_v 81 (nI (3 + o)) (Z k m) = some (nI (rYd R o), Z k m) := by rw [M_v hb (by omega), (hE.2.2.2.2 o ho).1]
  have ex : dn_X5_v 81 (nI (13 + x)) (Z k m) = some (rDn R x, Z k m) := by rw [M_v hb (by omega), (hE.2.2.2.2 x hx).2.2.1]
  have eo : dn_X5_v 81 (nI (13 + o)) (Z k m) = some (rDn R o, Z k m) := by rw [M_v hb (by omega), (hE.2.2.2.2 o ho).2.2.1]
  have yx := (hok.2.2 x hx).2.2.1
  have yo := (hok.2.2 o ho).2.2.1
  have e1 : jn_X5_isAhead_136 1 (Z k m) = some (1, Z k m) := rfl
  have e0 : jn_X5_isAhead_136 0 (Z k m) = some (0, Z k m) := rfl
  have f1 : jn_X5_isAhead_83 1 (Z k m) = some (1, Z k m) := rfl
  have f0 : jn_X5_isAhead_83 0 (Z k m) = some (0, Z k m) := rfl
  unfold dn_X5_isAhead ahS
  rw [ZO_5 s81, Option.bind_some, dx, zbd_s, dO, zbd_s]
  generalize rDn R x = u at *
  generalize rDn R o = v at *
  by_cases hu : u = -9
  · by_cases hv : v = -9
    · rw [if_pos hu, if_pos hv, if_pos rfl, dx, zbd_s, if_pos hu, ifb0, nB_3, vx, zbd_s, nB_3, vo, zbd_s]
      by_cases hy : rYd R x = rYd R o
      · rw [ifEt hy]
        by_cases hxo : x < o
        · rw [ifLt hxo (by omega), e1]
          exact ⟨fun _ => rfl, fun z => absurd (Or.inr (Or.inr ⟨hu, hv, Or.inr ⟨hy.symm, hxo⟩⟩)) z⟩
        · rw [ifLf (by omega) (by omega), e0]
          exact ⟨fun z => by rcases z with ⟨z, -⟩ | ⟨z, -⟩ | ⟨-, -, z | z⟩ <;> first | exact absurd hu z | omega, fun _ => rfl⟩
      · rw [ifEf hy (by omega) (by omega), vx, zbd_s, vo, zbd_s]
        by_cases hlt : rYd R o < rYd R x
        · rw [ifLt hlt (by omega), e1]
          exact ⟨fun _ => rfl, fun z => absurd (Or.inr (Or.inr ⟨hu, hv, Or.inl hlt⟩)) z⟩
        · rw [ifLf (by omega) (by omega), e0]
          exact ⟨fun z => by rcases z with ⟨z, -⟩ | ⟨z, -⟩ | ⟨-, -, z | z⟩ <;> first | exact absurd hu z | omega, fun _ => rfl⟩
    · rw [if_pos hu, if_neg hv, if_neg (by decide), dx, zbd_s, if_pos hu]
      exact ⟨fun z => by rcases z with ⟨z, -⟩ | ⟨z, -⟩ | ⟨-, z, -⟩ <;> first | exact absurd hu z | exact absurd z hv, fun _ => rfl⟩
  · by_cases hv : v = -9
    · rw [if_neg hu, if_pos hv, if_neg (by decide), dx, zbd_s, if_neg hu]
      exact ⟨fun _ => rfl, fun z => absurd (Or.inl ⟨hu, hv⟩) z⟩
    · rw [if_neg hu, if_neg hv, if_pos rfl, dx, zbd_s, if_neg hu, ifb1, nB_13, ex, zbd_s, nB_13, eo, zbd_s]
      by_cases he : u = v
      · rw [if_pos he]
        by_cases hxo : x < o
        · rw [ifLt hxo (by omega), f1]
          exact ⟨fun _ => rfl, fun z => absurd (Or.inr (Or.inl ⟨hu, hv, Or.inr ⟨he, hxo⟩⟩)) z⟩
        · rw [ifLf (by omega) (by omega), f0]
          exact ⟨fun z => by rcases z with ⟨-, z⟩ | ⟨-, -, z | z⟩ | ⟨z, -⟩ <;> first | exact absurd z hv | exact absurd he (ltne z) | omega | exact absurd z hu, fun _ => rfl⟩
      · rw [if_neg he, ex, zbd_s, eo, zbd_s]
        by_cases hlt : u < v
        · rw [if_pos hlt, f1]
          exact ⟨fun _ => rfl, fun z => absurd (Or.inr (Or.inl ⟨hu, hv, Or.inl hlt⟩)) z⟩
        · rw [if_neg hlt, f0]
          exact ⟨fun z => by rcases z with ⟨-, z⟩ | ⟨-, -, z | z⟩ | ⟨z, -⟩ <;> first | exact absurd z hv | exact absurd z hlt | exact absurd z.1 he | exact absurd z hu, fun _ => rfl⟩
theorem X_isAhead {x o : Nat} (hN5 : hN H ≤ 5) (hE : encX a H R m) (hok : okR H R) (hx : x < hN H) (ho : o < hN H) : (ahS R x o → dn_X1_isAhead a (nI x) (nI o) (Z k m) = some (1, Z k m)) ∧ (¬ ahS R x o → dn_X1_isAhead a (nI x) (nI o) (Z k m) = some (0, Z k m)) := by
  have ha := hE.1
  have s := shp_1 a (shp_le (by omega)) ha
  have dx := X_isDone (k := k) hE hN5 hx
  have dO := X_isDone (k := k) hE hN5 ho
  obtain ⟨vx, -, -, ex, -⟩ := hE.2.2.2.2.2.2 x hx
  obtain ⟨vo, -, -, eo, -⟩ := hE.2.2.2.2.2.2 o ho
  have yx := (hok.2.2 x hx).2.2.1
  have yo := (hok.2.2 o ho).2.2.1
  have zx := (hok.2.2 x hx).1
  have zo := (hok.2.2 o ho).1
  have e1 : jn_X1_isAhead_117 1 (Z k m) = some (1, Z k m) := rfl
  have e0 : jn_X1_isAhead_117 0 (Z k m) = some (0, Z k m) := rfl
  have f1 : jn_X1_isAhead_106 1 (Z k m) = some (1, Z k m) := rfl
  have f0 : jn_X1_isAhead_106 0 (Z k m) = some (0, Z k m) := rfl
  have g1 : jn_X1_isAhead_62 1 (Z k m) = some (1, Z k m) := rfl
  have g0 : jn_X1_isAhead_62 0 (Z k m) = some (0, Z k m) := rfl
  unfold dn_X1_isAhead jn_X1_isAhead_63 jn_X1_isAhead_107 ahS
  rw [ZO_1 ha, Option.bind_some, dx, zbd_s, dO, zbd_s]
  generalize rDn R x = u at *
  generalize rDn R o = v at *
  by_cases hu : u = -9
  · by_cases hv : v = -9
    · have zx' := zx.mp hu
      have zo' := zo.mp hv
      rw [Nat.min_eq_left (by omega)] at vx vo
      rw [if_pos hu, if_pos hv, if_pos rfl, dx, zbd_s, if_pos hu, ifb0, dx, zbd_s, if_pos hu, ifb0, ZA_1_6 ha, Option.bind_some, Zl5 s.1 (by omega), Option.bind_some, Option.bind_some, Zl5 s.1 (by omega), Option.bind_some, vx, vo]
      by_cases hy : rYd R x = rYd R o
      · rw [ifEt hy]
        by_cases hxo : x < o
        · rw [ifLt hxo (by omega), e1]
          exact ⟨fun _ => rfl, fun z => absurd (Or.inr (Or.inr ⟨hu, hv, Or.inr ⟨hy.symm, hxo⟩⟩)) z⟩
        · rw [ifLf (by omega) (by omega), e0]
          exact ⟨fun z => by rcases z with ⟨z, -⟩ | ⟨z, -⟩ | ⟨-, -, z | z⟩ <;> first | exact absurd hu z | omega, fun _ => rfl⟩
      · rw [ifEf hy (by omega) (by omega)]
        simp only [Option.bind_some]
        rw [Zl5 s.1 (by omega), Option.bind_some, Zl5 s.1 (by omega), Option.bind_some, vx, vo]
        by_cases hlt : rYd R o < rYd R x
        · rw [ifLt hlt (by omega), f1]
          exact ⟨fun _ => rfl, fun z => absurd (Or.inr (Or.inr ⟨hu, hv, Or.inl hlt⟩)) z⟩
        · rw [ifLf (by omega) (by omega), f0]
          exact ⟨fun z => by rcases z with ⟨z, -⟩ | ⟨z, -⟩ | ⟨-, -, z | z⟩ <;> first | exact absurd hu z | omega, fun _ => rfl⟩
    · rw [if_pos hu, if_neg hv, if_neg (by decide), dx, zbd_s, if_pos hu]
      exact ⟨fun z => by rcases z with ⟨z, -⟩ | ⟨z, -⟩ | ⟨-, z, -⟩ <;> first | exact absurd hu z | exact absurd z hv, fun _ => rfl⟩
  · by_cases hv : v = -9
    · rw [if_neg hu, if_pos hv, if_neg (by decide), dx, zbd_s, if_neg hu]
      exact ⟨fun _ => rfl, fun z => absurd (Or.inl ⟨hu, hv⟩) z⟩
    · rw [if_neg hu, if_neg hv, if_pos rfl, dx, zbd_s, if_neg hu, ifb1, ZA_1_9 ha, Option.bind_some, Zl5 s.2.2.2.1 (by omega), Option.bind_some, Option.bind_some, Zl5 s.2.2.2.1 (by omega), Option.bind_some, ex, eo]
      by_cases he : u = v
      · rw [if_pos he, dx, zbd_s, if_neg hu, ifb1]
        by_cases hxo : x < o
        · rw [ifLt hxo (by omega), e1]
          exact ⟨fun _ => rfl, fun z => absurd (Or.inr (Or.inl ⟨hu, hv, Or.inr ⟨he, hxo⟩⟩)) z⟩
        · rw [ifLf (by omega) (by omega), e0]
          exact ⟨fun z => by rcases z with ⟨-, z⟩ | ⟨-, -, z | z⟩ | ⟨z, -⟩ <;> first | exact absurd z hv | exact absurd he (ltne z) | omega | exact absurd z hu, fun _ => rfl⟩
      · rw [if_neg he]
        simp only [Option.bind_some]
        rw [Zl5 s.2.2.2.1 (by omega), Option.bind_some, Zl5 s.2.2.2.1 (by omega), Option.bind_some, ex, eo]
        by_cases hlt : u < v
        · rw [if_pos hlt, g1]
          exact ⟨fun _ => rfl, fun z => absurd (Or.inr (Or.inl ⟨hu, hv, Or.inl hlt⟩)) z⟩
        · rw [if_neg hlt, g0]
          exact ⟨fun z => by rcases z with ⟨-, z⟩ | ⟨-, -, z | z⟩ | ⟨z, -⟩ <;> first | exact absurd z hv | exact absurd z hlt | exact absurd z.1 he | exact absurd z hu, fun _ => rfl⟩
/-- the rank, among the first n -/
noncomputable def rkL (R : zRS) (x : Nat) : Nat → Nat
  | 0 => 1
  | n + 1 => by classical exact rkL R x n + (if n ≠ x ∧ ahS R n x then 1 else 0)
theorem rkL_t {x n : Nat} (h1 : n ≠ x) (h2 : ahS R n x) : rkL R x (n + 1) = rkL R x n + 1 := by
  rw [rkL, if_pos ⟨h1, h2⟩]
theorem rkL_f {x n : Nat} (h1 : ¬ (n ≠ x ∧ ahS R n x)) : rkL R x (n + 1) = rkL R x n := by
  rw [rkL, if_neg h1, Nat.add_zero]
theorem rkL_le {x : Nat} : ∀ n, 1 ≤ rkL R x n ∧ rkL R x n ≤ n + 1 := by
  intro n
  induction n with
  | zero => exact ⟨Nat.le_refl _, Nat.le_refl _⟩
  | succ n ih =>
    by_cases h : n ≠ x ∧ ahS R n x
    · rw [rkL_t h.1 h.2]; omega
    · rw [rkL_f h]; omega
noncomputable def rkS (H : zHD) (R : zRS) (x : Nat) : Nat := rkL R x (hN H)
theorem M_rk4 {x : Nat} (hN5 : hN H ≤ 5) (hG : encG H m) (hb : m 81 29 = nI q) (hE : encM q H R m) (hok : okR H R) (hx : x < hN H) : ∀ n o f, o + n = hN H → n < f → zlp (lb_X5_rankOf_4 81 (nI x)) f (nI (rkL R x o), nI o) (Z k m) = some (nI (rkS H R x), Z k m) := by
  intro n
  induction n with
  | zero =>
    intro o f ho hf
    obtain ⟨f, rfl⟩ : ∃ g, f = g + 1 := ⟨f - 1, by omega⟩
    obtain rfl : o = hN H := by omega
    rw [zlp_s]
    show (zgI 5 12 81 (Z k m)).bind _ = _
    rw [ZI_5_12 s81, Option.bind_some, hG.2.1, ifLf (Nat.le_refl _) (by omega)]
    rfl
  | succ n ih =>
    intro o f ho hf
    obtain ⟨f, rfl⟩ : ∃ g, f = g + 1 := ⟨f - 1, by omega⟩
    have hoN : o < hN H := by omega
    have hA := M_isAhead (k := k) hN5 hb hE hok hoN hx
    rw [zlp_s]
    show (zgI 5 12 81 (Z k m)).bind _ = _
    rw [ZI_5_12 s81, Option.bind_some, hG.2.1, ifLt hoN (by omega)]
    have h9 := ih (o + 1) f (by omega) (by omega)
    unfold jn_X5_rankOf_31 jn_X5_rankOf_32
    by_cases h1 : o = x
    · rw [rkL_f (fun z => z.1 h1)] at h9
      rw [ifEt h1, Int32.add_zero, nA_1]
      exact h9
    · rw [ifEf h1 (by omega) (by omega)]
      by_cases h2 : ahS R o x
      · rw [rkL_t h1 h2] at h9
        rw [hA.1 h2, zbd_s, ifb1, nA_1, nA_1]
        exact h9
      · rw [rkL_f (fun z => h2 z.2)] at h9
        rw [hA.2 h2, zbd_s, ifb0, Int32.add_zero, nA_1]
        exact h9
theorem M_rankOf {x : Nat} (hN5 : hN H ≤ 5) (hG : encG H m) (hb : m 81 29 = nI q) (hE : encM q H R m) (hok : okR H R) (hx : x < hN H) : dn_X5_rankOf 81 (nI x) (Z k m) = some (nI (rkS H R x), Z k m) := by
  unfold dn_X5_rankOf
  rw [ZO_5 s81, Option.bind_some]
  exact M_rk4 hN5 hG hb hE hok hx (hN H) 0 2000 (by omega) (by omega)
theorem X_rk4 {x : Nat} (hN5 : hN H ≤ 5) (hE : encX a H R m) (hok : okR H R) (hx : x < hN H) : ∀ n o f, o + n = hN H → n < f → zlp (lb_X1_rankOf_4 a (nI x)) f (nI (rkL R x o), nI o) (Z k m) = some (nI (rkS H R x), Z k m) := by
  intro n
  induction n with
  | zero =>
    intro o f ho hf
    obtain ⟨f, rfl⟩ : ∃ g, f = g + 1 := ⟨f - 1, by omega⟩
    obtain rfl : o = hN H := by omega
    rw [zlp_s]
    show (zgI 1 0 a (Z k m)).bind _ = _
    rw [ZI_1_0 hE.1, Option.bind_some, hE.2.1, ifLf (Nat.le_refl _) (by omega)]
    rfl
  | succ n ih =>
    intro o f ho hf
    obtain ⟨f, rfl⟩ : ∃ g, f = g + 1 := ⟨f - 1, by omega⟩
    have hoN : o < hN H := by omega
    have hA := X_isAhead (k := k) hN5 hE hok hoN hx
    rw [zlp_s]
    show (zgI 1 0 a (Z k m)).bind _ = _
    rw [ZI_1_0 hE.1, Option.bind_some, hE.2.1, ifLt hoN (by omega)]
    have h9 := ih (o + 1) f (by omega) (by omega)
    unfold jn_X1_rankOf_29
    by_cases h1 : o = x
    · rw [rkL_f (fun z => z.1 h1)] at h9
      rw [ifEt h1, nA_1]
      exact h9
    · rw [ifEf h1 (by omega) (by omega)]
      by_cases h2 : ahS R o x
      · rw [rkL_t h1 h2] at h9
        rw [hA.1 h2, zbd_s, ifb1, nA_1, nA_1]
        exact h9
      · rw [rkL_f (fun z => h2 z.2)] at h9
        rw [hA.2 h2, zbd_s, ifb0, nA_1]
        exact h9
theorem X_rankOf {x : Nat} (hN5 : hN H ≤ 5) (hE : encX a H R m) (hok : okR H R) (hx : x < hN H) : dn_X1_rankOf a (nI x) (Z k m) = some (nI (rkS H R x), Z k m) := by
  unfold dn_X1_rankOf
  rw [ZO_1 hE.1, Option.bind_some]
  exact X_rk4 hN5 hE hok hx (hN H) 0 2000 (by omega) (by omega)
/-- what is told of a RUNNER in a RACE -/
noncomputable def tlS (H : zHD) (R : zRS) (x w : Nat) : Int32 := if w = 0 then nI (min (rYd R x) (hY H)) else if w = 1 then nI (rBr R x) else if w = 2 then rDn R x else if w = 3 then nI (rkS H R x) else rCr R x
theorem X_detail {x w : Nat} (hN5 : hN H ≤ 5) (hE : encX a H R m) (hok : okR H R) (hx : x < hN H) (hw : w ≤ 4) : dn_X1_detail a (nI x) (nI w) (Z k m) = some (tlS H R x w, Z k m) := by
  have ha := hE.1
  have s := shp_1 a (shp_le (by omega)) ha
  obtain ⟨e1, e2, e3, e4, e5, e6⟩ := hE.2.2.2.2.2.2 x hx
  unfold dn_X1_detail tlS
  rw [ZO_1 ha, Option.bind_some]
  by_cases h0 : w = 0
  · rw [et_0 h0, if_pos h0, ZA_1_6 ha, Option.bind_some, Zl5 s.1 (by omega), Option.bind_some, e1]
  · rw [ef_0 h0 (by omega), if_neg h0]
    by_cases h1 : w = 1
    · rw [et_1 h1, if_pos h1, ZA_1_7 ha, Option.bind_some, Zl5 s.2.1 (by omega), Option.bind_some, e2]
    · rw [ef_1 h1 (by omega), if_neg h1]
      by_cases h2 : w = 2
      · rw [et_2 h2, if_pos h2, ZA_1_9 ha, Option.bind_some, Zl5 s.2.2.2.1 (by omega), Option.bind_some, e4]
      · rw [ef_2 h2 (by omega), if_neg h2]
        by_cases h3 : w = 3
        · rw [et_3 h3, if_pos h3, X_rankOf hN5 hE hok hx, zbd_s]
        · rw [ef_3 h3 (by omega), if_neg h3, ZA_1_10 ha, Option.bind_some, Zl5 s.2.2.2.2.1 (by omega), Option.bind_some, e5]
theorem M_raceTells {x w : Nat} (hN5 : hN H ≤ 5) (h40 : hY H ≤ 40) (hG : encG H m) (hb : m 81 29 = nI q) (hE : encM q H R m) (hok : okR H R) (hx : x < hN H) (hw : w ≤ 4) : dn_X5_raceTells 81 (nI x) (nI w) (Z k m) = some (tlS H R x w, Z k m) := by
  have hq := hE.1
  obtain ⟨e1, e2, e3, e4, e5, e6⟩ := hE.2.2.2.2 x hx
  have yx := (hok.2.2 x hx).2.2.1
  unfold dn_X5_raceTells tlS
  rw [ZO_5 s81, Option.bind_some]
  by_cases h0 : w = 0
  · rw [et_0 h0, if_pos h0, ZI_5_10 s81, Option.bind_some, hG.1, nB_3, M_v hb (by omega), zbd_s, e1, M_lesN (by omega) (by omega), zbd_s, Nat.min_comm]
  · rw [ef_0 h0 (by omega), if_neg h0]
    by_cases h1 : w = 1
    · rw [et_1 h1, if_pos h1, nB_8, M_v hb (by omega), zbd_s, e2]
    · rw [ef_1 h1 (by omega), if_neg h1]
      by_cases h2 : w = 2
      · rw [et_2 h2, if_pos h2, nB_13, M_v hb (by omega), zbd_s, e3]
      · rw [ef_2 h2 (by omega), if_neg h2]
        by_cases h3 : w = 3
        · rw [et_3 h3, if_pos h3, M_rankOf hN5 hG hb hE hok hx, zbd_s]
        · rw [ef_3 h3 (by omega), if_neg h3, nB_18, M_v hb (by omega), zbd_s, e4]
end
