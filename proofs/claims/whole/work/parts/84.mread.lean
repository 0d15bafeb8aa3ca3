/-! how the reference reads -/
def slM : Option Int → Int32
  | none => -9
  | some z => iI z
def nkM : Option Nat → Int32
  | none => -9
  | some z => nI z
def bt (f : Nat → Int32) (n i : Nat) : Int32 := if i < n then f i else 0
def tM (t n : Nat) (f : Nat → Int32) (m : Nat → Nat → Int32) : Prop := m 86 t = nI n ∧ ∀ i, i < n → m 87 (100 * t + i) = f i
def frm (m m' : Nat → Nat → Int32) : Prop := (∀ a, a ≠ 81 → (a < 94 ∨ 98 < a) → m' a = m a) ∧ ∀ j, (j < 19 ∨ 21 < j) → m' 81 j = m 81 j
def PIm (f : Nat → Int32) (n x : Nat) (m : Nat → Nat → Int32) : Prop := m 81 20 = nI (yS f n) ∧ m 81 21 = nI x ∧ (∀ y, y < yS f n → m 94 y = iI (rsS f n y)) ∧ ∀ i, i < x → m 95 i = nI (rkK f n i) ∧ m 96 i = nI (rbB f n i) ∧ m 97 i = nI (rzZ f n i) ∧ ∀ j, j < rzZ f n i → m 98 (8 * i + j) = nI (rpP f n i j)
section
variable {k k' : zK} {m m' : Nat → Nat → Int32} {s : zSt} {f : Nat → Int32} {n t : Nat}
theorem frm.rf : frm m m := ⟨fun _ _ _ => rfl, fun _ _ => rfl⟩
theorem frm.tr {m2 : Nat → Nat → Int32} (h1 : frm m m') (h2 : frm m' m2) : frm m m2 := ⟨fun a b c => (h2.1 a b c).trans (h1.1 a b c), fun j hj => (h2.2 j hj).trans (h1.2 j hj)⟩
theorem frm.w (h : frm m m') : zFw m m' := ⟨fun a b _ _ _ _ _ c => h.1 a b c, fun j hj => h.2 j (by omega), fun j _ => by rw [h.1 100 (by omega) (by omega)]⟩
theorem tM.fr (h : tM t n f m) (hf : frm m m') : tM t n f m' := by
  unfold tM
  rw [hf.1 86 (by omega) (by omega), hf.1 87 (by omega) (by omega)]
  exact h
theorem frm.f81 {j : Nat} {v : Int32} (h : 19 ≤ j ∧ j ≤ 21) : frm m (mu m 81 j v) := ⟨fun a h1 _ => mu_ar _ _ _ h1, fun i hi => mu_j _ _ (by omega)⟩
theorem M_sl (v : Int32) (h : zAH) : dn_X5_slopeOf v h = some (slM (slO v), h) := by
  unfold dn_X5_slopeOf slO jn_X5_slopeOf_42
  by_cases h1 : v = 61
  · rw [if_pos h1, if_pos h1]; rfl
  rw [if_neg h1, if_neg h1]
  by_cases h2 : v = 47
  · rw [if_pos h2, if_pos h2]; rfl
  rw [if_neg h2, if_neg h2]
  by_cases h3 : v = 94
  · rw [if_pos h3, if_pos h3]; rfl
  rw [if_neg h3, if_neg h3]
  by_cases h4 : v = 92
  · rw [if_pos h4, if_pos h4]; rfl
  rw [if_neg h4, if_neg h4]
  rfl
theorem M_pc (v : Int32) (h : zAH) : dn_X5_paceOf v h = some (nkM (pcO v), h) := by
  unfold dn_X5_paceOf pcO jn_X5_paceOf_42
  by_cases h1 : v = 122
  · rw [if_pos h1, if_pos h1]; rfl
  rw [if_neg h1, if_neg h1]
  by_cases h2 : v = 119
  · rw [if_pos h2, if_pos h2]; rfl
  rw [if_neg h2, if_neg h2]
  by_cases h3 : v = 114
  · rw [if_pos h3, if_pos h3]; rfl
  rw [if_neg h3, if_neg h3]
  by_cases h4 : v = 115
  · rw [if_pos h4, if_pos h4]; rfl
  rw [if_neg h4, if_neg h4]
  rfl
theorem kd_cs (v : Int32) : (v = 103 ∧ kdO v = some 1) ∨ (v = 104 ∧ kdO v = some 3) ∨ (v = 109 ∧ kdO v = some 4) ∨ (v = 110 ∧ kdO v = some 0) ∨ (v = 111 ∧ kdO v = some 2) ∨ (v = 117 ∧ kdO v = some 5) ∨ (¬ v = 103 ∧ ¬ v = 104 ∧ ¬ v = 109 ∧ ¬ v = 110 ∧ ¬ v = 111 ∧ ¬ v = 117 ∧ kdO v = none) := by
  by_cases h1 : v = 103
  · subst h1; exact Or.inl ⟨rfl, by decide⟩
  by_cases h2 : v = 104
  · subst h2; exact Or.inr (Or.inl ⟨rfl, by decide⟩)
  by_cases h3 : v = 109
  · subst h3; exact Or.inr (Or.inr (Or.inl ⟨rfl, by decide⟩))
  by_cases h4 : v = 110
  · subst h4; exact Or.inr (Or.inr (Or.inr (Or.inl ⟨rfl, by decide⟩)))
  by_cases h5 : v = 111
  · subst h5; exact Or.inr (Or.inr (Or.inr (Or.inr (Or.inl ⟨rfl, by decide⟩))))
  by_cases h6 : v = 117
  · subst h6; exact Or.inr (Or.inr (Or.inr (Or.inr (Or.inr (Or.inl ⟨rfl, by decide⟩)))))
  refine Or.inr (Or.inr (Or.inr (Or.inr (Or.inr (Or.inr ⟨h1, h2, h3, h4, h5, h6, ?_⟩)))))
  unfold kdO
  rw [if_neg h4, if_neg h1, if_neg h5, if_neg h2, if_neg h3, if_neg h6]
theorem M_kd (v : Int32) (h : zAH) : dn_X5_kindOf v h = some (nkM (kdO v), h) := by
  unfold dn_X5_kindOf jn_X5_kindOf_88
  rcases kd_cs v with ⟨rfl, e⟩ | ⟨rfl, e⟩ | ⟨rfl, e⟩ | ⟨rfl, e⟩ | ⟨rfl, e⟩ | ⟨rfl, e⟩ | ⟨h1, h2, h3, h4, h5, h6, e⟩
  · rw [e, if_pos rfl]; rfl
  · rw [e, if_neg (by decide), if_pos rfl]; rfl
  · rw [e, if_neg (by decide), if_neg (by decide), if_pos rfl]; rfl
  · rw [e, if_neg (by decide), if_neg (by decide), if_neg (by decide), if_pos rfl]; rfl
  · rw [e, if_neg (by decide), if_neg (by decide), if_neg (by decide), if_neg (by decide), if_pos rfl]; rfl
  · rw [e, if_neg (by decide), if_neg (by decide), if_neg (by decide), if_neg (by decide), if_neg (by decide), if_pos rfl]; rfl
  · rw [e, if_neg h1, if_neg h2, if_neg h3, if_neg h4, if_neg h5, if_neg h6]; rfl
theorem bt_rd {α : Type} {O : Int32 → Option α} (h0 : O 0 = none) (i : Nat) : O (bt f n i) = rd f n O i := by
  unfold bt rd
  by_cases h : i < n
  · rw [if_pos h, if_pos h]
  · rw [if_neg h, if_neg h, h0]
theorem bt_sl (i : Nat) : slO (bt f n i) = rd f n slO i := bt_rd (by decide) i
theorem bt_pc (i : Nat) : pcO (bt f n i) = rd f n pcO i := bt_rd (by decide) i
theorem bt_kd (i : Nat) : kdO (bt f n i) = rd f n kdO i := bt_rd (by decide) i
theorem bt_bd (i : Nat) : bdO (bt f n i) = rd f n bdO i := bt_rd (by decide) i
theorem ir48 (v : Int32) : ir (v - 48) 1 9 = bdO v := by
  have b1 := Int32.le_toInt v
  have b2 := Int32.toInt_lt v
  have e : (v - 48).toInt = (v.toInt - 48).bmod (2 ^ 32) := Int32.toInt_sub v 48
  have e1 : (v.toInt - 48).bmod (2 ^ 32) = if (v.toInt - 48) % 4294967296 < 2147483648 then (v.toInt - 48) % 4294967296 else (v.toInt - 48) % 4294967296 - 4294967296 := by
    rw [Int.bmod_def]
    rfl
  unfold bdO
  unfold ir
  rw [e, e1]
  by_cases h : 49 ≤ v.toInt ∧ v.toInt ≤ 57
  · rw [if_pos (show (v.toInt - 48) % 4294967296 < 2147483648 by omega), if_pos (by omega), if_pos (show ((49 : Nat) : Int) ≤ v.toInt ∧ v.toInt ≤ ((57 : Nat) : Int) by omega)]
    dsimp only
    congr 1
    omega
  · rw [if_neg (show ¬ (((49 : Nat) : Int) ≤ v.toInt ∧ v.toInt ≤ ((57 : Nat) : Int)) by omega), if_neg]
    intro z
    by_cases hc : (v.toInt - 48) % 4294967296 < 2147483648
    · rw [if_pos hc] at z; omega
    · rw [if_neg hc] at z; omega
theorem n48 : ∀ b, b < 10 → nI (b + 48) - 48 = nI b := by decide +kernel
theorem M_bt {p : Nat} (ht : t < 4) (hn : n ≤ 100) (hT : tM t n f m) (hp : p < 2 ^ 31) : dn_X5_byteAt 81 (nI t) (nI p) (Z k m) = some (bt f n p, Z k m) := by
  rw [M_byteAt ht hT.1 hn hp]
  unfold bt
  by_cases h : p < n
  · rw [if_pos h, if_pos h, hT.2 p h]
  · rw [if_neg h, if_neg h]
theorem slM_ne {o : Option Int} {v : Int32} (h : o = slO v) (h' : o.isSome = true) : ¬ slM o = -9 := by
  cases o with
  | none => cases h'
  | some z =>
    have := slO_r h.symm
    show ¬ iI z = -9
    rw [iI_m9, iI_eq (by omega) (by omega) (by omega) (by omega)]
    omega
theorem nkM_ne {z : Nat} (h : z ≤ 100) : ¬ nkM (some z) = -9 := nI_ne9 (by omega)
theorem slM_g {o : Option Int} (h : o.isSome = true) : slM o = iI (o.getD 0) := by
  cases o with
  | none => cases h
  | some z => rfl
theorem nkM_g {o : Option Nat} (h : o.isSome = true) : nkM o = nI (o.getD 0) := by
  cases o with
  | none => cases h
  | some z => rfl
theorem M_readsRoad {p : Nat} (ht : t < 4) (hn : n ≤ 100) (hT : tM t n f m) (hp : p < n) (e19 : m 81 19 = nI p) (e20 : m 81 20 = 0) :
    (¬ f p = 121 → dn_X5_readsRoad 81 (nI t) (Z k m) = some (0, Z k m)) ∧ (f p = 121 → ∃ m', dn_X5_readsRoad 81 (nI t) (Z k m) = some (if 0 < rnL (gS f n) 40 (p + 1) then 1 else 0, Z k m') ∧ m' 81 19 = nI (p + 1 + rnL (gS f n) 40 (p + 1)) ∧ m' 81 20 = nI (rnL (gS f n) 40 (p + 1)) ∧ (∀ y, y < rnL (gS f n) 40 (p + 1) → m' 94 y = iI ((rd f n slO (p + 1 + y)).getD 0)) ∧ (∀ a, a ≠ 81 → a ≠ 94 → m' a = m a) ∧ ∀ j, j ≠ 19 → j ≠ 20 → m' 81 j = m 81 j) := by
  have hbp : bt f n p = f p := if_pos hp
  unfold dn_X5_readsRoad
  rw [ZO_5 s81, Option.bind_some, ZI_5_19 s81, Option.bind_some, e19, M_bt ht hn hT (by omega), zbd_s, hbp]
  refine ⟨fun h => by rw [if_neg h, if_pos (Or.inl rfl)], fun h => ?_⟩
  rw [if_pos h, ZI_5_19 s81, Option.bind_some, e19, nA_1, ZP_5_19 s81, Option.bind_some]
  unfold lp_X5_readsRoad_26
  have hY := rnL_le (g := gS f n) 40 (p + 1)
  have hYt := rnL_t (g := gS f n) 40 (p + 1)
  have hYf := rnL_f (g := gS f n) 40 (p + 1)
  generalize rnL (gS f n) 40 (p + 1) = Y at hY hYt hYf ⊢
  refine lp_inv (N := Y) (I := fun y _ h => ∃ m', h = Z k m' ∧ m' 81 19 = nI (p + 1 + y) ∧ m' 81 20 = nI y ∧ (∀ i, i < y → m' 94 i = iI ((rd f n slO (p + 1 + i)).getD 0)) ∧ (∀ a, a ≠ 81 → a ≠ 94 → m' a = m a) ∧ ∀ j, j ≠ 19 → j ≠ 20 → m' 81 j = m 81 j) (Q := fun r => ∃ m', r = some (if 0 < Y then 1 else 0, Z k m') ∧ m' 81 19 = nI (p + 1 + Y) ∧ m' 81 20 = nI Y ∧ (∀ y, y < Y → m' 94 y = iI ((rd f n slO (p + 1 + y)).getD 0)) ∧ (∀ a, a ≠ 81 → a ≠ 94 → m' a = m a) ∧ ∀ j, j ≠ 19 → j ≠ 20 → m' 81 j = m 81 j) ?_ ?_ Y 0 2000 () _ (by omega) (by omega) ⟨mu m 81 19 (nI (p + 1)), rfl, mu_s _ _ _ _, by rw [mu_j _ _ (by omega)]; exact e20, fun i hi => absurd hi (Nat.not_lt_zero i), fun a h1 _ => mu_ar _ _ _ h1, fun j h1 _ => mu_j _ _ h1⟩
  · rintro y _ h hy ⟨m', rfl, q1, q2, q3, q4, q5⟩
    left
    have hT' : tM t n f m' := by
      unfold tM
      rw [q4 86 (by omega) (by omega), q4 87 (by omega) (by omega)]
      exact hT
    have hg : (rd f n slO (p + 1 + y)).isSome = true := hYt y hy
    have hlt := (rd_s hg).1
    have e2 : mu m' 94 y (slM (rd f n slO (p + 1 + y))) 81 20 = nI y := by rw [mu_a _ _ _ _ (by omega)]; exact q2
    have e3 : mu (mu m' 94 y (slM (rd f n slO (p + 1 + y)))) 81 20 (nI (y + 1)) 81 19 = nI (p + 1 + y) := by rw [mu_j _ _ (by omega), mu_a _ _ _ _ (by omega)]; exact q1
    refine ⟨(), Z k (mu (mu (mu m' 94 y (slM (rd f n slO (p + 1 + y)))) 81 20 (nI (y + 1))) 81 19 (nI (p + 1 + (y + 1)))), ⟨_, rfl, mu_s _ _ _ _, ?_, fun i hi => ?_, fun a h1 h2 => ?_, fun j h1 h2 => ?_⟩, fun rec => ?_⟩
    · rw [mu_j _ _ (by omega), mu_s]
    · rw [mu_a _ _ _ _ (by omega), mu_a _ _ _ _ (by omega)]
      by_cases hiy : i = y
      · subst hiy
        rw [mu_s, slM_g hg]
      · rw [mu_j _ _ hiy]
        exact q3 i (by omega)
    · rw [mu_ar _ _ _ h1, mu_ar _ _ _ h1, mu_ar _ _ _ h2]
      exact q4 a h1 h2
    · rw [mu_j _ _ h1, mu_j _ _ h2, mu_a _ _ _ _ (by omega)]
      exact q5 j h1 h2
    · unfold lb_X5_readsRoad_26
      rw [ZI_5_20 s81, Option.bind_some, q2, it_40 (by omega), ZI_5_19 s81, Option.bind_some, q1, M_bt ht hn hT' (by omega), zbd_s, M_sl, zbd_s, bt_sl, if_neg (slM_ne (v := f (p + 1 + y)) (rd_t hlt) hg), ZA_5_22 s81, Option.bind_some, ZI_5_20 s81, Option.bind_some, q2, ZI_5_19 s81, Option.bind_some, q1, M_bt ht hn hT' (by omega), zbd_s, M_sl, zbd_s, bt_sl, Ms_94 (by omega), Option.bind_some, ZI_5_20 s81, Option.bind_some, e2, nA_1, ZP_5_20 s81, Option.bind_some, ZI_5_19 s81, Option.bind_some, e3, nA_1, ZP_5_19 s81, Option.bind_some]
      rfl
  · rintro _ h ⟨m', rfl, q1, q2, q3, q4, q5⟩ rec
    have hT' : tM t n f m' := by
      unfold tM
      rw [q4 86 (by omega) (by omega), q4 87 (by omega) (by omega)]
      exact hT
    refine ⟨m', ?_, q1, q2, q3, q4, q5⟩
    have hend : jn_X5_readsRoad_96 81 (Z k m') = some (if 0 < Y then 1 else 0, Z k m') := by
      unfold jn_X5_readsRoad_96 jn_X5_readsRoad_108
      rw [ZI_5_20 s81, Option.bind_some, q2]
      by_cases h0 : 0 < Y
      · rw [jt_0 h0 (by omega), if_pos (Or.inr rfl), if_pos h0]
      · rw [jf_0 h0, if_pos (Or.inl rfl), if_neg h0]
    unfold lb_X5_readsRoad_26
    rw [ZI_5_20 s81, Option.bind_some, q2]
    by_cases h40 : Y < 40
    · have hg : rd f n slO (p + 1 + Y) = none := by
        have := hYf h40
        unfold gS at this
        exact Option.not_isSome_iff_eq_none.mp (Bool.eq_false_iff.mp this)
      rw [it_40 h40, ZI_5_19 s81, Option.bind_some, q1, M_bt ht hn hT' (by omega), zbd_s, M_sl, zbd_s, bt_sl, hg, if_pos (show slM none = -9 from rfl), hend]
    · rw [if_40 h40 (by omega), hend]
theorem M_rr0 {p x : Nat} (ht : t < 4) (hn : n ≤ 100) (hT : tM t n f m) (hp : p < n) (hx : x ≤ 5) (e19 : m 81 19 = nI p) (e21 : m 81 21 = nI x) (h : rd f n kdO p = none ∨ 5 ≤ x) : dn_X5_readsRunner 81 (nI t) (Z k m) = some (0, Z k m) := by
  unfold dn_X5_readsRunner jn_X5_readsRunner_27
  rw [ZO_5 s81, Option.bind_some, ZI_5_19 s81, Option.bind_some, e19, M_bt ht hn hT (by omega), zbd_s, M_kd, zbd_s, bt_kd, if_pos (Or.inl rfl)]
  cases hk : rd f n kdO p with
  | none => rw [if_pos (show nkM none = -9 from rfl)]
  | some kd =>
    have h5 := kdO_r (rd_of hk).2
    rw [hk] at h
    have hx5 : x = 5 := by
      rcases h with h | h
      · cases h
      · omega
    rw [if_neg (nkM_ne (by omega)), ZI_5_21 s81, Option.bind_some, e21, et_5 hx5]
theorem M_rr1 {p x kd : Nat} (ht : t < 4) (hn : n ≤ 100) (hT : tM t n f m) (hp : p < n) (hx : x < 5) (e19 : m 81 19 = nI p) (e21 : m 81 21 = nI x) (hk : rd f n kdO p = some kd) (hb : rd f n bdO (p + 1) = none) : dn_X5_readsRunner 81 (nI t) (Z k m) = some (0, Z k (mu m 81 19 (nI (p + 1)))) := by
  have h5 := kdO_r (rd_of hk).2
  have hT' := hT.fr (frm.f81 (j := 19) (v := nI (p + 1)) (by omega))
  unfold dn_X5_readsRunner
  rw [ZO_5 s81, Option.bind_some, ZI_5_19 s81, Option.bind_some, e19, M_bt ht hn hT (by omega), zbd_s, M_kd, zbd_s, bt_kd, hk, if_neg (nkM_ne (by omega)), ZI_5_21 s81, Option.bind_some, e21, ef_5 (by omega) (by omega), ZI_5_19 s81, Option.bind_some, e19, nA_1, ZP_5_19 s81, Option.bind_some, ZI_5_19 s81, Option.bind_some, mu_s, M_bt ht hn hT' (by omega), zbd_s, show ∀ v h, dn_X5_in v 1 9 h = _ from fun v h => M_ir v 1 9 (by omega) (by omega) h, zbd_s, ir48, bt_bd, hb, ifNo, ifb0, if_pos (Or.inl rfl)]
theorem M_rr2 {p x kd b : Nat} (ht : t < 4) (hn : n ≤ 100) (hT : tM t n f m) (hp : p < n) (hx : x < 5) (e19 : m 81 19 = nI p) (e21 : m 81 21 = nI x) (hk : rd f n kdO p = some kd) (hb : rd f n bdO (p + 1) = some b) : ∃ m', dn_X5_readsRunner 81 (nI t) (Z k m) = some (if cS f n p = 0 then 0 else 1, Z k m') ∧ m' 81 19 = nI (p + 2 + cS f n p) ∧ (¬ cS f n p = 0 → m' 81 21 = nI (x + 1) ∧ m' 95 x = nI kd ∧ m' 96 x = nI b ∧ m' 97 x = nI (cS f n p) ∧ ∀ i, i < cS f n p → m' 98 (8 * x + i) = nI ((rd f n pcO (p + 2 + i)).getD 0)) ∧ (∀ a, a ≠ 81 → (a < 95 ∨ 98 < a) → m' a = m a) ∧ (∀ j, j ≠ 19 → j ≠ 21 → m' 81 j = m 81 j) ∧ (∀ i, i ≠ x → m' 95 i = m 95 i ∧ m' 96 i = m 96 i ∧ m' 97 i = m 97 i) ∧ ∀ i, i < 8 * x → m' 98 i = m 98 i := by
  have h5 := kdO_r (rd_of hk).2
  have hb9 := bdO_r (rd_of hb).2
  have hp1 := (rd_of hb).1
  have hT' := hT.fr (frm.f81 (j := 19) (v := nI (p + 1)) (by omega))
  have hbt : bt f n (p + 1) = nI (b + 48) := by rw [show bt f n (p + 1) = f (p + 1) from if_pos hp1]; exact hb9.2.2
  have e20 : mu m 81 19 (nI (p + 1)) 81 19 = nI (p + 1) := mu_s _ _ _ _
  unfold dn_X5_readsRunner
  rw [ZO_5 s81, Option.bind_some, ZI_5_19 s81, Option.bind_some, e19, M_bt ht hn hT (by omega), zbd_s, M_kd, zbd_s, bt_kd, hk, if_neg (nkM_ne (by omega)), ZI_5_21 s81, Option.bind_some, e21, ef_5 (by omega) (by omega), ZI_5_19 s81, Option.bind_some, e19, nA_1, ZP_5_19 s81, Option.bind_some, ZI_5_19 s81, Option.bind_some, e20, M_bt ht hn hT' (by omega), zbd_s, show ∀ v h, dn_X5_in v 1 9 h = _ from fun v h => M_ir v 1 9 (by omega) (by omega) h, zbd_s, ir48, bt_bd, hb, ifSo, ifb1, ZI_5_19 s81, Option.bind_some, e20, nA_1, ZP_5_19 s81, Option.bind_some, hbt, n48 b (by omega)]
  unfold lp_X5_readsRunner_77
  have hC := rnL_le (g := gP f n) 8 (p + 2)
  have hCt := rnL_t (g := gP f n) 8 (p + 2)
  have hCf := rnL_f (g := gP f n) 8 (p + 2)
  unfold cS
  generalize rnL (gP f n) 8 (p + 2) = C at hC hCt hCf ⊢
  refine lp_inv (N := C) (I := fun i st h => st = nI i ∧ ∃ m', h = Z k m' ∧ m' 81 19 = nI (p + 2 + i) ∧ (∀ j, j < i → m' 98 (8 * x + j) = nI ((rd f n pcO (p + 2 + j)).getD 0)) ∧ (∀ a, a ≠ 81 → a ≠ 98 → m' a = m a) ∧ (∀ j, j ≠ 19 → m' 81 j = m 81 j) ∧ ∀ i, i < 8 * x → m' 98 i = m 98 i) (Q := fun r => ∃ m', r = some (if C = 0 then 0 else 1, Z k m') ∧ m' 81 19 = nI (p + 2 + C) ∧ (¬ C = 0 → m' 81 21 = nI (x + 1) ∧ m' 95 x = nI kd ∧ m' 96 x = nI b ∧ m' 97 x = nI C ∧ ∀ i, i < C → m' 98 (8 * x + i) = nI ((rd f n pcO (p + 2 + i)).getD 0)) ∧ (∀ a, a ≠ 81 → (a < 95 ∨ 98 < a) → m' a = m a) ∧ (∀ j, j ≠ 19 → j ≠ 21 → m' 81 j = m 81 j) ∧ (∀ i, i ≠ x → m' 95 i = m 95 i ∧ m' 96 i = m 96 i ∧ m' 97 i = m 97 i) ∧ ∀ i, i < 8 * x → m' 98 i = m 98 i) ?_ ?_ C 0 2000 0 _ (by omega) (by omega) ⟨rfl, mu (mu m 81 19 (nI (p + 1))) 81 19 (nI (p + 1 + 1)), rfl, mu_s _ _ _ _, fun i hi => absurd hi (Nat.not_lt_zero i), fun a h1 _ => by rw [mu_ar _ _ _ h1, mu_ar _ _ _ h1], fun j h1 => by rw [mu_j _ _ h1, mu_j _ _ h1], fun i _ => by rw [mu_a _ _ _ _ (by omega), mu_a _ _ _ _ (by omega)]⟩
  · rintro i _ h hi ⟨rfl, m', rfl, q1, q2, q3, q4, q5⟩
    left
    have hT2 : tM t n f m' := by
      unfold tM
      rw [q3 86 (by omega) (by omega), q3 87 (by omega) (by omega)]
      exact hT
    have e21' : m' 81 21 = nI x := by rw [q4 21 (by omega)]; exact e21
    have hg : (rd f n pcO (p + 2 + i)).isSome = true := hCt i hi
    have hlt := (rd_s hg).1
    obtain ⟨z, hz⟩ := Option.isSome_iff_exists.mp hg
    have hz3 := pcO_r (rd_of hz).2
    have e3 : mu m' 98 (8 * x + i) (nI z) 81 19 = nI (p + 2 + i) := by rw [mu_a _ _ _ _ (by omega)]; exact q1
    refine ⟨nI (i + 1), Z k (mu (mu m' 98 (8 * x + i) (nI z)) 81 19 (nI (p + 2 + (i + 1)))), ⟨rfl, _, rfl, mu_s _ _ _ _, fun j hj => ?_, fun a h1 h2 => ?_, fun j h1 => ?_, fun j h1 => ?_⟩, fun rec => ?_⟩
    · rw [mu_a _ _ _ _ (by omega)]
      by_cases hji : j = i
      · subst hji
        rw [mu_s, hz]
        rfl
      · rw [mu_j _ _ (by omega)]
        exact q2 j (by omega)
    · rw [mu_ar _ _ _ h1, mu_ar _ _ _ h2]
      exact q3 a h1 h2
    · rw [mu_j _ _ h1, mu_a _ _ _ _ (by omega)]
      exact q4 j h1
    · rw [mu_a _ _ _ _ (by omega), mu_j _ _ (by omega)]
      exact q5 j h1
    · unfold lb_X5_readsRunner_77
      rw [it_8 (by omega), ZI_5_19 s81, Option.bind_some, q1, M_bt ht hn hT2 (by omega), zbd_s, M_pc, zbd_s, bt_pc, hz, if_neg (nkM_ne (by omega)), ZA_5_26 s81, Option.bind_some, ZI_5_21 s81, Option.bind_some, e21', ZI_5_19 s81, Option.bind_some, q1, M_bt ht hn hT2 (by omega), zbd_s, M_pc, zbd_s, bt_pc, hz, nM_8, nI_add, show nkM (some z) = nI z from rfl, Ms_98 (by omega), Option.bind_some, ZI_5_19 s81, Option.bind_some, e3, nA_1, ZP_5_19 s81, Option.bind_some, nA_1]
      rfl
  · rintro _ h ⟨rfl, m', rfl, q1, q2, q3, q4, q5⟩ rec
    have hT2 : tM t n f m' := by
      unfold tM
      rw [q3 86 (by omega) (by omega), q3 87 (by omega) (by omega)]
      exact hT
    have e21' : m' 81 21 = nI x := by rw [q4 21 (by omega)]; exact e21
    have hend : ∃ m2, jn_X5_readsRunner_144 81 (nkM (some kd)) (nI b) (nI C) (Z k m') = some (if C = 0 then 0 else 1, Z k m2) ∧ m2 81 19 = nI (p + 2 + C) ∧ (¬ C = 0 → m2 81 21 = nI (x + 1) ∧ m2 95 x = nI kd ∧ m2 96 x = nI b ∧ m2 97 x = nI C ∧ ∀ i, i < C → m2 98 (8 * x + i) = nI ((rd f n pcO (p + 2 + i)).getD 0)) ∧ (∀ a, a ≠ 81 → (a < 95 ∨ 98 < a) → m2 a = m a) ∧ (∀ j, j ≠ 19 → j ≠ 21 → m2 81 j = m 81 j) ∧ (∀ i, i ≠ x → m2 95 i = m 95 i ∧ m2 96 i = m 96 i ∧ m2 97 i = m 97 i) ∧ ∀ i, i < 8 * x → m2 98 i = m 98 i := by
      unfold jn_X5_readsRunner_144
      by_cases hC0 : C = 0
      · refine ⟨m', by rw [et_0 hC0, if_pos (Or.inl rfl), if_pos hC0], q1, fun z => absurd hC0 z, fun a h1 h2 => q3 a h1 (by omega), fun j h1 _ => q4 j h1, fun i _ => ?_, q5⟩
        rw [q3 95 (by omega) (by omega), q3 96 (by omega) (by omega), q3 97 (by omega) (by omega)]
        exact ⟨rfl, rfl, rfl⟩
      · have e22 : mu m' 95 x (nI kd) 81 21 = nI x := by rw [mu_a _ _ _ _ (by omega)]; exact e21'
        have e23 : mu (mu m' 95 x (nI kd)) 96 x (nI b) 81 21 = nI x := by rw [mu_a _ _ _ _ (by omega)]; exact e22
        have e24 : mu (mu (mu m' 95 x (nI kd)) 96 x (nI b)) 97 x (nI C) 81 21 = nI x := by rw [mu_a _ _ _ _ (by omega)]; exact e23
        refine ⟨mu (mu (mu (mu m' 95 x (nI kd)) 96 x (nI b)) 97 x (nI C)) 81 21 (nI (x + 1)), ?_, ?_, fun _ => ⟨mu_s _ _ _ _, ?_, ?_, ?_, fun i hi => ?_⟩, fun a h1 h2 => ?_, fun j h1 h2 => ?_, fun i hi => ⟨?_, ?_, ?_⟩, fun i hi => ?_⟩
        · rw [ef_0 hC0 (by omega), if_neg hC0, ZA_5_23 s81, Option.bind_some, ZI_5_21 s81, Option.bind_some, e21', show nkM (some kd) = nI kd from rfl, Ms_95 (by omega), Option.bind_some, ZA_5_24 s81, Option.bind_some, ZI_5_21 s81, Option.bind_some, e22, Ms_96 (by omega), Option.bind_some, ZA_5_25 s81, Option.bind_some, ZI_5_21 s81, Option.bind_some, e23, Ms_97 (by omega), Option.bind_some, ZI_5_21 s81, Option.bind_some, e24, nA_1, ZP_5_21 s81, Option.bind_some, if_pos (Or.inr rfl)]
        · rw [mu_j _ _ (by omega), mu_a _ _ _ _ (by omega), mu_a _ _ _ _ (by omega), mu_a _ _ _ _ (by omega)]; exact q1
        · rw [mu_a _ _ _ _ (by omega), mu_a _ _ _ _ (by omega), mu_a _ _ _ _ (by omega), mu_s]
        · rw [mu_a _ _ _ _ (by omega), mu_a _ _ _ _ (by omega), mu_s]
        · rw [mu_a _ _ _ _ (by omega), mu_s]
        · rw [mu_a _ _ _ _ (by omega), mu_a _ _ _ _ (by omega), mu_a _ _ _ _ (by omega), mu_a _ _ _ _ (by omega)]; exact q2 i hi
        · rw [mu_ar _ _ _ h1, mu_ar _ _ _ (by omega), mu_ar _ _ _ (by omega), mu_ar _ _ _ (by omega)]; exact q3 a h1 (by omega)
        · rw [mu_j _ _ h2, mu_a _ _ _ _ (by omega), mu_a _ _ _ _ (by omega), mu_a _ _ _ _ (by omega)]; exact q4 j h1
        · rw [mu_a _ _ _ _ (by omega), mu_a _ _ _ _ (by omega), mu_a _ _ _ _ (by omega), mu_j _ _ hi, q3 95 (by omega) (by omega)]
        · rw [mu_a _ _ _ _ (by omega), mu_a _ _ _ _ (by omega), mu_j _ _ hi, mu_a _ _ _ _ (by omega), q3 96 (by omega) (by omega)]
        · rw [mu_a _ _ _ _ (by omega), mu_j _ _ hi, mu_a _ _ _ _ (by omega), mu_a _ _ _ _ (by omega), q3 97 (by omega) (by omega)]
        · rw [mu_a _ _ _ _ (by omega), mu_a _ _ _ _ (by omega), mu_a _ _ _ _ (by omega), mu_a _ _ _ _ (by omega)]; exact q5 i hi
    have hgo : lb_X5_readsRunner_77 81 (nI t) (nkM (some kd)) (nI b) rec (nI C) (Z k m') = jn_X5_readsRunner_144 81 (nkM (some kd)) (nI b) (nI C) (Z k m') := by
      unfold lb_X5_readsRunner_77
      by_cases h8 : C < 8
      · have hg : rd f n pcO (p + 2 + C) = none := by
          have := hCf h8
          unfold gP at this
          exact Option.not_isSome_iff_eq_none.mp (Bool.eq_false_iff.mp this)
        rw [it_8 h8, ZI_5_19 s81, Option.bind_some, q1, M_bt ht hn hT2 (by omega), zbd_s, M_pc, zbd_s, bt_pc, hg, if_pos (show nkM none = -9 from rfl)]
      · rw [if_8 h8 (by omega)]
    rw [hgo]
    exact hend
end
