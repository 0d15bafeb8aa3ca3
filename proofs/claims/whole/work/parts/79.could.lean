/-! could -/
def rnI (f : Nat → Int32) (N : Nat) : Nat → Option Nat
  | 0 => some 0
  | n + 1 => match rnI f N n with
    | none => none
    | some b => match ix (f n) N with
      | none => none
      | some x => if b.testBit x then none else some (b ||| 2 ^ x)
theorem rnI_lt {f : Nat → Int32} {N : Nat} (hN : N ≤ 5) : ∀ n b, rnI f N n = some b → b < 32
  | 0, b, h => by
    have : 0 = b := Option.some.inj h
    omega
  | n + 1, b, h => by
    rw [rnI] at h
    cases h1 : rnI f N n with
    | none => rw [h1] at h; cases h
    | some b0 =>
      rw [h1] at h
      have h2 := rnI_lt hN n b0 h1
      cases h3 : ix (f n) N with
      | none => rw [h3] at h; cases h
      | some x =>
        rw [h3] at h
        obtain ⟨-, hx⟩ := ix_s (by omega) h3
        have h' : (if b0.testBit x then none else some (b0 ||| 2 ^ x)) = some b := h
        by_cases hb : b0.testBit x = true
        · rw [if_pos hb] at h'; cases h'
        · rw [if_neg hb] at h'
          have := Option.some.inj h'
          rw [← this]
          exact (bt_or b0 h2 x (by omega)).2
theorem rnI_no {f : Nat → Int32} {N n : Nat} (h : rnI f N n = none) : ∀ d, rnI f N (n + d) = none
  | 0 => h
  | d + 1 => by
    show rnI f N (n + d + 1) = none
    rw [rnI, rnI_no h d]
def plF (f : Nat → Int32) (v : Int32) : Nat → Nat → Int32
  | 0, _ => -9
  | c + 1, i => if f i = v then nI i else plF f v c (i + 1)
def rX : Option Nat → Int32
  | none => -9
  | some b => nI b
def rM : Option Nat → Int32
  | none => -1
  | some b => nI b
def ovJ (f : Nat → Int32) (p : Int32 → Int32) (i : Nat) : Nat → Int32 → Int32
  | 0, t => t
  | c + 1, t => if p (f (i + 1 + c)) < p (f i) then ovJ f p i c t ||| (1 <<< (f i &&& 31)) else ovJ f p i c t
def ovO (f : Nat → Int32) (p : Int32 → Int32) (n : Nat) : Nat → Int32
  | 0 => 0
  | i + 1 => ovJ f p i (n - (i + 1)) (ovO f p n i)
def cdS (W : zWr) (N a b : Nat) (set : Int32) (s : zSt) : Int32 × zSt := match W.1 a, W.1 b with
  | some n, some n' => if n = n' then (match rnI (W.2 a) N n with
      | none => (-3, sFd 3 s)
      | some x => if rnI (W.2 b) N n = some x then (if ovO (W.2 a) (fun v => plF (W.2 b) v n 0) n n = 0 then set else ovO (W.2 a) (fun v => plF (W.2 b) v n 0) n n, s) else (-3, sFd 3 s)) else (-3, sFd 5 s)
  | _, _ => (-3, sFd 1 s)
def g_could (r l set : Int32) (s : zSt) : Int32 × zSt := match ix r 6 with
  | none => (-1, s)
  | some a => match ix l 6 with
    | none => (-1, s)
    | some b => match ix set (2 ^ hN (sH s)) with
      | none => (-1, s)
      | some _ => cdS (sW s) (hN (sH s)) a b set s
theorem sh_all : ∀ n, n < 6 → ((1 : Int32) <<< (nI n &&& 31)) = nI (2 ^ n) ∧ 2 ^ n ≤ 32 ∧ 1 ≤ 2 ^ n := by decide +kernel
section
variable {k k' : zK} {m m' : Nat → Nat → Int32} {s : zSt} {c : Nat} {H : zHD} {R : zRS}
theorem X_runnersIn {b n N : Nat} {f : Nat → Int32} (hb : shp b = 3) (e : m b 1 = nI n) (hr : ∀ i, i < n → zaI 0 (b + 1) (nI i) (Z k m) = some (f i)) (hn : n ≤ 100) (hN : N ≤ 5) : dn_X3_runnersIn b (nI N) (Z k m) = some (rX (rnI f N n), Z k m) := by
  unfold dn_X3_runnersIn lp_X3_runnersIn_4
  rw [ZO_3 hb, Option.bind_some]
  refine lp_inv (N := n) (I := fun i t h => ∃ x, rnI f N i = some x ∧ t = (nI x, nI i) ∧ h = Z k m) (Q := fun r => r = some (rX (rnI f N n), Z k m)) ?_ ?_ n 0 2000 _ _ (by omega) (by omega) ⟨0, rfl, rfl, rfl⟩
  · rintro i t h hi ⟨x, h1, rfl, rfl⟩
    have hx := rnI_lt hN i x h1
    have hno : rnI f N (i + 1) = none → rX (rnI f N n) = -9 := fun z => by
      rw [show n = i + 1 + (n - (i + 1)) by omega, rnI_no z]
      rfl
    have hgo : ∀ rec, lb_X3_runnersIn_4 b (nI N) rec (nI x, nI i) (Z k m) = if f i < 0 then some (-9, Z k m) else if f i < nI N then (if (nI x &&& (1 <<< (f i &&& 31))) = 0 then rec (nI x ||| (1 <<< (f i &&& 31)), nI (i + 1)) (Z k m) else some (-9, Z k m)) else some (-9, Z k m) := by
      intro rec
      unfold lb_X3_runnersIn_4 jn_X3_runnersIn_40
      dsimp only
      rw [ZI_3_1 hb, Option.bind_some, e, ifLt hi (by omega), ZA_3_0 hb, Option.bind_some, hr i hi, Option.bind_some, nA_1]
    rcases ix_c (f i) N (by omega) with ⟨y, hy, ey, e1⟩ | ⟨e1, h0⟩
    · by_cases hbt : x.testBit y = true
      · right
        intro rec
        have hn1 : rnI f N (i + 1) = none := by
          rw [rnI, h1]
          dsimp only
          rw [e1]
          dsimp only
          rw [if_pos hbt]
        rw [hgo, hno hn1, ey, if_neg (nIn0 (by omega)), ifLt hy (by omega), if_neg (bt_add2 x hx y (by omega) hbt)]
      · left
        have hbt' : x.testBit y = false := by
          cases hq : x.testBit y
          · rfl
          · exact absurd hq hbt
        have hn1 : rnI f N (i + 1) = some (x ||| 2 ^ y) := by
          rw [rnI, h1]
          dsimp only
          rw [e1]
          dsimp only
          rw [if_neg hbt]
        refine ⟨(nI (x ||| 2 ^ y), nI (i + 1)), Z k m, ⟨_, hn1, rfl, rfl⟩, fun rec => ?_⟩
        rw [hgo, ey, if_neg (nIn0 (by omega)), ifLt hy (by omega), if_pos (bt_add1 x hx y (by omega) hbt').2, (bt_or x hx y (by omega)).1]
    · right
      intro rec
      have hn1 : rnI f N (i + 1) = none := by
        rw [rnI, h1]
        dsimp only
        rw [e1]
      rw [hgo, hno hn1]
      rcases h0 with h0 | ⟨h0, h2⟩
      · rw [if_pos h0]
      · rw [if_neg h0, if_neg h2]
  · rintro t h ⟨x, h1, rfl, rfl⟩ rec
    unfold lb_X3_runnersIn_4 jn_X3_runnersIn_56
    dsimp only
    rw [ZI_3_1 hb, Option.bind_some, e, ifLf (Nat.le_refl _) (by omega), h1]
    rfl
theorem X_placeOf {b n : Nat} {f : Nat → Int32} {v : Int32} (hb : shp b = 3) (e : m b 1 = nI n) (hr : ∀ i, i < n → zaI 0 (b + 1) (nI i) (Z k m) = some (f i)) (hn : n ≤ 100) : dn_X3_placeOf b v (Z k m) = some (plF f v n 0, Z k m) := by
  unfold dn_X3_placeOf lp_X3_placeOf_2
  rw [ZO_3 hb, Option.bind_some]
  refine lp_inv (N := n) (I := fun i t h => plF f v (n - i) i = plF f v n 0 ∧ t = nI i ∧ h = Z k m) (Q := fun r => r = some (plF f v n 0, Z k m)) ?_ ?_ n 0 2000 _ _ (by omega) (by omega) ⟨rfl, rfl, rfl⟩
  · rintro i t h hi ⟨h1, rfl, rfl⟩
    obtain ⟨d, hd⟩ : ∃ d, n - i = d + 1 := ⟨n - i - 1, by omega⟩
    rw [hd, plF] at h1
    have hgo : ∀ rec, lb_X3_placeOf_2 b v rec (nI i) (Z k m) = if f i = v then some (nI i, Z k m) else rec (nI (i + 1)) (Z k m) := by
      intro rec
      unfold lb_X3_placeOf_2 jn_X3_placeOf_20
      rw [ZI_3_1 hb, Option.bind_some, e, ifLt hi (by omega), ZA_3_0 hb, Option.bind_some, hr i hi, Option.bind_some, nA_1]
    by_cases hv : f i = v
    · right
      intro rec
      rw [if_pos hv] at h1
      rw [hgo, if_pos hv, h1]
    · left
      rw [if_neg hv] at h1
      refine ⟨nI (i + 1), Z k m, ⟨by rw [show n - (i + 1) = d by omega]; exact h1, rfl, rfl⟩, fun rec => by rw [hgo, if_neg hv]⟩
  · rintro t h ⟨h1, rfl, rfl⟩ rec
    unfold lb_X3_placeOf_2 jn_X3_placeOf_28
    rw [ZI_3_1 hb, Option.bind_some, e, ifLf (Nat.le_refl _) (by omega), ← h1, Nat.sub_self]
    rfl
theorem X_ov {b b' n : Nat} {f : Nat → Int32} {p : Int32 → Int32} (hb : shp b = 3) (e : m b 1 = nI n) (hr : ∀ i, i < n → zaI 0 (b + 1) (nI i) (Z k m) = some (f i)) (hn : n ≤ 100) (hp : ∀ v, dn_X3_placeOf b' v (Z k m) = some (p v, Z k m)) : dn_X4_overtakenBetween b b' (Z k m) = some (ovO f p n n, Z k m) := by
  unfold dn_X4_overtakenBetween lp_X4_overtakenBetween_4
  refine lp_fn (N := n) (fun i => (ovO f p n i, nI i)) (fun _ => Z k m) (fun i hi rec => ?_) (fun rec => ?_) (by omega)
  · unfold lb_X4_overtakenBetween_4 lp_X4_overtakenBetween_17
    dsimp only
    rw [ZI_3_1 hb, Option.bind_some, e, ifLt hi (by omega), nA_1]
    refine lp_fn (N := n - (i + 1)) (fun c => (ovJ f p i c (ovO f p n i), nI (i + 1 + c))) (fun _ => Z k m) (fun c hc rec => ?_) (fun rec => ?_) (by omega)
    · unfold lb_X4_overtakenBetween_17 jn_X4_overtakenBetween_61
      dsimp only
      rw [ZI_3_1 hb, Option.bind_some, e, ifLt (by omega) (by omega), ZA_3_0 hb, Option.bind_some, hr i hi, Option.bind_some, hp, zbd_s, ZA_3_0 hb, Option.bind_some, hr _ (by omega), Option.bind_some, hp, zbd_s, ZA_3_0 hb, Option.bind_some, hr i hi, Option.bind_some, nA_1, ovJ]
      by_cases hlt : p (f (i + 1 + c)) < p (f i)
      · rw [if_pos hlt, if_pos hlt]
        rfl
      · rw [if_neg hlt, if_neg hlt]
        rfl
    · unfold lb_X4_overtakenBetween_17 jn_X4_overtakenBetween_67
      dsimp only
      rw [ZI_3_1 hb, Option.bind_some, e, ifLf (by omega) (by omega), nA_1]
      rfl
  · unfold lb_X4_overtakenBetween_4 jn_X4_overtakenBetween_73
    dsimp only
    rw [ZI_3_1 hb, Option.bind_some, e, ifLf (Nat.le_refl _) (by omega)]
theorem x_could (r l set : Int32) : okX (dn_X4_could 2 r l set) (g_could r l set) := by
  intro s k m hO hX hk
  have hOH := hO.2.2.2.1.1
  have hN5 := hOH.2.1
  have hG := hX.2.2.2.1
  obtain ⟨p1, p2, p3⟩ := sh_all (hN (sH s)) (by omega)
  unfold dn_X4_could g_could jn_X4_could_31
  rw [ZO_4 s2, Option.bind_some, X_isRow, zbd_s]
  cases h : ix r 6 with
  | none => exact ⟨k, m, by rw [ifNo, ifb0], hX, zfX.rf⟩
  | some a =>
    dsimp only
    obtain ⟨rfl, ha⟩ := ix_s (by omega) h
    rw [ifSo, ifb1, X_isRow, zbd_s]
    cases h' : ix l 6 with
    | none => exact ⟨k, m, by rw [ifNo, ifb0], hX, zfX.rf⟩
    | some b =>
      dsimp only
      obtain ⟨rfl, hb⟩ := ix_s (by omega) h'
      rw [ifSo, ifb1, ZA_4_2 s2, Option.bind_some, ZI_0_2 hG.2.1.1, Option.bind_some, hG.2.1.2.2.1, p1]
      rcases ix_c set (2 ^ hN (sH s)) (by omega) with ⟨z, hz, rfl, e1⟩ | ⟨e1, h0⟩
      · rw [e1, if_neg (nIn0 (by omega)), ifLt hz (by omega), ZA_4_0 s2, Option.bind_some, RW_r rwP_r ha, Option.bind_some, Option.bind_some, RW_r rwP_r hb, Option.bind_some]
        dsimp only
        obtain ⟨q1, q2⟩ := hX.2.1 a ha
        obtain ⟨q3, q4⟩ := hX.2.1 b hb
        have sa := RW_s rwP_r ha
        have sb := RW_s rwP_r hb
        rw [X_isMissing sa q1 (fun n hn => by have := hO.2.1 a n ha hn; omega), zbd_s]
        unfold cdS jn_X4_could_65
        obtain ⟨m1, f1, f2, f3⟩ := F1 hX
        cases hwa : (sW s).1 a with
        | none =>
          exact ⟨k, m1, by rw [show (if (none : Option Nat).isSome = true then (0 : Int32) else 1) = 1 from rfl, ifb1, f1, zbd_s], f2, f3⟩
        | some n =>
          rw [show (if (some n).isSome = true then (0 : Int32) else 1) = 0 from rfl, ifb0, X_isMissing sb q3 (fun n hn => by have := hO.2.1 b n hb hn; omega), zbd_s]
          cases hwb : (sW s).1 b with
          | none =>
            exact ⟨k, m1, by rw [show (if (none : Option Nat).isSome = true then (0 : Int32) else 1) = 1 from rfl, ifb1, f1, zbd_s], f2, f3⟩
          | some n' =>
            dsimp only
            have hn := hO.2.1 a n ha hwa
            have hn' := hO.2.1 b n' hb hwb
            rw [hwa] at q1
            rw [hwb] at q3
            have q1' : m (40 + 2 * a) 1 = nI n := q1
            have q3' : m (40 + 2 * b) 1 = nI n' := q3
            rw [show (if (some n').isSome = true then (0 : Int32) else 1) = 0 from rfl, ifb0, ZI_3_1 sa, Option.bind_some, ZI_3_1 sb, Option.bind_some, q1', q3']
            by_cases hnn : n = n'
            · subst hnn
              have ra : ∀ i, i < n → zaI 0 (40 + 2 * a + 1) (nI i) (Z k m) = some ((sW s).2 a i) := fun i hi => by rw [RW_l rwP_r ha (by omega), q2 n hwa i hi]
              have rb : ∀ i, i < n → zaI 0 (40 + 2 * b + 1) (nI i) (Z k m) = some ((sW s).2 b i) := fun i hi => by rw [RW_l rwP_r hb (by omega), q4 n hwb i hi]
              rw [ifEt rfl, if_pos rfl, ZA_4_2 s2, Option.bind_some, ZI_0_2 hG.2.1.1, Option.bind_some, hG.2.1.2.2.1, X_runnersIn sa q1' ra (by omega) hN5, zbd_s]
              unfold jn_X4_could_128 jn_X4_could_154
              obtain ⟨m3, g1, g2, g3⟩ := F3 hX
              cases hra : rnI ((sW s).2 a) (hN (sH s)) n with
              | none => exact ⟨k, m3, by rw [if_pos (show rX none = -9 from rfl), g1, zbd_s], g2, g3⟩
              | some x =>
                have hx := rnI_lt hN5 n x hra
                dsimp only
                rw [if_neg (show ¬ rX (some x) = -9 from nI_ne9 (by omega)), ZA_4_2 s2, Option.bind_some, ZI_0_2 hG.2.1.1, Option.bind_some, hG.2.1.2.2.1, X_runnersIn sb q3' rb (by omega) hN5, zbd_s]
                by_cases hrb : rnI ((sW s).2 b) (hN (sH s)) n = some x
                · rw [if_pos hrb, hrb, if_pos rfl, X_ov (p := fun v => plF ((sW s).2 b) v n 0) sa q1' ra (by omega) (fun v => X_placeOf sb q3' rb (by omega)), zbd_s]
                  refine ⟨k, m, ?_, hX, zfX.rf⟩
                  by_cases ho : ovO ((sW s).2 a) (fun v => plF ((sW s).2 b) v n 0) n n = 0
                  · rw [if_pos ho, if_pos ho]
                  · rw [if_neg ho, if_neg ho]
                · rw [if_neg hrb, if_neg, g1, zbd_s]
                  · exact ⟨k, m3, rfl, g2, g3⟩
                  · intro z
                    cases hrb' : rnI ((sW s).2 b) (hN (sH s)) n with
                    | none =>
                      rw [hrb'] at z
                      exact nI_ne9 (n := x) (by omega) z
                    | some x' =>
                      have hx' := rnI_lt hN5 n x' hrb'
                      rw [hrb'] at z
                      exact hrb (by rw [hrb', (nI_eq (by omega) (by omega)).mp z])
            · obtain ⟨m5, g1, g2, g3⟩ := F5 hX
              rw [ifEf hnn (by omega) (by omega), if_neg hnn]
              exact ⟨k, m5, by rw [g1, zbd_s], g2, g3⟩
      · rw [e1]
        rcases h0 with h0 | ⟨h0, h1⟩
        · exact ⟨k, m, by rw [if_pos h0], hX, zfX.rf⟩
        · exact ⟨k, m, by rw [if_neg h0, if_neg h1], hX, zfX.rf⟩
end
