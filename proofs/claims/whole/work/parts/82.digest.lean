/-! digest -/
def mx (h : Int64) (v : Int32) : Int64 := 31 * h + Int32.toInt64 v
def mxL (g : Nat → Int32) : Nat → Int64 → Int64
  | 0, h => h
  | n + 1, h => mx (mxL g n h) (g n)
noncomputable def itF (g : Nat → Int64 → Int64) : Nat → Int64 → Int64
  | 0, h => h
  | n + 1, h => g n (itF g n h)
def dgR (o : Option Nat) (f : Nat → Int32) (v : Int64) : Int64 := match o with
  | none => mx v (-1)
  | some n => mxL f n (mx v (nI n))
noncomputable def dgN (s : zSt) (x : Nat) (h : Int64) : Int64 := mx (mxL (fun w => tlS (sH s) (sR s) x w) 5 (mxL (fun i => nI (hP (sH s) x i)) (hZ (sH s) x) (mxL (fun w => abS s x w) 4 h))) (rPb (sR s) x)
def kpV (s : zSt) (j : Nat) : Int32 := match sK s j with
  | none => -1
  | some R => nI (rSt R)
noncomputable def dgq (s : zSt) (h : Int64) : Int64 := mxL (kpV s) 3 (mx (mx (itF (dgN s) (hN (sH s)) (mxL (fun y => iI (hS (sH s) y)) (hY (sH s)) (mx h (nI (sLw s))))) (if hN (sH s) = 0 then -1 else nI (rHd (sR s)))) (rPs (sR s)))
noncomputable def dgS (s : zSt) : Int64 := itF (fun r => dgR ((sT s).1 r) ((sT s).2 r)) 4 (itF (fun r => dgR ((sW s).1 r) ((sW s).2 r)) 6 (dgq s (mxL (ctS s) 8 17)))
noncomputable def g_digest (s : zSt) : Int64 × zSt := (dgS s, s)
section
variable {k k' : zK} {m m' : Nat → Nat → Int32} {s : zSt} {c : Nat} {H : zHD} {R : zRS}
theorem X_dInto {b : Nat} {o : Option Nat} {f : Nat → Int32} {v : Int64} (hb : shp b = 3) (hs : m b 1 = szX o) (ho : ∀ n, o = some n → n ≤ 100 ∧ ∀ i, i < n → zaI 0 (b + 1) (nI i) (Z k m) = some (f i)) : dn_X3_digestInto b v (Z k m) = some (dgR o f v, Z k m) := by
  unfold dn_X3_digestInto jn_X3_digestInto_20 lp_X3_digestInto_26
  rw [ZO_3 hb, Option.bind_some, X_isMissing hb hs (fun n hn => (ho n hn).1), zbd_s]
  cases o with
  | none =>
    rw [if_neg (show ¬ (none : Option Nat).isSome = true by decide), ifb1]
    refine lp_fn (N := 0) (fun _ => (mx v (-1), 0)) (fun _ => Z k m) (fun x hx => absurd hx (by omega)) (fun rec => ?_) (by omega)
    unfold lb_X3_digestInto_26 jn_X3_digestInto_56
    try dsimp only
    rw [ZI_3_1 hb, Option.bind_some, hs, if_neg (show ¬ (0 : Int32) < szX none by decide)]
    rfl
  | some n =>
    obtain ⟨hn, hr⟩ := ho n rfl
    have e : m b 1 = nI n := hs
    rw [if_pos (show (some n).isSome = true from rfl), ifb0, ZI_3_1 hb, Option.bind_some, e]
    refine lp_fn (N := n) (fun i => (mxL f i (mx v (nI n)), nI i)) (fun _ => Z k m) (fun i hi rec => ?_) (fun rec => ?_) (by omega)
    · unfold lb_X3_digestInto_26
      try dsimp only
      rw [ZI_3_1 hb, Option.bind_some, e, ifLt hi (by omega), ZA_3_0 hb, Option.bind_some, hr i hi, Option.bind_some, nA_1]
      rfl
    · unfold lb_X3_digestInto_26 jn_X3_digestInto_56
      try dsimp only
      rw [ZI_3_1 hb, Option.bind_some, e, ifLf (Nat.le_refl _) (by omega)]
      rfl
theorem X_dRunner {x : Nat} {v : Int64} (hO : okS s) (hX : XS s k m) (hx : x < hN (sH s)) : dn_X4_digestRunner 2 v (nI x) (Z k m) = some (dgN s x v, Z k m) := by
  have hG := hX.2.2.2.1
  have hH := hG.2.1
  have hOH := hO.2.2.2.1.1
  have hN5 := hOH.2.1
  have hR := hX.2.2.2.2.1
  have s7 := shp_2 _ (shp_le (by have := hH.1; omega)) hH.1
  have s6 := shp_1 _ (shp_le (by have := hR.1; omega)) hR.1
  have hz := (hOH.2.2.2 x hx).2
  unfold dn_X4_digestRunner lp_X4_digestRunner_6
  rw [ZO_4 s2, Option.bind_some]
  refine lp_fn (N := 4) (fun w => (mxL (fun w => abS s x w) w v, nI w)) (fun _ => Z k m) (fun w hw rec => ?_) (fun rec => ?_) (by omega)
  · unfold lb_X4_digestRunner_6
    try dsimp only
    rw [jf_3 (by omega), ZA_4_2 s2, Option.bind_some, X_hdetail hN5 hG hx (by omega), zbd_s, nA_1]
    rfl
  unfold lb_X4_digestRunner_6 jn_X4_digestRunner_38 lp_X4_digestRunner_41
  try dsimp only
  rw [jt_3 (by omega) (by omega)]
  generalize e1 : mxL _ 4 v = v1
  refine lp_fn (N := hZ (sH s) x) (fun i => (mxL (fun i => nI (hP (sH s) x i)) i v1, nI i)) (fun _ => Z k m) (fun i hi rec => ?_) (fun rec => ?_) (by omega)
  · unfold lb_X4_digestRunner_41
    try dsimp only
    rw [ZA_4_2 s2, Option.bind_some, ZA_0_6 hH.1, Option.bind_some, Zl5 s7.2.2.2.2.1 (by omega), Option.bind_some, (hH.2.2.2.2 x hx).2.1, ifLt hi (by omega), Option.bind_some, X_paceAt hOH hH hx hi, zbd_s, nA_1]
    rfl
  unfold lb_X4_digestRunner_41 jn_X4_digestRunner_81 lp_X4_digestRunner_84
  try dsimp only
  rw [ZA_4_2 s2, Option.bind_some, ZA_0_6 hH.1, Option.bind_some, Zl5 s7.2.2.2.2.1 (by omega), Option.bind_some, (hH.2.2.2.2 x hx).2.1, ifLf (Nat.le_refl _) (by omega)]
  generalize e2 : mxL _ (hZ (sH s) x) v1 = v2
  refine lp_fn (N := 5) (fun w => (mxL (fun w => tlS (sH s) (sR s) x w) w v2, nI w)) (fun _ => Z k m) (fun w hw rec => ?_) (fun rec => ?_) (by omega)
  · unfold lb_X4_digestRunner_84
    try dsimp only
    rw [jf_4 (by omega), ZA_4_4 s2, Option.bind_some, X_detail hN5 hR hO.2.2.2.2.2.1 hx (by omega), zbd_s, nA_1]
    rfl
  unfold lb_X4_digestRunner_84 jn_X4_digestRunner_116
  try dsimp only
  rw [jt_4 (by omega) (by omega), ZA_4_4 s2, Option.bind_some, ZA_1_11 hR.1, Option.bind_some, Zl5 s6.2.2.2.2.2 (by omega), Option.bind_some, (hR.2.2.2.2.2.2 x hx).2.2.2.2.2, ← e2, ← e1]
  rfl
theorem X_digest (hO : okS s) (hX : XS s k m) : dn_X4_digest 2 (Z k m) = some (dgS s, Z k m) := by
  have hG := hX.2.2.2.1
  have hH := hG.2.1
  have hOH := hO.2.2.2.1.1
  have hN5 := hOH.2.1
  have h40 := hOH.1
  have hR := hX.2.2.2.2.1
  have hKp := hX.2.2.2.2.2.1
  have s7 := shp_2 _ (shp_le (by have := hH.1; omega)) hH.1
  unfold dn_X4_digest lp_X4_digest_6
  rw [ZO_4 s2, Option.bind_some]
  refine lp_fn (N := 8) (fun w => (mxL (ctS s) w 17, nI w)) (fun _ => Z k m) (fun w hw rec => ?_) (fun rec => ?_) (by omega)
  · unfold lb_X4_digest_6
    try dsimp only
    rw [if_neg (fun z => by have := (lL_7 (by omega)).mp z; omega), X_count hO hX hw, zbd_s, nA_1]
    rfl
  unfold lb_X4_digest_6 jn_X4_digest_31 lp_X4_digest_45
  try dsimp only
  rw [if_pos (show (7 : Int32) < nI 8 by decide), ZI_4_7 s2, Option.bind_some, hX.1.1]
  generalize e1 : mxL _ 8 17 = v1
  refine lp_fn (N := hY (sH s)) (fun y => (mxL (fun y => iI (hS (sH s) y)) y (mx v1 (nI (sLw s))), nI y)) (fun _ => Z k m) (fun y hy rec => ?_) (fun rec => ?_) (by omega)
  · unfold lb_X4_digest_45
    try dsimp only
    rw [ZA_4_2 s2, Option.bind_some, ZI_0_0 hH.1, Option.bind_some, hH.2.1, ifLt hy (by omega), Option.bind_some, ZA_0_1 hH.1, Option.bind_some, Zl40 s7.1 (by omega), Option.bind_some, hH.2.2.2.1 y hy, nA_1]
    rfl
  unfold lb_X4_digest_45 jn_X4_digest_79 lp_X4_digest_81
  try dsimp only
  rw [ZA_4_2 s2, Option.bind_some, ZI_0_0 hH.1, Option.bind_some, hH.2.1, ifLf (Nat.le_refl _) (by omega)]
  generalize e2 : mxL _ (hY (sH s)) _ = v2
  refine lp_fn (N := hN (sH s)) (fun x => (itF (dgN s) x v2, nI x)) (fun _ => Z k m) (fun x hx rec => ?_) (fun rec => ?_) (by omega)
  · unfold lb_X4_digest_81
    try dsimp only
    rw [ZA_4_2 s2, Option.bind_some, ZI_0_2 hH.1, Option.bind_some, hH.2.2.1, ifLt hx (by omega), X_dRunner hO hX hx, zbd_s, nA_1]
    rfl
  unfold lb_X4_digest_81 jn_X4_digest_105 jn_X4_digest_131 lp_X4_digest_151
  try dsimp only
  rw [ZA_4_2 s2, Option.bind_some, ZI_0_2 hH.1, Option.bind_some, hH.2.2.1, ifLf (Nat.le_refl _) (by omega), Option.bind_some, ZI_0_2 hH.1, Option.bind_some, hH.2.2.1]
  generalize e3 : itF _ (hN (sH s)) v2 = v3
  have hend : ∀ w, w = mx (mx v3 (if hN (sH s) = 0 then -1 else nI (rHd (sR s)))) (rPs (sR s)) → zlp (lb_X4_digest_151 2) 2000 (w, 0) (Z k m) = some (dgS s, Z k m) := by
    intro w hw
    refine lp_fn (N := 3) (fun j => (mxL (kpV s) j w, nI j)) (fun _ => Z k m) (fun j hj rec => ?_) (fun rec => ?_) (by omega)
    · unfold lb_X4_digest_151 jn_X4_digest_186
      try dsimp only
      rw [it_3 hj, ZA_4_6 s2, Option.bind_some, ZrK hj, Option.bind_some, ZI_1_5 (shp_kp j hj), Option.bind_some, (hKp j hj).1, Option.bind_some, ZrK hj, Option.bind_some, ZI_1_1 (shp_kp j hj), Option.bind_some, nA_1]
      cases hc : sK s j with
      | none =>
        rw [if_neg (show ¬ (none : Option zRS).isSome = true by decide), ifb0, mxL, kpV, hc]
        rfl
      | some R' =>
        rw [if_pos (show (some R').isSome = true from rfl), ifb1, mxL, kpV, hc, ((hKp j hj).2 R' hc).2.2.1]
        rfl
    unfold lb_X4_digest_151 jn_X4_digest_195 lp_X4_digest_197
    try dsimp only
    rw [if_3 (by omega) (by omega)]
    generalize e4 : mxL _ 3 w = v4
    refine lp_fn (N := 6) (fun r => (itF (fun r => dgR ((sW s).1 r) ((sW s).2 r)) r v4, nI r)) (fun _ => Z k m) (fun r hr rec => ?_) (fun rec => ?_) (by omega)
    · unfold lb_X4_digest_197
      try dsimp only
      rw [it_6 hr, ZA_4_0 s2, Option.bind_some, RW_r rwP_r hr, Option.bind_some, X_dInto (f := (sW s).2 r) (RW_s rwP_r hr) (hX.2.1 r hr).1 (fun n hn => ⟨by have := hO.2.1 r n hr hn; omega, fun i hi => by rw [RW_l rwP_r hr (by have := hO.2.1 r n hr hn; omega), (hX.2.1 r hr).2 n hn i hi]⟩), zbd_s, nA_1]
      rfl
    unfold lb_X4_digest_197 jn_X4_digest_220 lp_X4_digest_222
    try dsimp only
    rw [if_6 (by omega) (by omega)]
    generalize e5 : itF _ 6 v4 = v5
    refine lp_fn (N := 4) (fun r => (itF (fun r => dgR ((sT s).1 r) ((sT s).2 r)) r v5, nI r)) (fun _ => Z k m) (fun r hr rec => ?_) (fun rec => ?_) (by omega)
    · unfold lb_X4_digest_222
      try dsimp only
      rw [it_4 hr, ZA_4_1 s2, Option.bind_some, RW_r rwP_t hr, Option.bind_some, X_dInto (f := (sT s).2 r) (RW_s rwP_t hr) (hX.2.2.1 r hr).1 (fun n hn => ⟨hO.2.2.1 r n hr hn, fun i hi => by rw [RW_l rwP_t hr (by have := hO.2.2.1 r n hr hn; omega), (hX.2.2.1 r hr).2 n hn i hi]⟩), zbd_s, nA_1]
      rfl
    unfold lb_X4_digest_222 jn_X4_digest_244
    try dsimp only
    rw [if_4 (by omega) (by omega), ← e5, ← e4, hw, ← e3, ← e2, ← e1]
    rfl
  by_cases h0 : hN (sH s) = 0
  · rw [et_0 h0, ZA_4_4 s2, Option.bind_some, ZI_1_4 hR.1, Option.bind_some, hR.2.2.2.2.2.1]
    exact hend _ (by rw [if_pos h0]; rfl)
  · rw [ef_0 h0 (by omega), ZA_4_4 s2, Option.bind_some, ZI_1_3 hR.1, Option.bind_some, hR.2.2.2.2.1, Option.bind_some, ZI_1_4 hR.1, Option.bind_some, hR.2.2.2.2.2.1]
    exact hend _ (by rw [if_neg h0]; rfl)
theorem x_digest : okX (dn_X4_digest 2) g_digest := fun s k m hO hX hk => ⟨k, m, X_digest hO hX, hX, zfX.rf⟩
theorem o_digest : okG g_digest := fun s hO => hO
theorem kml2 (a b : Int64) : kml (kml k 4 a) 4 b = kml k 4 b := by
  unfold kml
  try dsimp only
  congr 2
  funext j
  by_cases h : j = 4
  · rw [if_pos h, if_pos h]
  · rw [if_neg h, if_neg h, if_neg h]
theorem mu_id {a j : Nat} {v : Int32} (h : m a j = v) : mu m a j v = m := by
  funext b i
  by_cases hb : b = a
  · subst hb
    by_cases hi : i = j
    · subst hi
      rw [mu_s, h]
    · rw [mu_j _ _ hi]
  · rw [mu_a _ _ _ _ hb]
theorem MS.kl {h : Int64} (hM : MS s k m) : MS s (kml k 4 h) m := by
  obtain ⟨⟨a1, a2, a3, a4, a5, a6⟩, hr⟩ := hM
  exact ⟨⟨a1, a2, a3, a4, a5, a6⟩, hr⟩
theorem M_mix {h v : Int64} : dn_X5_mix 81 v (Z (kml k 4 h) m) = some ((), Z (kml k 4 (31 * h + v)) m) := by
  unfold dn_X5_mix
  rw [ZO_5 s81, Option.bind_some, ZL_5_36 s81, Option.bind_some, show (kml k 4 h).2.1 4 = h from rfl, ZW_5_36 s81, Option.bind_some, kml2]
theorem M_mixI {h : Int64} {v : Int32} : dn_X5_mix 81 (Int32.toInt64 v) (Z (kml k 4 h) m) = some ((), Z (kml k 4 (mx h v)) m) := M_mix
theorem M_byteAt {t p n : Nat} (ht : t < 4) (e : m 86 t = nI n) (hn : n ≤ 100) (hp : p < 2 ^ 31) : dn_X5_byteAt 81 (nI t) (nI p) (Z k m) = some (if p < n then m 87 (100 * t + p) else 0, Z k m) := by
  unfold dn_X5_byteAt jn_X5_byteAt_25
  rw [ZO_5 s81, Option.bind_some, ZA_5_8 s81, Option.bind_some, Ml_86 ht, Option.bind_some, e]
  by_cases h : p < n
  · rw [ifLt h (by omega), if_pos h, ZA_5_9 s81, Option.bind_some, nM_100, nI_add, Ml_87 (by omega), Option.bind_some]
  · rw [ifLf (by omega) hp, if_neg h]
theorem M_dRunner {x : Nat} {v : Int64} {rec : Int32 → zAH → Option (Unit × zAH)} (hO : okS s) (hM : MS s k m) (hb : m 81 29 = nI 0) (hx : x < hN (sH s)) : lp_X5_mixRace_53 rec 81 (nI x) 0 (Z (kml k 4 v) m) = rec (nI (x + 1)) (Z (kml k 4 (dgN s x v)) m) := by
  have hG := hM.2.2.2.1
  have hE := hM.2.2.2.2.1
  have hOH := hO.2.2.2.1.1
  have hN5 := hOH.2.1
  have hz := (hOH.2.2.2 x hx).2
  unfold lp_X5_mixRace_53
  refine lp_fn (N := 4) (fun w => nI w) (fun w => Z (kml k 4 (mxL (fun w => abS s x w) w v)) m) (fun w hw rec => ?_) (fun rec => ?_) (by omega)
  · unfold lb_X5_mixRace_53
    try dsimp only
    rw [it_4 hw, M_aboutTells hN5 hG hx (by omega), zbd_s, M_mixI, zbd_s, nA_1]
    rfl
  unfold lb_X5_mixRace_53 jn_X5_mixRace_75 lp_X5_mixRace_77
  try dsimp only
  rw [if_4 (by omega) (by omega)]
  generalize e1 : mxL _ 4 v = v1
  refine lp_fn (N := hZ (sH s) x) (fun i => nI i) (fun i => Z (kml k 4 (mxL (fun i => nI (hP (sH s) x i)) i v1)) m) (fun i hi rec => ?_) (fun rec => ?_) (by omega)
  · unfold lb_X5_mixRace_77
    try dsimp only
    rw [ZA_5_16 s81, Option.bind_some, Ml_92 (by omega), Option.bind_some, (hG.1.2.2.2 x hx).2.1, ifLt hi (by omega), ZA_5_17 s81, Option.bind_some, nM_8, nI_add, Ml_93 (by omega), Option.bind_some, (hG.1.2.2.2 x hx).2.2 i hi, M_mixI, zbd_s, nA_1]
    rfl
  unfold lb_X5_mixRace_77 jn_X5_mixRace_109 lp_X5_mixRace_111
  try dsimp only
  rw [ZA_5_16 s81, Option.bind_some, Ml_92 (by omega), Option.bind_some, (hG.1.2.2.2 x hx).2.1, ifLf (Nat.le_refl _) (by omega)]
  generalize e2 : mxL _ (hZ (sH s) x) v1 = v2
  refine lp_fn (N := 5) (fun w => nI w) (fun w => Z (kml k 4 (mxL (fun w => tlS (sH s) (sR s) x w) w v2)) m) (fun w hw rec => ?_) (fun rec => ?_) (by omega)
  · unfold lb_X5_mixRace_111
    try dsimp only
    rw [it_5 hw, M_raceTells hN5 hOH.1 hG.1 hb hE hO.2.2.2.2.2.1 hx (by omega), zbd_s, M_mixI, zbd_s, nA_1]
    rfl
  unfold lb_X5_mixRace_111 jn_X5_mixRace_133
  try dsimp only
  rw [if_5 (by omega) (by omega), nB_23, M_v hb (by omega), zbd_s, (hE.2.2.2.2 x hx).2.2.2.2.1, M_mixI, zbd_s, nA_1, ← e2, ← e1]
  rfl
theorem M_mixRace {v : Int64} (hO : okS s) (hM : MS s k m) (hb : m 81 29 = nI 0) : dn_X5_mixRace 81 (Z (kml k 4 v) m) = some ((), Z (kml k 4 (dgq s v)) m) := by
  have hG := hM.2.2.2.1
  have hE := hM.2.2.2.2.1
  have hKp := hM.2.2.2.2.2
  have hOH := hO.2.2.2.1.1
  have hN5 := hOH.2.1
  have h40 := hOH.1
  unfold dn_X5_mixRace lp_X5_mixRace_16
  rw [ZO_5 s81, Option.bind_some, M_look0, zbd_s, mu_id hb, ZI_5_18 s81, Option.bind_some, hM.1.1, M_mixI, zbd_s]
  refine lp_fn (N := hY (sH s)) (fun y => nI y) (fun y => Z (kml k 4 (mxL (fun y => iI (hS (sH s) y)) y (mx v (nI (sLw s))))) m) (fun y hy rec => ?_) (fun rec => ?_) (by omega)
  · unfold lb_X5_mixRace_16
    try dsimp only
    rw [ZI_5_10 s81, Option.bind_some, hG.1.1, ifLt hy (by omega), ZA_5_11 s81, Option.bind_some, Ml_88 (by omega), Option.bind_some, hG.1.2.2.1 y hy, M_mixI, zbd_s, nA_1]
    rfl
  unfold lb_X5_mixRace_16 jn_X5_mixRace_41 lp_X5_mixRace_43
  try dsimp only
  rw [ZI_5_10 s81, Option.bind_some, hG.1.1, ifLf (Nat.le_refl _) (by omega)]
  generalize e2 : mxL _ (hY (sH s)) _ = v2
  refine lp_fn (N := hN (sH s)) (fun x => nI x) (fun x => Z (kml k 4 (itF (dgN s) x v2)) m) (fun x hx rec => ?_) (fun rec => ?_) (by omega)
  · unfold lb_X5_mixRace_43
    try dsimp only
    rw [ZI_5_12 s81, Option.bind_some, hG.1.2.1, ifLt hx (by omega), M_dRunner hO hM hb hx]
    rfl
  unfold lb_X5_mixRace_43 jn_X5_mixRace_152 jn_X5_mixRace_172 lp_X5_mixRace_187
  try dsimp only
  rw [ZI_5_12 s81, Option.bind_some, hG.1.2.1, ifLf (Nat.le_refl _) (by omega), Option.bind_some]
  generalize e3 : itF _ (hN (sH s)) v2 = v3
  have hend : ∀ w, w = mx (mx v3 (if hN (sH s) = 0 then -1 else nI (rHd (sR s)))) (rPs (sR s)) → zlp (lb_X5_mixRace_187 81) 2000 1 (Z (kml k 4 w) m) = some ((), Z (kml k 4 (dgq s v)) m) := by
    intro w hw
    refine lp_fn (N := 3) (fun j => nI (1 + j)) (fun j => Z (kml k 4 (mxL (kpV s) j w)) m) (fun j hj rec => ?_) (fun rec => ?_) (by omega)
    · unfold lb_X5_mixRace_187 jn_X5_mixRace_220
      try dsimp only
      rw [it_4 (by omega), ZA_5_27 s81, Option.bind_some, Ml_99 (by omega), Option.bind_some, (hKp j hj).1, ZA_5_28 s81, Option.bind_some, Int32.add_zero, nM_33, ZlR (by omega), Option.bind_some, nA_1, Nat.add_assoc 1 j 1]
      cases hc : sK s j with
      | none =>
        rw [if_neg (show ¬ (none : Option zRS).isSome = true by decide), ifb0, show (-1 : Int64) = Int32.toInt64 (-1) by decide, M_mixI, zbd_s, mxL, kpV, hc]
      | some R' =>
        have e9 : m 100 (33 * (1 + j)) = nI (rSt R') := ((hKp j hj).2 R' hc).2.1
        rw [if_pos (show (some R').isSome = true from rfl), ifb1, e9, M_mixI, zbd_s, mxL, kpV, hc]
    unfold lb_X5_mixRace_187 jn_X5_mixRace_229
    try dsimp only
    rw [if_4 (by omega) (by omega), hw, ← e3, ← e2]
    rfl
  by_cases h0 : hN (sH s) = 0
  · rw [et_0 h0, show (-1 : Int64) = Int32.toInt64 (-1) by decide, M_mixI, zbd_s, M_v2 hb (by omega), zbd_s, hE.2.2.2.1, M_mixI, zbd_s]
    exact hend _ (by rw [if_pos h0])
  · rw [ef_0 h0 (by omega), M_v1 hb (by omega), zbd_s, hE.2.2.1, M_mixI, zbd_s, M_v2 hb (by omega), zbd_s, hE.2.2.2.1, M_mixI, zbd_s]
    exact hend _ (by rw [if_neg h0])
theorem M_dRow {r : Nat} {v : Int64} {rec : Int32 → zAH → Option (Int64 × zAH)} (hO : okS s) (hM : MS s k m) (hr : r < 6) : lp_X5_digest_56 rec 81 (nI r) 0 (Z (kml k 4 (mx v (szM ((sW s).1 r)))) m) = rec (nI (r + 1)) (Z (kml k 4 (dgR ((sW s).1 r) ((sW s).2 r) v)) m) := by
  obtain ⟨q1, q2⟩ := hM.2.1 r hr
  unfold lp_X5_digest_56
  cases hw : (sW s).1 r with
  | none =>
    rw [hw] at q1
    refine lp_fn (N := 0) (fun _ => 0) (fun _ => Z (kml k 4 (mx v (-1))) m) (fun x hx => absurd hx (by omega)) (fun rec => ?_) (by omega)
    unfold lb_X5_digest_56 jn_X5_digest_83
    try dsimp only
    rw [ZA_5_5 s81, Option.bind_some, Ml_83 hr, Option.bind_some, q1, if_neg (show ¬ (0 : Int32) < szM none by decide), nA_1]
    rfl
  | some n =>
    have hn := hO.2.1 r n hr hw
    rw [hw] at q1
    have e : m 83 r = nI n := q1
    refine lp_fn (N := n) (fun i => nI i) (fun i => Z (kml k 4 (mxL ((sW s).2 r) i (mx v (nI n)))) m) (fun i hi rec => ?_) (fun rec => ?_) (by omega)
    · unfold lb_X5_digest_56
      try dsimp only
      rw [ZA_5_5 s81, Option.bind_some, Ml_83 hr, Option.bind_some, e, ifLt hi (by omega), M_rowAt hr (by omega), zbd_s, q2 n hw i hi, M_mixI, zbd_s, nA_1]
      rfl
    · unfold lb_X5_digest_56 jn_X5_digest_83
      try dsimp only
      rw [ZA_5_5 s81, Option.bind_some, Ml_83 hr, Option.bind_some, e, ifLf (Nat.le_refl _) (by omega), nA_1]
      rfl
theorem M_dText {r : Nat} {v : Int64} {rec : Int32 → zAH → Option (Int64 × zAH)} (hO : okS s) (hM : MS s k m) (hr : r < 4) : lp_X5_digest_109 rec 81 (nI r) 0 (Z (kml k 4 (mx v (szM ((sT s).1 r)))) m) = rec (nI (r + 1)) (Z (kml k 4 (dgR ((sT s).1 r) ((sT s).2 r) v)) m) := by
  obtain ⟨q1, q2⟩ := hM.2.2.1 r hr
  unfold lp_X5_digest_109
  cases hw : (sT s).1 r with
  | none =>
    rw [hw] at q1
    refine lp_fn (N := 0) (fun _ => 0) (fun _ => Z (kml k 4 (mx v (-1))) m) (fun x hx => absurd hx (by omega)) (fun rec => ?_) (by omega)
    unfold lb_X5_digest_109 jn_X5_digest_136
    try dsimp only
    rw [ZA_5_8 s81, Option.bind_some, Ml_86 hr, Option.bind_some, q1, if_neg (show ¬ (0 : Int32) < szM none by decide), nA_1]
    rfl
  | some n =>
    have hn := hO.2.2.1 r n hr hw
    rw [hw] at q1
    have e : m 86 r = nI n := q1
    refine lp_fn (N := n) (fun i => nI i) (fun i => Z (kml k 4 (mxL ((sT s).2 r) i (mx v (nI n)))) m) (fun i hi rec => ?_) (fun rec => ?_) (by omega)
    · unfold lb_X5_digest_109
      try dsimp only
      rw [ZA_5_8 s81, Option.bind_some, Ml_86 hr, Option.bind_some, e, ifLt hi (by omega), M_byteAt hr e hn (by omega), zbd_s, if_pos hi, q2 n hw i hi, M_mixI, zbd_s, nA_1]
      rfl
    · unfold lb_X5_digest_109 jn_X5_digest_136
      try dsimp only
      rw [ZA_5_8 s81, Option.bind_some, Ml_86 hr, Option.bind_some, e, ifLf (Nat.le_refl _) (by omega), nA_1]
      rfl
theorem M_digest (hO : okS s) (hM : MS s k m) : dn_X5_digest 81 (Z k m) = some (dgS s, Z (kml k 4 (dgS s)) (mu m 81 29 (nI 0))) := by
  obtain ⟨l1, -⟩ := hM.lk hO.2.2.2.1.1.2.1
  have hb : mu m 81 29 (nI 0) 81 29 = nI 0 := mu_s _ _ _ _
  unfold dn_X5_digest lp_X5_digest_9
  rw [ZO_5 s81, Option.bind_some, ZW_5_36 s81, Option.bind_some]
  refine lp_fn (N := 8) (fun w => nI w) (fun w => Z (kml k 4 (mxL (ctS s) w 17)) (if w = 0 then m else mu m 81 29 (nI 0))) (fun w hw rec => ?_) (fun rec => ?_) (by omega)
  · unfold lb_X5_digest_9
    try dsimp only
    rw [it_8 hw, if_neg (show ¬ w + 1 = 0 by omega)]
    by_cases h0 : w = 0
    · rw [if_pos h0, M_counted hO hM.kl hw, zbd_s, M_mixI, zbd_s, nA_1]
      rfl
    · rw [if_neg h0, M_counted hO l1.kl hw, zbd_s, M_mixI, zbd_s, nA_1, mu_id hb]
      rfl
  unfold lb_X5_digest_9 jn_X5_digest_31 lp_X5_digest_37
  try dsimp only
  rw [if_8 (by omega) (by omega), if_neg (by omega)]
  generalize mu m 81 29 (nI 0) = m1 at l1 hb ⊢
  rw [M_mixRace hO l1 hb, zbd_s]
  generalize e1 : dgq s _ = v1
  refine lp_fn (N := 6) (fun r => nI r) (fun r => Z (kml k 4 (itF (fun r => dgR ((sW s).1 r) ((sW s).2 r)) r v1)) m1) (fun r hr rec => ?_) (fun rec => ?_) (by omega)
  · unfold lb_X5_digest_37
    try dsimp only
    rw [it_6 hr, ZA_5_5 s81, Option.bind_some, Ml_83 hr, Option.bind_some, (l1.2.1 r hr).1, M_mixI, zbd_s, M_dRow hO l1 hr]
    rfl
  unfold lb_X5_digest_37 jn_X5_digest_89 lp_X5_digest_91
  try dsimp only
  rw [if_6 (by omega) (by omega)]
  generalize e2 : itF _ 6 v1 = v2
  refine lp_fn (N := 4) (fun r => nI r) (fun r => Z (kml k 4 (itF (fun r => dgR ((sT s).1 r) ((sT s).2 r)) r v2)) m1) (fun r hr rec => ?_) (fun rec => ?_) (by omega)
  · unfold lb_X5_digest_91
    try dsimp only
    rw [it_4 hr, ZA_5_8 s81, Option.bind_some, Ml_86 hr, Option.bind_some, (l1.2.2.1 r hr).1, M_mixI, zbd_s, M_dText hO l1 hr]
    rfl
  unfold lb_X5_digest_91 jn_X5_digest_142
  try dsimp only
  rw [if_4 (by omega) (by omega), ZL_5_36 s81, Option.bind_some, show ∀ h, (kml k 4 h).2.1 4 = h from fun h => rfl, ← e2, ← e1]
  rfl
theorem x5_digest : okM (dn_X5_digest 81) g_digest := by
  intro s k m hO hM
  obtain ⟨l1, l2⟩ := hM.lk hO.2.2.2.1.1.2.1
  exact ⟨_, _, M_digest hO hM, l1.kl, l2.1, l2.2.1, l2.2.2.1, l2.2.2.2.1, l2.2.2.2.2⟩
end
