section
variable {k k' : zK} {m m' : Nat → Nat → Int32} {s : zSt} {c : Nat} {H : zHD} {R : zRS}
theorem shp_kp : ∀ j, j < 3 → shp (60 + 7 * j) = 1 := by decide +kernel
theorem X_isKept {r : Int32} {h : zAH} : dn_X4_isKeptPlace r h = some (if (ix r 3).isSome then 1 else 0, h) := by
  unfold dn_X4_isKeptPlace jn_X4_isKeptPlace_13
  rcases ix_c r 3 (by omega) with ⟨j, hj, rfl, e⟩ | ⟨e, h0 | ⟨h0, h1⟩⟩
  · rw [e, if_neg (nIn0 (by omega)), it_3 hj]; rfl
  · rw [e, if_pos h0]; rfl
  · have h1' : ¬ r < 3 := h1
    rw [e, if_neg h0, if_neg h1']; rfl
theorem XS.kp {R' : zRS} {j : Nat} (hj : j < 3) (h : XS s k m) (hE : encX (60 + 7 * j) (sH s) R' m') (h5 : m' (60 + 7 * j) 5 = 1) (hf : zFr (60 + 7 * j) m m') : XS (sKs (va_up (sK s) j (some R')) s) k m' := by
  obtain ⟨hA, hW, hT, hG, hR, hK, hC⟩ := h
  have hg := hG.1
  refine ⟨hA.fr (hf 2 (by omega)) (hf 34 (by omega)), hW.fr fun a h1 h2 => hf a (by omega), hT.fr fun a h1 h2 => hf a (by omega), hG.fr fun a h1 h2 => hf a (by omega), encX_cg hR fun a h1 h2 => hf a (by omega), fun i hi => ?_, fun x hx => by rw [hf 35 (by omega)]; exact hC x hx⟩
  show m' (60 + 7 * i) 5 = (if (va_up (sK s) j (some R') i).isSome then 1 else 0) ∧ ∀ R'', va_up (sK s) j (some R') i = some R'' → encX (60 + 7 * i) (sH s) R'' m'
  by_cases hij : i = j
  · subst hij
    rw [show va_up (sK s) i (some R') i = some R' by simp [va_up]]
    refine ⟨h5, fun R'' h' => ?_⟩
    cases h'
    exact hE
  · rw [show va_up (sK s) j (some R') i = sK s i by simp [va_up, hij]]
    obtain ⟨h1, h2⟩ := hK i hi
    rw [hf (60 + 7 * i) (by omega)]
    exact ⟨h1, fun R'' h' => encX_cg (h2 R'' h') fun a h1 h2 => hf a (by omega)⟩
theorem MS.kp {R' : zRS} {j : Nat} (hN5 : hN (sH s) ≤ 5) (hj : j < 3) (h : MS s k m) (hE : encM (33 * (1 + j)) (sH s) R' m') (h5 : m' 99 (1 + j) = 1) (h99 : ∀ i, i ≠ 1 + j → m' 99 i = m 99 i) (hf : ∀ b, b ≠ 99 → b ≠ 100 → m' b = m b) (h100 : ∀ i, (i < 33 * (1 + j) ∨ 33 * (1 + j) + 33 ≤ i) → m' 100 i = m 100 i) : MS (sKs (va_up (sK s) j (some R')) s) k m' := by
  obtain ⟨hA, hW, hT, hG, hR, hK⟩ := h
  refine ⟨hA.fr ⟨by rw [hf 81 (by omega) (by omega)], by rw [hf 81 (by omega) (by omega)], by rw [hf 81 (by omega) (by omega)]⟩ (hf 82 (by omega) (by omega)), hW.fr (hf 83 (by omega) (by omega)) (hf 84 (by omega) (by omega)), hT.fr (hf 86 (by omega) (by omega)) (hf 87 (by omega) (by omega)), hG.fr ⟨by rw [hf 81 (by omega) (by omega)], by rw [hf 81 (by omega) (by omega)]⟩ fun a h1 h2 => hf a (by omega) (by omega), encM_fr hN5 hR fun i h1 h2 => h100 i (by omega), fun i hi => ?_⟩
  show m' 99 (1 + i) = (if (va_up (sK s) j (some R') i).isSome then 1 else 0) ∧ ∀ R'', va_up (sK s) j (some R') i = some R'' → encM (33 * (1 + i)) (sH s) R'' m'
  by_cases hij : i = j
  · subst hij
    rw [show va_up (sK s) i (some R') i = some R' by simp [va_up]]
    refine ⟨h5, fun R'' h' => ?_⟩
    cases h'
    exact hE
  · rw [show va_up (sK s) j (some R') i = sK s i by simp [va_up, hij]]
    obtain ⟨h1, h2⟩ := hK i hi
    rw [h99 (1 + i) (by omega)]
    exact ⟨h1, fun R'' h' => encM_fr hN5 (h2 R'' h') fun a h1 h2 => h100 a (by omega)⟩
def g_keep (r : Int32) (s : zSt) : Int32 × zSt := match ix r 3 with
  | none => (-1, s)
  | some j => if hY (sH s) = 0 then (-4, s) else (nI (rSt (sR s)), sKs (va_up (sK s) j (some (sR s))) s)
def g_on (r : Int32) (s : zSt) : Int32 × zSt := match ix r 3 with
  | none => (-1, s)
  | some j => match sK s j with
    | none => (-3, sFd 1 s)
    | some R' => (nI (rSt R'), sRs R' s)
theorem x_keep (r : Int32) : okX (dn_X4_keep 2 r) (g_keep r) := by
  intro s k m hO hX hk
  have hOH := hO.2.2.2.1.1
  have hN5 := hOH.2.1
  have hH := hX.2.2.2.1.2.1
  have hR := hX.2.2.2.2.1
  unfold dn_X4_keep g_keep
  rw [ZO_4 s2, Option.bind_some, X_isKept, zbd_s]
  cases h : ix r 3 with
  | none => exact ⟨k, m, by rw [ifNo, ifb0], hX, zfX.rf⟩
  | some j =>
    dsimp only
    obtain ⟨rfl, hj⟩ := ix_s (by omega) h
    rw [ifSo, ifb1, ZA_4_2 s2, Option.bind_some, X_hasRoad hOH.1 hH, zbd_s]
    by_cases hy : hY (sH s) = 0
    · rw [if_pos hy, if_pos hy, ifb0]
      exact ⟨k, m, rfl, hX, zfX.rf⟩
    · rw [if_neg hy, if_neg hy, ifb1]
      have sk := shp_kp j hj
      obtain ⟨m1, r1, r2, r3⟩ := X_becomeLike (k := k) hN5 sk (show 60 + 7 * j ≠ 19 by omega) hR
      have hF2 : zFr (60 + 7 * j) m1 (mu m1 (60 + 7 * j) 5 1) := zFr.mu (by omega) (by omega)
      have hE2 : encX (60 + 7 * j) (sH s) (sR s) (mu m1 (60 + 7 * j) 5 1) := by
        obtain ⟨e0, e1, e2, e3, e4, e5, ex⟩ := r2
        refine ⟨e0, ?_, ?_, ?_, ?_, ?_, fun x hx => ?_⟩
        · rw [mu_j _ _ (by omega)]; exact e1
        · rw [mu_j _ _ (by omega)]; exact e2
        · rw [mu_j _ _ (by omega)]; exact e3
        · rw [mu_j _ _ (by omega)]; exact e4
        · rw [mu_j _ _ (by omega)]; exact e5
        · rw [mu_ar _ _ _ (by omega), mu_ar _ _ _ (by omega), mu_ar _ _ _ (by omega), mu_ar _ _ _ (by omega), mu_ar _ _ _ (by omega), mu_ar _ _ _ (by omega)]
          exact ex x hx
      have hF := zFr.tr r3 hF2
      have x1 := hX.kp hj hE2 (mu_s _ _ _ _) hF
      have e1 : mu m1 (60 + 7 * j) 5 1 19 1 = nI (rSt (sR s)) := x1.2.2.2.2.1.2.2.1
      refine ⟨k, _, ?_, x1, zfX.of fun a ha => hF a (by omega)⟩
      rw [ZA_4_6 s2, Option.bind_some, ZrK hj, Option.bind_some, ZA_4_4 s2, Option.bind_some, r1, zbd_s, ZA_4_6 s2, Option.bind_some, ZrK hj, Option.bind_some, ZP_1_5 sk, Option.bind_some, ZA_4_4 s2, Option.bind_some, ZI_1_1 rfl, Option.bind_some, e1]
theorem x_on (r : Int32) : okX (dn_X4_on 2 r) (g_on r) := by
  intro s k m hO hX hk
  have hOH := hO.2.2.2.1.1
  have hN5 := hOH.2.1
  unfold dn_X4_on g_on
  rw [ZO_4 s2, Option.bind_some, X_isKept, zbd_s]
  cases h : ix r 3 with
  | none => exact ⟨k, m, by rw [ifNo, ifb0], hX, zfX.rf⟩
  | some j =>
    dsimp only
    obtain ⟨rfl, hj⟩ := ix_s (by omega) h
    have sk := shp_kp j hj
    obtain ⟨q1, q2⟩ := hX.2.2.2.2.2.1 j hj
    rw [ifSo, ifb1, ZA_4_6 s2, Option.bind_some, ZrK hj, Option.bind_some, ZI_1_5 sk, Option.bind_some, q1]
    cases hK : sK s j with
    | none =>
      obtain ⟨mf, f1, f2, f3⟩ := F1 hX
      exact ⟨k, mf, by rw [show (if (none : Option zRS).isSome = true then (1 : Int32) else 0) = 0 from rfl, ifb0, f1, zbd_s], f2, f3⟩
    | some R' =>
      obtain ⟨m1, r1, r2, r3⟩ := X_becomeLike (k := k) (a := 19) hN5 rfl (show 19 ≠ 60 + 7 * j by omega) (q2 R' hK)
      refine ⟨k, m1, ?_, hX.r r2 r3, zFr19 r3⟩
      rw [show (if (some R').isSome = true then (1 : Int32) else 0) = 1 from rfl, ifb1, ZA_4_4 s2, Option.bind_some, Option.bind_some, ZrK hj, Option.bind_some, r1, zbd_s, ZA_4_4 s2, Option.bind_some, ZI_1_1 rfl, Option.bind_some, r2.2.2.1]
theorem x5_keep (r : Int32) : okM (dn_X5_keep 81 r) (g_keep r) := by
  intro s k m hO hM
  have hOH := hO.2.2.2.1.1
  have hN5 := hOH.2.1
  have h40 := hOH.1
  have hG := hM.2.2.2.1
  unfold dn_X5_keep g_keep
  rw [ZO_5 s81, Option.bind_some, show (2 : Int32) = nI 3 - 1 by decide, M_ix r 3 (by omega), zbd_s]
  cases h : ix r 3 with
  | none => exact ⟨k, m, by rw [ifNo, ifb0], hM, zfM.rf⟩
  | some j =>
    dsimp only
    obtain ⟨rfl, hj⟩ := ix_s (by omega) h
    rw [ifSo, ifb1, ZI_5_10 s81, Option.bind_some, hG.1.1]
    by_cases hy : hY (sH s) = 0
    · rw [et_0 hy, if_pos hy]
      exact ⟨k, m, rfl, hM, zfM.rf⟩
    · rw [ef_0 hy (by omega), if_neg hy]
      obtain ⟨m1, r1, r2, r3⟩ := M_copyRace (k := k) (p := 0) (t := 1 + j) hN5 (by omega) (by omega) (by omega) hM.2.2.2.2.1
      have r1' : dn_X5_copyRace 81 0 (nI (1 + j)) (Z k m) = some ((), Z k m1) := r1
      have hM1 := hM.kp hN5 hj (m' := mu m1 99 (1 + j) 1) (encM_fr hN5 r2 fun i h1 h2 => by rw [mu_ar _ _ _ (by omega)]) (mu_s _ _ _ _) (fun i hi => by rw [mu_j _ _ hi, r3.1 99 (by omega)]) (fun b h1 h2 => by rw [mu_ar _ _ _ h1, r3.1 b h2]) (fun i hi => by rw [mu_ar _ _ _ (by omega), r3.2 i (by omega)])
      obtain ⟨l1, l2⟩ := hM1.lk (by exact hN5)
      have e0 := l1.2.2.2.2.1.2.1
      refine ⟨k, _, ?_, l1, zfM.tr (zfM.of fun a ha => by rw [mu_ar _ _ _ (by omega), r3.1 a (by omega)]) l2⟩
      rw [nB_1, r1', zbd_s, ZA_5_27 s81, Option.bind_some, Ms_99 (by omega), Option.bind_some, show ((1 : Int32) &&& 1) = 1 by decide, M_look0, zbd_s, M_v0 (mu_s _ _ _ _) (by omega), zbd_s, e0]
      rfl
theorem x5_on (r : Int32) : okM (dn_X5_on 81 r) (g_on r) := by
  intro s k m hO hM
  have hOH := hO.2.2.2.1.1
  have hN5 := hOH.2.1
  have hG := hM.2.2.2.1
  unfold dn_X5_on g_on
  rw [ZO_5 s81, Option.bind_some, show (2 : Int32) = nI 3 - 1 by decide, M_ix r 3 (by omega), zbd_s]
  cases h : ix r 3 with
  | none => exact ⟨k, m, by rw [ifNo, ifb0], hM, zfM.rf⟩
  | some j =>
    dsimp only
    obtain ⟨rfl, hj⟩ := ix_s (by omega) h
    obtain ⟨q1, q2⟩ := hM.2.2.2.2.2 j hj
    rw [ifSo, ifb1, ZA_5_27 s81, Option.bind_some, nB_1, Ml_99 (by omega), Option.bind_some, q1]
    cases hK : sK s j with
    | none =>
      obtain ⟨mf, f1, f2, f3⟩ := M1 hN5 hM
      exact ⟨k, mf, by rw [show (if (none : Option zRS).isSome = true then (1 : Int32) else 0) = 0 from rfl, ifb0, f1, zbd_s], f2, f3⟩
    | some R' =>
      obtain ⟨m1, r1, r2, r3⟩ := M_copyRace (k := k) (p := 1 + j) (t := 0) hN5 (by omega) (by omega) (by omega) (q2 R' hK)
      have r1' : dn_X5_copyRace 81 (nI (1 + j)) 0 (Z k m) = some ((), Z k m1) := r1
      have hM1 := hM.r hN5 r2 r3
      obtain ⟨l1, l2⟩ := hM1.lk (by exact hN5)
      have e0 : mu m1 81 29 (nI 0) 100 (0 + 0) = nI (rSt R') := l1.2.2.2.2.1.2.1
      refine ⟨k, _, ?_, l1, zfM.tr r3.zfM l2⟩
      rw [show (if (some R').isSome = true then (1 : Int32) else 0) = 1 from rfl, ifb1, r1', zbd_s, M_look0, zbd_s, M_v0 (mu_s _ _ _ _) (by omega), zbd_s, e0]
theorem o_keep (r : Int32) : okG (g_keep r) := by
  intro s hO
  unfold g_keep
  cases h : ix r 3 with
  | none => exact hO
  | some j =>
    dsimp only
    by_cases hy : hY (sH s) = 0
    · rw [if_pos hy]; exact hO
    · rw [if_neg hy]
      obtain ⟨o1, o2, o3, o4, o5, o6, o7⟩ := hO
      refine ⟨o1, o2, o3, o4, o5, o6, fun i R' hi h' => ?_⟩
      have h'' : va_up (sK s) j (some (sR s)) i = some R' := h'
      by_cases hij : i = j
      · rw [show va_up (sK s) j (some (sR s)) i = some (sR s) by simp [va_up, hij]] at h''
        cases h''; exact o6
      · rw [show va_up (sK s) j (some (sR s)) i = sK s i by simp [va_up, hij]] at h''
        exact o7 i R' hi h''
theorem o_on (r : Int32) : okG (g_on r) := by
  intro s hO
  unfold g_on
  cases h : ix r 3 with
  | none => exact hO
  | some j =>
    dsimp only
    obtain ⟨-, hj⟩ := ix_s (by omega) h
    cases hK : sK s j with
    | none => exact hO
    | some R' => exact hO.r (hO.2.2.2.2.2.2 j R' hj hK)
/-! to the end -/
noncomputable def enS (H : zHD) (lw : Nat) (R : zRS) : zRS := runS H lw (plW H) 60 R
theorem enS_ok {lw : Nat} (hO : okH H) (hok : okR H R) : okR H (enS H lw R) := runS_ok hO (fun st => plW_le hO st) 60 R hok
theorem XS.t26 (h : XS s k m) (hf : zFr 26 m m') : XS s k m' := h.sc (fun a h1 h2 h3 => hf a (by omega)) (fun x hx => by rw [hf 35 (by omega)]; exact h.2.2.2.2.2.2 x hx)
theorem zFr26 (hf : zFr 26 m m') : zfX k m k m' := zfX.of fun a ha => hf a (by omega)
theorem X_finish {lw : Nat} (hO : okS s) (hlw : lw ≤ 2) (hX : XS s k m) : ∃ m', dn_X4_finishTrial 2 (nI lw) (Z k m) = some ((), Z k m') ∧ encX 26 (sH s) (enS (sH s) lw (sR s)) m' ∧ zFr 26 m m' := by
  have hOH := hO.2.2.2.1.1
  have hG := hX.2.2.2.1
  have hkc := hG.1
  obtain ⟨m1, r1, r2, r3⟩ := X_becomeLike (k := k) (a := 26) hOH.2.1 rfl (show 26 ≠ 19 by omega) hX.2.2.2.2.1
  obtain ⟨m2, q1, q2, q3, q4, q5⟩ := X_runOut (k := k) hOH hlw hO.2.2.2.2.2.1 (encH_fr rfl hG.2.1 r3) (fun x hx => by rw [r3 35 (by omega)]; exact hX.2.2.2.2.2.2 x (by have := hOH.2.1; omega)) r2
  refine ⟨m2, ?_, q2, zFr.tr r3 q5⟩
  unfold dn_X4_finishTrial
  rw [ZO_4 s2, Option.bind_some, ZA_4_5 s2, Option.bind_some, ZA_4_4 s2, Option.bind_some, r1, zbd_s, ZA_4_5 s2, Option.bind_some, ZA_4_2 s2, Option.bind_some, ZA_4_13 s2, Option.bind_some, q1, zbd_s]
def zFe (m m' : Nat → Nat → Int32) : Prop := (∀ b, b ≠ 81 → b ≠ 100 → m' b = m b) ∧ (∀ f, f ≠ 29 → m' 81 f = m 81 f) ∧ m' 81 29 = nI 132 ∧ ∀ j, j < 132 → m' 100 j = m 100 j
theorem zFe.w (h : zFe m m') : zFw m m' := ⟨fun a h1 _ h3 _ _ _ _ => h.1 a h1 h3, fun f hf => h.2.1 f (by omega), h.2.2.2⟩
theorem wfM.fe {st : Nat} {wf : Nat → Nat} (h : wfM H st wf m) (hf : zFe m m') : wfM H st wf m' := by
  unfold wfM
  rw [hf.2.1 30 (by omega), hf.1 101 (by omega) (by omega), hf.1 102 (by omega) (by omega)]
  exact h
theorem M_layEnd {wf : Nat → Nat → Nat} (hO : okS s) (hM : MS s k m) (hwf : ∀ st, rSt (sR s) ≤ st → st < 60 → wfM (sH s) st (wf st) m) : ∃ m', dn_X5_layEnd 81 (Z k m) = some ((), Z k m') ∧ encM 132 (sH s) (runS (sH s) (sLw s) wf 60 (sR s)) m' ∧ okR (sH s) (runS (sH s) (sLw s) wf 60 (sR s)) ∧ zFe m m' := by
  have hOH := hO.2.2.2.1.1
  have hN5 := hOH.2.1
  obtain ⟨m1, r1, r2, r3⟩ := M_copyRace (k := k) (p := 0) (t := 4) hN5 (by omega) (by omega) (by omega) hM.2.2.2.2.1
  have r1' : dn_X5_copyRace 81 0 4 (Z k m) = some ((), Z k m1) := r1
  have f2 : ∀ b, b ≠ 81 → mu m1 81 29 (nI 132) b = m1 b := fun b hb => mu_ar _ _ _ hb
  have hE2 : encM 132 (sH s) (sR s) (mu m1 81 29 (nI 132)) := encM_fr hN5 r2 fun j h1 h2 => by rw [f2 100 (by omega)]
  have hG2 : encG (sH s) (mu m1 81 29 (nI 132)) := encG_cg (encG_fr hM.2.2.2.1.1 r3) ⟨by rw [mu_j _ _ (by omega)], by rw [mu_j _ _ (by omega)]⟩ fun a h1 h2 => f2 a (by omega)
  have hwf2 : ∀ st, rSt (sR s) ≤ st → st < 60 → wfM (sH s) st (wf st) (mu m1 81 29 (nI 132)) := by
    intro st h1 h2
    have h9 := (hwf st h1 h2).fr r3
    unfold wfM at h9 ⊢
    rw [mu_j _ _ (by omega), f2 101 (by omega), f2 102 (by omega)]
    exact h9
  obtain ⟨m3, q1, q2, q3, q4, q5⟩ := M_toEnd (k := k) (q := 132) hOH hO.1 hO.2.2.2.2.2.1 hG2 ⟨mu_s _ _ _ _, by rw [mu_j _ _ (by omega), r3.1 81 (by omega)]; exact hM.1.1⟩ hwf2 hE2
  refine ⟨m3, ?_, q2, q3, fun b h1 h2 => by rw [q5.1 b h2, f2 b h1, r3.1 b h2], fun f hf => by rw [q5.1 81 (by omega), mu_j _ _ hf, r3.1 81 (by omega)], by rw [q5.1 81 (by omega), mu_s], fun j hj => by rw [q5.2 j (by omega), f2 100 (by omega), r3.2 j (by omega)]⟩
  unfold dn_X5_layEnd
  rw [ZO_5 s81, Option.bind_some, r1', zbd_s, M_look4, zbd_s, q1, zbd_s]
theorem M_ncEnd (hO : okS s) (hM : MS s k m) (h0 : ∀ i, i < 5 → m 101 i = 0) : ∃ m', dn_X5_layEnd 81 (Z k m) = some ((), Z k m') ∧ encM 132 (sH s) (enS (sH s) (sLw s) (sR s)) m' ∧ okR (sH s) (enS (sH s) (sLw s) (sR s)) ∧ zFe m m' := M_layEnd hO hM fun st _ _ => wfM_pl hO.2.2.2.1.1.2.1 h0
theorem M_nc (hN5 : hN (sH s) ≤ 5) (hM : MS s k m) : ∃ m', dn_X5_noChoices 81 (Z k m) = some ((), Z k m') ∧ (∀ i, i < 5 → m' 101 i = 0) ∧ MS s k m' ∧ (∀ b, b ≠ 101 → m' b = m b) ∧ zFw m m' := by
  obtain ⟨m2, n1, n2, n3⟩ := M_noChoices (k := k) (m := m)
  have hF : zFw m m2 := ⟨fun a _ _ _ h1 _ _ _ => n3 a h1, fun f _ => by rw [n3 81 (by omega)], fun j _ => by rw [n3 100 (by omega)]⟩
  exact ⟨m2, n1, n2, hM.sc hN5 hF, n3, hF⟩
noncomputable def g_pays (s : zSt) : Int32 × zSt := if hN (sH s) = 0 then (-4, s) else (nI (rHd (enS (sH s) (sLw s) (sR s))), sAk (nI (rSt (enS (sH s) (sLw s) (sR s)))) s)
theorem x_pays : okX (dn_X4_pays 2) g_pays := by
  intro s k m hO hX hk
  have hOH := hO.2.2.2.1.1
  have hN5 := hOH.2.1
  have hG := hX.2.2.2.1
  unfold dn_X4_pays g_pays
  rw [ZO_4 s2, Option.bind_some, ZA_4_2 s2, Option.bind_some, ZI_0_2 hG.2.1.1, Option.bind_some, hG.2.1.2.2.1]
  by_cases h : hN (sH s) = 0
  · rw [et_0 h, if_pos h]
    exact ⟨k, m, rfl, hX, zfX.rf⟩
  · rw [ef_0 h (by omega), if_neg h]
    obtain ⟨m1, r1, r2, r3⟩ := X_finish hO hO.1 hX
    obtain ⟨x1, x2⟩ := (hX.t26 r3).ak (nI (rSt (enS (sH s) (sLw s) (sR s))))
    refine ⟨k, _, ?_, x1, (zFr26 r3).tr0 x2.1⟩
    rw [ZI_4_7 s2, Option.bind_some, hX.1.1, r1, zbd_s, ZA_4_5 s2, Option.bind_some, ZI_1_1 rfl, Option.bind_some, r2.2.2.1, ZP_4_8 s2, Option.bind_some, ZA_4_5 s2, Option.bind_some, ZI_1_3 rfl, Option.bind_some, mu_a _ _ _ _ (by omega), r2.2.2.2.2.1]
theorem x5_pays : okM (dn_X5_pays 81) g_pays := by
  intro s k m hO hM
  have hOH := hO.2.2.2.1.1
  have hN5 := hOH.2.1
  have hG := hM.2.2.2.1
  unfold dn_X5_pays g_pays
  rw [ZO_5 s81, Option.bind_some, ZI_5_12 s81, Option.bind_some, hG.1.2.1]
  by_cases h : hN (sH s) = 0
  · rw [et_0 h, if_pos h]
    exact ⟨k, m, rfl, hM, zfM.rf⟩
  · rw [ef_0 h (by omega), if_neg h]
    obtain ⟨m1, n1, n2, n3, n4, n5⟩ := M_nc hN5 hM
    obtain ⟨m2, r1, r2, r3, r4⟩ := M_ncEnd hO n3 n2
    have hM2 := n3.sc hN5 r4.w
    obtain ⟨m', t1, t2, t3⟩ := M_tells (v := nI (rSt (enS (sH s) (sLw s) (sR s)))) (a := nI (rHd (enS (sH s) (sLw s) (sR s)))) hN5 hM2
    refine ⟨k, m', ?_, t2, zfM.tr (zFw.tr n5 r4.w).zfM t3⟩
    rw [n1, zbd_s, r1, zbd_s, M_v0 r4.2.2.1 (by omega), zbd_s, r2.2.1, M_v1 r4.2.2.1 (by omega), zbd_s, r2.2.2.1, t1, zbd_s]
theorem o_pays : okG g_pays := by
  intro s hO
  unfold g_pays
  by_cases h : hN (sH s) = 0
  · rw [if_pos h]; exact hO
  · rw [if_neg h]; exact hO
end
