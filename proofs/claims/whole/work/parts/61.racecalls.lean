section
variable {k k' : zK} {m m' : Nat → Nat → Int32} {s : zSt} {c : Nat} {H : zHD} {R : zRS}
def sRs (R : zRS) (s : zSt) : zSt := (s.1, s.2.1, s.2.2.1, s.2.2.2.1, R, s.2.2.2.2.2)
def sKs (K : Nat → Option zRS) (s : zSt) : zSt := (s.1, s.2.1, s.2.2.1, s.2.2.2.1, s.2.2.2.2.1, K)
theorem XS.r {R' : zRS} (h : XS s k m) (hR : encX 19 (sH s) R' m') (hf : zFr 19 m m') : XS (sRs R' s) k m' := by
  obtain ⟨hA, hW, hT, hG, -, hK, hC⟩ := h
  have hg := hG.1
  exact ⟨hA.fr (hf 2 (by omega)) (hf 34 (by omega)), hW.fr fun a h1 h2 => hf a (by omega), hT.fr fun a h1 h2 => hf a (by omega), hG.fr fun a h1 h2 => hf a (by omega), hR, hK.fr fun a h1 h2 => hf a (by omega), fun x hx => by rw [hf 35 (by omega)]; exact hC x hx⟩
theorem zFr19 (hf : zFr 19 m m') : zfX k m k m' := zfX.of fun a ha => hf a (by omega)
theorem MS.r {R' : zRS} (hN5 : hN (sH s) ≤ 5) (h : MS s k m) (hR : encM 0 (sH s) R' m') (hf : zFm 0 m m') : MS (sRs R' s) k m' := by
  obtain ⟨hA, hW, hT, hG, -, hK⟩ := h
  obtain ⟨f1, f2⟩ := hf
  exact ⟨hA.fr ⟨by rw [f1 81 (by omega)], by rw [f1 81 (by omega)], by rw [f1 81 (by omega)]⟩ (f1 82 (by omega)), hW.fr (f1 83 (by omega)) (f1 84 (by omega)), hT.fr (f1 86 (by omega)) (f1 87 (by omega)), hG.fr ⟨by rw [f1 81 (by omega)], by rw [f1 81 (by omega)]⟩ fun a h1 h2 => f1 a (by omega), hR, hK.fr hN5 (f1 99 (by omega)) fun a h1 h2 => f2 a (by omega)⟩
theorem zFm.zfM {q : Nat} (hf : zFm q m m') : zfM k m k m' := zfM.of fun a ha => hf.1 a (by omega)
theorem zFw.f81 {f : Nat} {v : Int32} (h : 19 ≤ f ∧ f ≤ 21 ∨ 29 ≤ f) : zFw m (mu m 81 f v) := ⟨fun a h1 _ _ _ _ _ _ => mu_ar _ _ _ h1, fun g hg => mu_j _ _ (by omega), fun j _ => by rw [mu_ar _ _ _ (by omega)]⟩
theorem zFw.wk (h : zFm 132 m m') : zFw m m' := ⟨fun a _ _ h1 _ _ _ _ => h.1 a h1, fun f _ => by rw [h.1 81 (by omega)], fun j hj => h.2 j (by omega)⟩
theorem M_look0 : dn_X5_look 81 0 (Z k m) = some ((), Z k (mu m 81 29 (nI 0))) := M_look (t := 0)
theorem M_look4 : dn_X5_look 81 4 (Z k m) = some ((), Z k (mu m 81 29 (nI 132))) := M_look (t := 4)
theorem X_hasRoad (hY40 : hY H ≤ 40) (hH : encH c H m) : dn_X0_hasRoad c (Z k m) = some (if hY H = 0 then 0 else 1, Z k m) := by
  unfold dn_X0_hasRoad
  rw [ZO_0 hH.1, Option.bind_some, ZI_0_0 hH.1, Option.bind_some, hH.2.1]
  by_cases h : hY H = 0
  · rw [if_pos h, jf_0 (by omega)]; rfl
  · rw [if_neg h, jt_0 (by omega) (by omega)]; rfl
def g_begin (s : zSt) : Int32 × zSt := if hY (sH s) = 0 then (-4, s) else (nI (hN (sH s)), sRs (begS (sH s) (sD s) (sB s)) s)
theorem x_begin : okX (dn_X4_begin 2) g_begin := by
  intro s k m hO hX hk
  have hG := hX.2.2.2.1
  have hH := hG.2.1
  have hOH := hO.2.2.2.1.1
  have hkc := hG.1
  have s7 := shp_2 _ (shp_le (by have := hH.1; omega)) hH.1
  unfold dn_X4_begin g_begin
  rw [ZO_4 s2, Option.bind_some, ZA_4_2 s2, Option.bind_some, X_hasRoad hOH.1 hH, zbd_s]
  by_cases h : hY (sH s) = 0
  · rw [if_pos h, if_pos h, ifb0]
    exact ⟨k, m, rfl, hX, zfX.rf⟩
  · rw [if_neg h, if_neg h, ifb1]
    obtain ⟨m', r1, r2, r3⟩ := X_setOff (k := k) (a := 19) (hd := sD s) (br := sB s) hOH rfl s7.2.2.2.1 s7.2.2.1 (by omega) (by omega) (fun x hx => (hO.2.2.2.2.1 x hx).2.2) hH (fun i hi => ⟨(hG.2.2 i hi).2, (hG.2.2 i hi).1⟩)
    have hH' := encH_fr rfl hH r3
    refine ⟨k, m', ?_, hX.r r2 r3, zFr19 r3⟩
    rw [ZA_4_4 s2, Option.bind_some, ZA_4_2 s2, Option.bind_some, Option.bind_some, ZA_0_5 hH.1, Option.bind_some, Option.bind_some, ZA_0_4 hH.1, Option.bind_some, r1, zbd_s, ZA_4_2 s2, Option.bind_some, ZI_0_2 hH.1, Option.bind_some, hH'.2.2.1]
theorem x5_begin : okM (dn_X5_begin 81) g_begin := by
  intro s k m hO hM
  have hOH := hO.2.2.2.1.1
  have hN5 := hOH.2.1
  have hG := hM.2.2.2.1
  have h40 := hOH.1
  unfold dn_X5_begin g_begin
  rw [ZO_5 s81, Option.bind_some, ZI_5_10 s81, Option.bind_some, hG.1.1]
  by_cases h : hY (sH s) = 0
  · rw [et_0 h, if_pos h]
    exact ⟨k, m, rfl, hM, zfM.rf⟩
  · rw [ef_0 h (by omega), if_neg h, M_look0, zbd_s]
    have hF : zFw m (mu m 81 29 (nI 0)) := zFw.f81 (by omega)
    have hM1 := hM.sc hN5 hF
    have hG1 := hM1.2.2.2.1
    obtain ⟨m', r1, r2, r3⟩ := M_begins (k := k) (q := 0) (hd := sD s) (br := sB s) hN5 hOH.1 (fun x hx => (hO.2.2.2.2.1 x hx).2.2) (by omega) hG1.1 (mu_s _ _ _ _) hG1.2
    refine ⟨k, m', ?_, hM1.r hN5 r2 r3, zfM.tr hF.zfM r3.zfM⟩
    rw [r1, zbd_s, ZI_5_12 s81, Option.bind_some, (encG_fr hG1.1 r3).2.1]
theorem o_begin : okG g_begin := by
  intro s hO
  unfold g_begin
  by_cases h : hY (sH s) = 0
  · rw [if_pos h]; exact hO
  · rw [if_neg h]
    obtain ⟨o1, o2, o3, o4, o5, o6, o7⟩ := hO
    exact ⟨o1, o2, o3, o4, o5, okR_beg (fun x hx => (o5 x hx).2.2) (fun x hx => ⟨(o5 x hx).1, by have := (o5 x hx).2.1; omega⟩), o7⟩
noncomputable def g_go (n : Int32) (s : zSt) : Int32 × zSt := match ir n 0 60 with
  | none => (-1, s)
  | some n => if hY (sH s) = 0 then (-4, s) else (nI (rSt (runS (sH s) (sLw s) (plW (sH s)) n (sR s))), sRs (runS (sH s) (sLw s) (plW (sH s)) n (sR s)) s)
theorem plW_le (hO : okH H) (st : Nat) : ∀ x, x < hN H → plW H st x ≤ 3 := by
  intro x hx
  obtain ⟨-, z1, -, z3⟩ := hO.2.2.2 x hx
  exact z3 _ (Nat.mod_lt _ (by omega))
theorem X_go27 {lw : Nat} (hO : okH H) (hlw : lw ≤ 2) (n0 : Nat) (hn0 : n0 ≤ 60) : ∀ n s R m f, s + n = n0 → n < f → okR H R → encH (kC k) H m → (∀ x, x < 5 → m 35 x = -1) → m 2 7 = nI lw → encX 19 H R m → ((kC k = 5 ∧ kD k = 12) ∨ (kC k = 12 ∧ kD k = 5)) → ∃ m', zlp (lb_X4_go_27 2 (nI n0)) f (nI s) (Z k m) = some (nI (rSt (runS H lw (plW H) n R)), Z k m') ∧ encX 19 H (runS H lw (plW H) n R) m' ∧ okR H (runS H lw (plW H) n R) ∧ zFr 19 m m' := by
  intro n
  induction n with
  | zero =>
    intro s R m f hs hf hok hH h35 hl hE hkc
    obtain ⟨f, rfl⟩ : ∃ g, f = g + 1 := ⟨f - 1, by omega⟩
    refine ⟨m, ?_, hE, hok, zFr.rf⟩
    rw [zlp_s]
    unfold lb_X4_go_27 jn_X4_go_67
    rw [ifLf (by omega) (by omega), ZA_4_4 s2, Option.bind_some, ZI_1_1 hE.1, Option.bind_some, hE.2.2.1]
    rfl
  | succ n ih =>
    intro s R m f hs hf hok hH h35 hl hE hkc
    obtain ⟨f, rfl⟩ : ∃ g, f = g + 1 := ⟨f - 1, by omega⟩
    have hov := X_isOver (k := k) hO.2.1 hok hE
    rw [zlp_s]
    unfold lb_X4_go_27 jn_X4_go_67
    rw [ifLt (by omega) (by omega), ZA_4_4 s2, Option.bind_some]
    by_cases h : ovS H R
    · have e : runS H lw (plW H) (n + 1) R = R := if_pos h
      rw [hov.1 h, zbd_s, ifb1, e]
      refine ⟨m, ?_, hE, hok, zFr.rf⟩
      rw [ZA_4_4 s2, Option.bind_some, ZI_1_1 hE.1, Option.bind_some, hE.2.2.1]
    · have e : runS H lw (plW H) (n + 1) R = runS H lw (plW H) n (stepS H lw (plW H (rSt R)) R) := if_neg h
      have hst : rSt R < 60 := by unfold ovS at h; omega
      have hwf : wfX H (rSt R) (plW H (rSt R)) m := fun x hx => Or.inl ⟨h35 x (by have := hO.2.1; omega), rfl⟩
      have hw := wfX_le hO hwf
      obtain ⟨m1, r1, r2, r3⟩ := X_takeStep (k := k) hO hok hlw hH hwf hE
      obtain ⟨m', q1, q2, q3, q4⟩ := ih (s + 1) (stepS H lw (plW H (rSt R)) R) m1 f (by omega) (by omega) (okR_step hO hok hw hst) (encH_fr rfl hH r3) (fun x hx => by rw [r3 35 (by omega)]; exact h35 x hx) (by rw [r3 2 (by omega)]; exact hl) r2 hkc
      rw [hov.2 h, zbd_s, ifb0, e]
      refine ⟨m', ?_, q2, q3, zFr.tr r3 q4⟩
      rw [ZA_4_4 s2, Option.bind_some, ZA_4_2 s2, Option.bind_some, ZI_4_7 s2, Option.bind_some, hl, ZA_4_13 s2, Option.bind_some, r1, zbd_s, nA_1]
      exact q1
theorem x_go (n : Int32) : okX (dn_X4_go 2 n) (g_go n) := by
  intro s k m hO hX hk
  have hG := hX.2.2.2.1
  have hH := hG.2.1
  have hOH := hO.2.2.2.1.1
  unfold dn_X4_go g_go jn_X4_go_10
  rw [ZO_4 s2, Option.bind_some]
  rcases ir_c n 0 60 (by omega) (by omega) with ⟨n, h1, h2, rfl, e'⟩ | ⟨e', h0 | ⟨h0, h1⟩⟩
  · rw [e', if_neg (nIn0 (by omega)), jf_60 (by omega), ZA_4_2 s2, Option.bind_some, X_hasRoad hOH.1 hH, zbd_s]
    dsimp only
    by_cases h : hY (sH s) = 0
    · rw [if_pos h, if_pos h, ifb0]
      exact ⟨k, m, rfl, hX, zfX.rf⟩
    · rw [if_neg h, if_neg h, ifb1]
      obtain ⟨m', r1, r2, r3, r4⟩ := X_go27 (k := k) hOH hO.1 n h2 n 0 (sR s) m 2000 (by omega) (by omega) hO.2.2.2.2.2.1 hH hX.2.2.2.2.2.2 hX.1.1 hX.2.2.2.2.1 hG.1
      exact ⟨k, m', r1, hX.r r2 r4, zFr19 r4⟩
  · rw [e']
    have h0' : n < 0 := h0
    exact ⟨k, m, by rw [if_pos h0'], hX, zfX.rf⟩
  · rw [e']
    have h0' : ¬ n < 0 := h0
    have h1' : 60 < n := h1
    exact ⟨k, m, by rw [if_neg h0', if_pos h1'], hX, zfX.rf⟩
theorem wfM_pl {st : Nat} (hN5 : hN H ≤ 5) (h : ∀ i, i < 5 → m 101 i = 0) : wfM H st (plW H st) m := fun x hx => Or.inl ⟨h x (by omega), rfl⟩
theorem M_go33 {lw : Nat} (hO : okH H) (hlw : lw ≤ 2) (n0 : Nat) (hn0 : n0 ≤ 60) : ∀ n s R m f, s + n = n0 → n < f → okR H R → encG H m → zMq 0 lw m → (∀ st, wfM H st (plW H st) m) → encM 0 H R m → ∃ m', zlp (lb_X5_go_33 81 (nI n0)) f (nI s) (Z k m) = some (nI (rSt (runS H lw (plW H) n R)), Z k m') ∧ encM 0 H (runS H lw (plW H) n R) m' ∧ zFm 0 m m' := by
  intro n
  induction n with
  | zero =>
    intro s R m f hs hf hok hG hM hwf hE
    obtain ⟨f, rfl⟩ : ∃ g, f = g + 1 := ⟨f - 1, by omega⟩
    refine ⟨m, ?_, hE, zFm.rf⟩
    rw [zlp_s]
    unfold lb_X5_go_33 jn_X5_go_55
    rw [ifLf (by omega) (by omega), M_v0 hM.1 hE.1, zbd_s, hE.2.1]
    rfl
  | succ n ih =>
    intro s R m f hs hf hok hG hM hwf hE
    obtain ⟨f, rfl⟩ : ∃ g, f = g + 1 := ⟨f - 1, by omega⟩
    have hov := M_isEnd (k := k) hO.2.1 hok hG hM.1 hE
    rw [zlp_s]
    unfold lb_X5_go_33 jn_X5_go_55
    rw [ifLt (by omega) (by omega)]
    by_cases h : ovS H R
    · have e : runS H lw (plW H) (n + 1) R = R := if_pos h
      rw [hov.1 h, zbd_s, ifb1, e]
      refine ⟨m, ?_, hE, zFm.rf⟩
      rw [M_v0 hM.1 hE.1, zbd_s, hE.2.1]
    · have e : runS H lw (plW H) (n + 1) R = runS H lw (plW H) n (stepS H lw (plW H (rSt R)) R) := if_neg h
      have hst : rSt R < 60 := by unfold ovS at h; omega
      obtain ⟨m1, r1, r2, r3⟩ := M_step (k := k) hO hok hlw hG hM (hwf _) hE
      obtain ⟨m', q1, q2, q3⟩ := ih (s + 1) (stepS H lw (plW H (rSt R)) R) m1 f (by omega) (by omega) (okR_step hO hok (plW_le hO _) hst) (encG_fr hG r3) (hM.fr r3) (fun st => (hwf st).fr r3) r2
      rw [hov.2 h, zbd_s, ifb0, e]
      refine ⟨m', ?_, q2, zFm.tr r3 q3⟩
      rw [r1, zbd_s, nA_1]
      exact q1
theorem x5_go (n : Int32) : okM (dn_X5_go 81 n) (g_go n) := by
  intro s k m hO hM
  have hOH := hO.2.2.2.1.1
  have hN5 := hOH.2.1
  have h40 := hOH.1
  have hG := hM.2.2.2.1
  unfold dn_X5_go g_go
  rw [ZO_5 s81, Option.bind_some, show dn_X5_in n 0 60 (Z k m) = _ from M_ir n 0 60 (by omega) (by omega) _, zbd_s]
  rcases ir_c n 0 60 (by omega) (by omega) with ⟨n, h1, h2, rfl, e'⟩ | ⟨e', -⟩
  · rw [e', ifSo, ifb1, ZI_5_10 s81, Option.bind_some, hG.1.1]
    dsimp only
    by_cases h : hY (sH s) = 0
    · rw [et_0 h, if_pos h]
      exact ⟨k, m, rfl, hM, zfM.rf⟩
    · rw [ef_0 h (by omega), if_neg h, M_look0, zbd_s]
      obtain ⟨m2, n1, n2, n3⟩ := M_noChoices (k := k) (m := mu m 81 29 (nI 0))
      have hF : zFw m m2 := zFw.tr (zFw.f81 (by omega)) ⟨fun a _ _ _ h1 _ _ _ => n3 a h1, fun f _ => by rw [n3 81 (by omega)], fun j _ => by rw [n3 100 (by omega)]⟩
      have hM1 := hM.sc hN5 hF
      obtain ⟨m', r1, r2, r3⟩ := M_go33 (k := k) hOH hO.1 n h2 n 0 (sR s) m2 2000 (by omega) (by omega) hO.2.2.2.2.2.1 hM1.2.2.2.1.1 ⟨by rw [n3 81 (by omega), mu_s], hM1.1.1⟩ (fun st => wfM_pl hN5 n2) hM1.2.2.2.2.1
      refine ⟨k, m', ?_, hM1.r hN5 r2 r3, zfM.tr hF.zfM r3.zfM⟩
      rw [n1, zbd_s]
      exact r1
  · rw [e']
    exact ⟨k, m, by rw [ifNo, ifb0], hM, zfM.rf⟩
theorem runS_ok {lw : Nat} {wf : Nat → Nat → Nat} (hO : okH H) (hw : ∀ st x, x < hN H → wf st x ≤ 3) : ∀ n R, okR H R → okR H (runS H lw wf n R) := by
  intro n
  induction n with
  | zero => exact fun R h => h
  | succ n ih =>
    intro R hok
    by_cases h : ovS H R
    · rw [show runS H lw wf (n + 1) R = R from if_pos h]; exact hok
    · rw [show runS H lw wf (n + 1) R = runS H lw wf n (stepS H lw (wf (rSt R)) R) from if_neg h]
      exact ih _ (okR_step hO hok (hw _) (by unfold ovS at h; omega))
theorem okS.r {R' : zRS} (h : okS s) (hr : okR (sH s) R') : okS (sRs R' s) := by
  obtain ⟨o1, o2, o3, o4, o5, o6, o7⟩ := h
  exact ⟨o1, o2, o3, o4, o5, hr, o7⟩
theorem o_go (n : Int32) : okG (g_go n) := by
  intro s hO
  unfold g_go
  cases h : ir n 0 60 with
  | none => exact hO
  | some n =>
    dsimp only
    by_cases h : hY (sH s) = 0
    · rw [if_pos h]; exact hO
    · rw [if_neg h]; exact hO.r (runS_ok hO.2.2.2.1.1 (fun st => plW_le hO.2.2.2.1.1 st) n _ hO.2.2.2.2.2.1)
/-! told, sack, passed -/
noncomputable def g_told (x w : Int32) (s : zSt) : Int32 × zSt := match ix x (hN (sH s)) with
  | none => (-1, s)
  | some x => match ix w 5 with
    | none => (-1, s)
    | some w => (1, sAk (tlS (sH s) (sR s) x w) s)
theorem x_told (x w : Int32) : okX (dn_X4_told 2 x w) (g_told x w) := by
  intro s k m hO hX hk
  have hN5 := hO.2.2.2.1.1.2.1
  unfold dn_X4_told g_told jn_X4_told_17
  rw [ZO_4 s2, Option.bind_some, X_isRunner hN5 hX, zbd_s]
  rcases ix_c x (hN (sH s)) (by omega) with ⟨x, hx, rfl, e⟩ | ⟨e, -⟩
  · rw [e, ifSo, ifb1]
    dsimp only
    rcases ix_c w 5 (by omega) with ⟨w, hw, rfl, e'⟩ | ⟨e', h0 | ⟨h0, h1⟩⟩
    · obtain ⟨x1, x2⟩ := hX.ak (tlS (sH s) (sR s) x w)
      rw [e']
      exact ⟨k, _, by rw [if_neg (nIn0 (by omega)), jf_4 (by omega), ZA_4_4 s2, Option.bind_some, X_detail hN5 hX.2.2.2.2.1 hO.2.2.2.2.2.1 hx (by omega), zbd_s, ZP_4_8 s2, Option.bind_some], x1, x2⟩
    · rw [e']
      exact ⟨k, m, by rw [if_pos h0], hX, zfX.rf⟩
    · rw [e']
      have h1' : 4 < w := ix_hi (n := 5) (by omega) (by omega) h0 h1
      exact ⟨k, m, by rw [if_neg h0, if_pos h1'], hX, zfX.rf⟩
  · rw [e]
    exact ⟨k, m, by rw [ifNo, ifb0], hX, zfX.rf⟩
theorem MS.lk (hN5 : hN (sH s) ≤ 5) (hM : MS s k m) : MS s k (mu m 81 29 (nI 0)) ∧ zfM k m k (mu m 81 29 (nI 0)) := by
  have hF : zFw m (mu m 81 29 (nI 0)) := zFw.f81 (by omega)
  exact ⟨hM.sc hN5 hF, hF.zfM⟩
theorem x5_told (x w : Int32) : okM (dn_X5_told 81 x w) (g_told x w) := by
  intro s k m hO hM
  have hOH := hO.2.2.2.1.1
  have hN5 := hOH.2.1
  unfold dn_X5_told g_told jn_X5_told_17
  rw [ZO_5 s81, Option.bind_some, M_isRunner hN5 hM, zbd_s]
  rcases ix_c x (hN (sH s)) (by omega) with ⟨x, hx, rfl, e⟩ | ⟨e, -⟩
  · rw [e, ifSo, ifb1, show (4 : Int32) = nI 5 - 1 by decide, M_ix w 5 (by omega), zbd_s]
    dsimp only
    rcases ix_c w 5 (by omega) with ⟨w, hw, rfl, e'⟩ | ⟨e', -⟩
    · obtain ⟨l1, l2⟩ := hM.lk hN5
      obtain ⟨m', t1, t2, t3⟩ := M_tells (v := tlS (sH s) (sR s) x w) (a := 1) hN5 l1
      rw [e']
      exact ⟨k, m', by rw [ifSo, ifb1, M_look0, zbd_s, M_raceTells hN5 hOH.1 l1.2.2.2.1.1 (mu_s _ _ _ _) l1.2.2.2.2.1 hO.2.2.2.2.2.1 hx (by omega), zbd_s, t1, zbd_s], t2, zfM.tr l2 t3⟩
    · rw [e']
      exact ⟨k, m, by rw [ifNo, ifb0], hM, zfM.rf⟩
  · rw [e]
    exact ⟨k, m, by rw [ifNo, ifb0], hM, zfM.rf⟩
theorem o_told (x w : Int32) : okG (g_told x w) := by
  intro s hO
  unfold g_told
  cases h : ix x (hN (sH s)) with
  | none => exact hO
  | some j =>
    dsimp only
    cases h' : ix w 5 with
    | none => exact hO
    | some j => exact hO
def g_sack (s : zSt) : Int32 × zSt := if hN (sH s) = 0 then (-4, s) else (nI (rHd (sR s)), sAk (rPs (sR s)) s)
theorem x_sack : okX (dn_X4_sack 2) g_sack := by
  intro s k m hO hX hk
  have hN5 := hO.2.2.2.1.1.2.1
  have hG := hX.2.2.2.1
  have hR := hX.2.2.2.2.1
  unfold dn_X4_sack g_sack
  rw [ZO_4 s2, Option.bind_some, ZA_4_2 s2, Option.bind_some, ZI_0_2 hG.2.1.1, Option.bind_some, hG.2.1.2.2.1]
  by_cases h : hN (sH s) = 0
  · rw [et_0 h, if_pos h]
    exact ⟨k, m, rfl, hX, zfX.rf⟩
  · obtain ⟨x1, x2⟩ := hX.ak (rPs (sR s))
    have e3 : mu m 2 8 (rPs (sR s)) 19 3 = nI (rHd (sR s)) := x1.2.2.2.2.1.2.2.2.2.1
    rw [ef_0 h (by omega), if_neg h]
    refine ⟨k, _, ?_, x1, x2⟩
    rw [ZA_4_4 s2, Option.bind_some, ZI_1_4 rfl, Option.bind_some, hR.2.2.2.2.2.1, ZP_4_8 s2, Option.bind_some, ZA_4_4 s2, Option.bind_some, ZI_1_3 rfl, Option.bind_some, e3]
theorem x5_sack : okM (dn_X5_sack 81) g_sack := by
  intro s k m hO hM
  have hOH := hO.2.2.2.1.1
  have hN5 := hOH.2.1
  obtain ⟨l1, l2⟩ := hM.lk hN5
  have hE := l1.2.2.2.2.1
  unfold dn_X5_sack g_sack jn_X5_sack_31
  rw [ZO_5 s81, Option.bind_some, M_look0, zbd_s, ZI_5_12 s81, Option.bind_some, l1.2.2.2.1.1.2.1]
  by_cases h : hN (sH s) = 0
  · rw [et_0 h, if_pos h]
    exact ⟨k, _, rfl, l1, l2⟩
  · obtain ⟨m', t1, t2, t3⟩ := M_tells (v := rPs (sR s)) (a := nI (rHd (sR s))) hN5 l1
    rw [ef_0 h (by omega), if_neg h]
    refine ⟨k, m', ?_, t2, zfM.tr l2 t3⟩
    rw [M_v2 (mu_s _ _ _ _) (by omega), zbd_s, hE.2.2.2.1, M_v1 (mu_s _ _ _ _) (by omega), zbd_s, hE.2.2.1, t1, zbd_s]
theorem o_sack : okG g_sack := by
  intro s hO
  unfold g_sack
  by_cases h : hN (sH s) = 0
  · rw [if_pos h]; exact hO
  · rw [if_neg h]; exact hO
def g_passed (x : Int32) (s : zSt) : Int32 × zSt := match ix x (hN (sH s)) with
  | none => (-1, s)
  | some x => (rPb (sR s) x, s)
theorem x_passed (x : Int32) : okX (dn_X4_passed 2 x) (g_passed x) := by
  intro s k m hO hX hk
  have hN5 := hO.2.2.2.1.1.2.1
  have hR := hX.2.2.2.2.1
  unfold dn_X4_passed g_passed
  rw [ZO_4 s2, Option.bind_some, X_isRunner hN5 hX, zbd_s]
  rcases ix_c x (hN (sH s)) (by omega) with ⟨x, hx, rfl, e⟩ | ⟨e, -⟩
  · rw [e, ifSo, ifb1]
    exact ⟨k, m, by rw [ZA_4_4 s2, Option.bind_some, ZA_1_11 rfl, Option.bind_some, Zl5 rfl (by omega), Option.bind_some, (hR.2.2.2.2.2.2 x hx).2.2.2.2.2], hX, zfX.rf⟩
  · rw [e]
    exact ⟨k, m, by rw [ifNo, ifb0], hX, zfX.rf⟩
theorem x5_passed (x : Int32) : okM (dn_X5_passed 81 x) (g_passed x) := by
  intro s k m hO hM
  have hOH := hO.2.2.2.1.1
  have hN5 := hOH.2.1
  obtain ⟨l1, l2⟩ := hM.lk hN5
  have hE := l1.2.2.2.2.1
  unfold dn_X5_passed g_passed jn_X5_passed_25
  rw [ZO_5 s81, Option.bind_some, M_look0, zbd_s, M_isRunner hN5 l1, zbd_s]
  rcases ix_c x (hN (sH s)) (by omega) with ⟨x, hx, rfl, e⟩ | ⟨e, -⟩
  · rw [e, ifSo, ifb1]
    exact ⟨k, _, by rw [nB_23, M_v (mu_s _ _ _ _) (by omega), zbd_s, (hE.2.2.2.2 x hx).2.2.2.2.1], l1, l2⟩
  · rw [e]
    exact ⟨k, _, by rw [ifNo, ifb0], l1, l2⟩
theorem o_passed (x : Int32) : okG (g_passed x) := by
  intro s hO
  unfold g_passed
  cases h : ix x (hN (sH s)) with
  | none => exact hO
  | some j => exact hO
end
