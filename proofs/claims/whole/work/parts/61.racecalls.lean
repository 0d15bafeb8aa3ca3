section
variable {k k' : zK} {m m' : Nat → Nat → Int32} {s : zSt} {c : Nat} {H : zHD} {R : zRS}
def sRs (R : zRS) (s : zSt) : zSt := (s.1, s.2.1, s.2.2.1, s.2.2.2.1, R, s.2.2.2.2.2)
def sKs (K : Nat → Option zRS) (s : zSt) : zSt := (s.1, s.2.1, s.2.2.1, s.2.2.2.1, s.2.2.2.2.1, K)
theorem XS.r {R' : zRS} (h : XS s k m) (hR : encX 19 (sH s) R' m') (hf : zFr 19 m m') : XS (sRs R' s) k m' := by
  obtain ⟨hA, hW, hT, hG, -, hK, hC⟩ := h
  have hg := hG.1
  exact ⟨hA.fr (hf 2 (by omega)) (hf 34 (by omega)), hW.fr fun a h1 h2 => hf a (by omega), hT.fr fun a h1 h2 => hf a (by omega), hG.fr fun a h1 h2 => hf a (by omega), hR, hK.fr fun a h1 h2 => hf a (by omega), fun x hx => by rw [hf 35 (by omega)]; exact hC x hx⟩
theorem zFr19 (hf : zFr 19 m m') : zfX k m k m' := zfX.of fun a ha => hf a (by omega)
theorem MS.r {R' : zRS} (hN5 : hN (sH s) ≤ 5) (h : MS s k m) (hR : encM 0 (sH s) R' m') (hf : zFm 0 m m') : MS (sRs R' s) k m' := by
  obtain ⟨hA, hW, hT, hG, -, hK⟩ := h
  obtain ⟨f1, f2⟩ := hf
  exact ⟨hA.fr ⟨by rw [f1 81 (by omega)], by rw [f1 81 (by omega)], by rw [f1 81 (by omega)]⟩ (f1 82 (by omega)), hW.fr (f1 83 (by omega)) (f1 84 (by omega)), hT.fr (f1 86 (by omega)) (f1 87 (by omega)), hG.fr ⟨by rw [f1 81 (by omega)], by rw [f1 81 (by omega)]⟩ fun a h1 h2 => f1 a (by omega), hR, hK.fr hN5 (f1 99 (by omega)) fun a h1 h2 => f2 a (by omega)⟩
theorem zFm.zfM {q : Nat} (hf : zFm q m m') : zfM k m k m' := zfM.of fun a ha => hf.1 a (by omega)
theorem zFw.f81 {f : Nat} {v : Int32} (h : 19 ≤ f ∧ f ≤ 21 ∨ 29 ≤ f) : zFw m (mu m 81 f v) := ⟨fun a h1 _ _ _ _ _ _ => mu_ar _ _ _ h1, fun g hg => mu_j _ _ (by omega), fun j _ => by rw [mu_ar _ _ _ (by omega)]⟩
theorem zFw.wk (h : zFm 132 m m') : zFw m m' := ⟨fun a _ _ h1 _ _ _ _ => h.1 a h1, fun f _ => by rw [h.1 81 (by omega)], fun j hj => h.2 j (by omega)⟩
theorem M_look0 : dn_X5_look 81 0 (Z k m) = some ((), Z k (mu m 81 29 (nI 0))) := M_look (t := 0)
theorem M_look4 : dn_X5_look 81 4 (Z k m) = some ((), Z k (mu m 81 29 (nI 132))) := M_look (t := 4)
theorem X_hasRoad (hY40 : hY H ≤ 40) (hH : encH c H m) : dn_X0_hasRoad c (Z k m) = some (if hY H = 0 then 0 else 1, Z k m) := by
  unfold dn_X0_hasRoad
  rw [ZO_0 hH.1, Option.bind_some, ZI_0_0 hH.1, Option.bind_some, hH.2.1]
  by_cases h : hY H = 0
  · rw [if_pos h, jf_0 (by omega)]; rfl
  · rw [if_neg h, jt_0 (by omega) (by omega)]; rfl
def g_begin (s : zSt) : Int32 × zSt := if hY (sH s) = 0 then (-4, s) else (nI (hN (sH s)), sRs (begS (sH s) (sD s) (sB s)) s)
theorem x_begin : okX (dn_X4_begin 2) g_begin := by
  intro s k m hO hX hk
  have hG := hX.2.2.2.1
  have hH := hG.2.1
  have hOH := hO.2.2.2.1.1
  have hkc := hG.1
  have s7 := shp_2 _ (shp_le (by have := hH.1; omega)) hH.1
  unfold dn_X4_begin g_begin
  rw [ZO_4 s2, Option.bind_some, ZA_4_2 s2, Option.bind_some, X_hasRoad hOH.1 hH, zbd_s]
  by_cases h : hY (sH s) = 0
  · rw [if_pos h, if_pos h, ifb0]
    exact ⟨k, m, rfl, hX, zfX.rf⟩
  · rw [if_neg h, if_neg h, ifb1]
    obtain ⟨m', r1, r2, r3⟩ := X_setOff (k := k) (a := 19) (hd := sD s) (br := sB s) hOH rfl s7.2.2.2.1 s7.2.2.1 (by omega) (by omega) (fun x hx => (hO.2.2.2.2.1 x hx).2.2) hH (fun i hi => ⟨(hG.2.2 i hi).2, (hG.2.2 i hi).1⟩)
    have hH' := encH_fr rfl hH r3
    refine ⟨k, m', ?_, hX.r r2 r3, zFr19 r3⟩
    rw [ZA_4_4 s2, Option.bind_some, ZA_4_2 s2, Option.bind_some, Option.bind_some, ZA_0_5 hH.1, Option.bind_some, Option.bind_some, ZA_0_4 hH.1, Option.bind_some, r1, zbd_s, ZA_4_2 s2, Option.bind_some, ZI_0_2 hH.1, Option.bind_some, hH'.2.2.1]
theorem x5_begin : okM (dn_X5_begin 81) g_begin := by
  intro s k m hO hM
  have hOH := hO.2.2.2.1.1
  have hN5 := hOH.2.1
  have hG := hM.2.2.2.1
  have h40 := hOH.1
  unfold dn_X5_begin g_begin
  rw [ZO_5 s81, Option.bind_some, ZI_5_10 s81, Option.bind_some, hG.1.1]
  by_cases h : hY (sH s) = 0
  · rw [et_0 h, if_pos h]
    exact ⟨k, m, rfl, hM, zfM.rf⟩
  · rw [ef_0 h (by omega), if_neg h, M_look0, zbd_s]
    have hF : zFw m (mu m 81 29 (nI 0)) := zFw.f81 (by omega)
    have hM1 := hM.sc hN5 hF
    have hG1 := hM1.2.2.2.1
    obtain ⟨m', r1, r2, r3⟩ := M_begins (k := k) (q := 0) (hd := sD s) (br := sB s) hN5 hOH.1 (fun x hx => (hO.2.2.2.2.1 x hx).2.2) (by omega) hG1.1 (mu_s _ _ _ _) hG1.2
    refine ⟨k, m', ?_, hM1.r hN5 r2 r3, zfM.tr hF.zfM r3.zfM⟩
    rw [r1, zbd_s, ZI_5_12 s81, Option.bind_some, (encG_fr hG1.1 r3).2.1]
theorem o_begin : okG g_begin := by
  intro s hO
  unfold g_begin
  by_cases h : hY (sH s) = 0
  · rw [if_pos h]; exact hO
  · rw [if_neg h]
    obtain ⟨o1, o2, o3, o4, o5, o6, o7⟩ := hO
    exact ⟨o1, o2, o3, o4, o5, okR_beg (fun x hx => (o5 x hx).2.2) (fun x hx => ⟨(o5 x hx).1, by have := (o5 x hx).2.1; omega⟩), o7⟩
noncomputable def g_go (n : Int32) (s : zSt) : Int32 × zSt := match ir n 0 60 with
  | none => (-1, s)
  | some n => if hY (sH s) = 0 then (-4, s) else (nI (rSt (runS (sH s) (sLw s) (plW (sH s)) n (sR s))), sRs (runS (sH s) (sLw s) (plW (sH s)) n (sR s)) s)
theorem plW_le (hO : okH H) (st : Nat) : ∀ x, x < hN H → plW H st x ≤ 3 := by
  intro x hx
  obtain ⟨-, z1, -, z3⟩ := hO.2.2.2 x hx
  exact z3 _ (Nat.mod_lt _ (by omega))
theorem X_go27 {lw : Nat} (hO : okH H) (hlw : lw ≤ 2) (n0 : Nat) (hn0 : n0 ≤ 60) : ∀ n s R m f, s + n = n0 → n < f → okR H R → encH (kC k) H m → (∀ x, x < 5 → m 35 x = -1) → m 2 7 = nI lw → encX 19 H R m → ((kC k = 5 ∧ kD k = 12) ∨ (kC k = 12 ∧ kD k = 5)) → ∃ m', zlp (lb_X4_go_27 2 (nI n0)) f (nI s) (Z k m) = some (nI (rSt (runS H lw (plW H) n R)), Z k m') ∧ encX 19 H (runS H lw (plW H) n R) m' ∧ okR H (runS H lw (plW H) n R) ∧ zFr 19 m m' := by
  intro n
  induction n with
  | zero =>
    intro s R m f hs hf hok hH h35 hl hE hkc
    obtain ⟨f, rfl⟩ : ∃ g, f = g + 1 := ⟨f - 1, by omega⟩
    refine ⟨m, ?_, hE, hok, zFr.rf⟩
    rw [zlp_s]
    unfold lb_X4_go_27 jn_X4_go_67
    rw [ifLf (by omega) (by omega), ZA_4_4 s2, Option.bind_some, ZI_1_1 hE.1, Option.bind_some, hE.2.2.1]
    rfl
  | succ n ih =>
    intro s R m f hs hf hok hH h35 hl hE hkc
    obtain ⟨f, rfl⟩ : ∃ g, f = g + 1 := ⟨f - 1, by omega⟩
    have hov := X_isOver (k := k) hO.2.1 hok hE
    rw [zlp_s]
    unfold lb_X4_go_27 jn_X4_go_67
    rw [ifLt (by omega) (by omega), ZA_4_4 s2, Option.bind_some]
    by_cases h : ovS H R
    · have e : runS H lw (plW H) (n + 1) R = R := if_pos h
      rw [hov.1 h, zbd_s, ifb1, e]
      refine ⟨m, ?_, hE, hok, zFr.rf⟩
      rw [ZA_4_4 s2, Option.bind_some, ZI_1_1 hE.1, Option.bind_some, hE.2.2.1]
    · have e : runS H lw (plW H) (n + 1) R = runS H lw (plW H) n (stepS H lw (plW H (rSt R)) R) := if_neg h
      have hst : rSt R < 60 := by unfold ovS at h; omega
      have hwf : wfX H (rSt R) (plW H (rSt R)) m := fun x hx => Or.inl ⟨h35 x (by have := hO.2.1; omega), rfl⟩
      have hw := wfX_le hO hwf
      obtain ⟨m1, r1, r2, r3⟩ := X_takeStep (k := k) hO hok hlw hH hwf hE
      obtain ⟨m', q1, q2, q3, q4⟩ := ih (s + 1) (stepS H lw (plW H (rSt R)) R) m1 f (by omega) (by omega) (okR_step hO hok hw hst) (encH_fr rfl hH r3) (fun x hx => by rw [r3 35 (by omega)]; exact h35 x hx) (by rw [r3 2 (by omega)]; exact hl) r2 hkc
      rw [hov.2 h, zbd_s, ifb0, e]
      refine ⟨m', ?_, q2, q3, zFr.tr r3 q4⟩
      rw [ZA_4_4 s2, Option.bind_some, ZA_4_2 s2, Option.bind_some, ZI_4_7 s2, Option.bind_some, hl, ZA_4_13 s2, Option.bind_some, r1, zbd_s, nA_1]
      exact q1
theorem x_go (n : Int32) : okX (dn_X4_go 2 n) (g_go n) := by
  intro s k m hO hX hk
  have hG := hX.2.2.2.1
  have hH := hG.2.1
  have hOH := hO.2.2.2.1.1
  unfold dn_X4_go g_go jn_X4_go_10
  rw [ZO_4 s2, Option.bind_some]
  rcases ir_c n 0 60 (by omega) (by omega) with ⟨n, h1, h2, rfl, e'⟩ | ⟨e', h0 | ⟨h0, h1⟩⟩
  · rw [e', if_neg (nIn0 (by omega)), jf_60 (by omega), ZA_4_2 s2, Option.bind_some, X_hasRoad hOH.1 hH, zbd_s]
    dsimp only
    by_cases h : hY (sH s) = 0
    · rw [if_pos h, if_pos h, ifb0]
      exact ⟨k, m, rfl, hX, zfX.rf⟩
    · rw [if_neg h, if_neg h, ifb1]
      obtain ⟨m', r1, r2, r3, r4⟩ := X_go27 (k := k) hOH hO.1 n h2 n 0 (sR s) m 2000 (by omega) (by omega) hO.2.2.2.2.2.1 hH hX.2.2.2.2.2.2 hX.1.1 hX.2.2.2.2.1 hG.1
      exact ⟨k, m', r1, hX.r r2 r4, zFr19 r4⟩
  · rw [e']
    have h0' : n < 0 := h0
    exact ⟨k, m, by rw [if_pos h0'], hX, zfX.rf⟩
  · rw [e']
    have h0' : ¬ n < 0 := h0
    have h1' : 60 < n := h1
    exact ⟨k, m, by rw [if_neg h0', if_pos h1'], hX, zfX.rf⟩
theorem wfM_pl {st : Nat} (hN5 : hN H ≤ 5) (h : ∀ i, i < 5 → m 101 i = 0) (hcf : ∃ cf, cf ≤ 60 ∧ m 81 30 = nI cf) : wfM H st (plW H st) m := by
  obtain ⟨cf, h1, h2⟩ := hcf
  exact ⟨cf, h1, h2, fun x hx => ⟨0, by omega, h x (by omega), Or.inl ⟨by omega, rfl⟩⟩⟩
theorem M_go33 {lw : Nat} (hO : okH H) (hlw : lw ≤ 2) (n0 : Nat) (hn0 : n0 ≤ 60) : ∀ n s R m f, s + n = n0 → n < f → okR H R → encG H m → zMq 0 lw m → (∀ st, wfM H st (plW H st) m) → encM 0 H R m → ∃ m', zlp (lb_X5_go_33 81 (nI n0)) f (nI s) (Z k m) = some (nI (rSt (runS H lw (plW H) n R)), Z k m') ∧ encM 0 H (runS H lw (plW H) n R) m' ∧ zFm 0 m m' := by
  intro n
  induction n with
  | zero =>
    intro s R m f hs hf hok hG hM hwf hE
    obtain ⟨f, rfl⟩ : ∃ g, f = g + 1 := ⟨f - 1, by omega⟩
    refine ⟨m, ?_, hE, zFm.rf⟩
    rw [zlp_s]
    unfold lb_X5_go_33 jn_X5_go_55
    rw [ifLf (by omega) (by omega), M_v0 hM.1 hE.1, zbd_s, hE.2.1]
    rfl
  | succ n ih =>
    intro s R m f hs hf hok hG hM hwf hE
    obtain ⟨f, rfl⟩ : ∃ g, f = g + 1 := ⟨f - 1, by omega⟩
    have hov := M_isEnd (k := k) hO.2.1 hok hG hM.1 hE
    rw [zlp_s]
    unfold lb_X5_go_33 jn_X5_go_55
    rw [ifLt (by omega) (by omega)]
    by_cases h : ovS H R
    · have e : runS H lw (plW H) (n + 1) R = R := if_pos h
      rw [hov.1 h, zbd_s, ifb1, e]
      refine ⟨m, ?_, hE, zFm.rf⟩
      rw [M_v0 hM.1 hE.1, zbd_s, hE.2.1]
    · have e : runS H lw (plW H) (n + 1) R = runS H lw (plW H) n (stepS H lw (plW H (rSt R)) R) := if_neg h
      have hst : rSt R < 60 := by unfold ovS at h; omega
      obtain ⟨m1, r1, r2, r3⟩ := M_step (k := k) hO hok hlw hG hM (hwf _) hE
      obtain ⟨m', q1, q2, q3⟩ := ih (s + 1) (stepS H lw (plW H (rSt R)) R) m1 f (by omega) (by omega) (okR_step hO hok (plW_le hO _) hst) (encG_fr hG r3) (hM.fr r3) (fun st => (hwf st).fr r3) r2
      rw [hov.2 h, zbd_s, ifb0, e]
      refine ⟨m', ?_, q2, zFm.tr r3 q3⟩
      rw [r1, zbd_s, nA_1]
      exact q1
end
