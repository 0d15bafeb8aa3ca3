section
variable {k k' : zK} {m m' : Nat → Nat → Int32} {s : zSt} {c : Nat} {H : zHD} {R : zRS}
theorem X_runT {hd br : Nat → Nat} {ah ab : Nat} (hO : okS s) (hX : XS s k m) (sh : shp ah = 6) (sb : shp ab = 6) (nh : ah < 26 ∨ 32 < ah) (nb : ab < 26 ∨ 32 < ab) (h1 : ∀ x, x < hN (sH s) → hd x ≤ 9) (h2 : ∀ x, x < hN (sH s) → 1 ≤ br x ∧ br x ≤ 10) (hv : ∀ i, i < hN (sH s) → m ah i = nI (hd i) ∧ m ab i = nI (br i)) : ∃ m', dn_X4_runTrial 2 ah ab (Z k m) = some ((), Z k m') ∧ encX 26 (sH s) (enS (sH s) (sLw s) (begS (sH s) hd br)) m' ∧ zFr 26 m m' := by
  have hOH := hO.2.2.2.1.1
  have hG := hX.2.2.2.1
  have hkc := hG.1
  obtain ⟨m1, r1, r2, r3⟩ := X_setOff (k := k) (a := 26) hOH rfl sh sb nh nb h1 hG.2.1 hv
  have h27 : m1 2 7 = nI (sLw s) := by rw [r3 2 (by omega)]; exact hX.1.1
  obtain ⟨m2, q1, q2, q3, q4, q5⟩ := X_runOut (k := k) hOH hO.1 (okR_beg h1 h2) (encH_fr rfl hG.2.1 r3) (fun x hx => by rw [r3 35 (by omega)]; exact hX.2.2.2.2.2.2 x (by have := hOH.2.1; omega)) r2
  refine ⟨m2, ?_, q2, zFr.tr r3 q5⟩
  unfold dn_X4_runTrial
  rw [ZO_4 s2, Option.bind_some, ZA_4_5 s2, Option.bind_some, ZA_4_2 s2, Option.bind_some, r1, zbd_s, ZA_4_5 s2, Option.bind_some, ZA_4_2 s2, Option.bind_some, ZI_4_7 s2, Option.bind_some, h27, ZA_4_13 s2, Option.bind_some, q1, zbd_s]
def zWl (m : Nat → Nat → Int32) : Prop := (∀ i, i < 5 → m 101 i = 0) ∧ m 81 29 = nI 132
theorem zWl.fm (h : zWl m) (hf : zFm 132 m m') : zWl m' := ⟨fun i hi => by rw [hf.1 101 (by omega)]; exact h.1 i hi, by rw [hf.1 81 (by omega)]; exact h.2⟩
theorem M_layWhole (hO : okS s) (hM : MS s k m) : ∃ m', dn_X5_layWhole 81 (Z k m) = some ((), Z k m') ∧ encM 132 (sH s) (begS (sH s) (sD s) (sB s)) m' ∧ MS s k m' ∧ zWl m' ∧ zFw m m' := by
  have hOH := hO.2.2.2.1.1
  have hN5 := hOH.2.1
  obtain ⟨m1, n1, n2, n3, n4, n5⟩ := M_nc hN5 hM
  have hF : zFw m1 (mu m1 81 29 (nI 132)) := zFw.f81 (by omega)
  have hM2 := n3.sc hN5 hF
  have hG := hM2.2.2.2.1
  obtain ⟨m3, r1, r2, r3⟩ := M_begins (k := k) (q := 132) (hd := sD s) (br := sB s) hN5 hOH.1 (fun x hx => (hO.2.2.2.2.1 x hx).2.2) (by omega) hG.1 (mu_s _ _ _ _) hG.2
  refine ⟨m3, ?_, r2, hM2.sc hN5 (zFw.wk r3), ⟨fun i hi => by rw [r3.1 101 (by omega), mu_ar _ _ _ (by omega)]; exact n2 i hi, by rw [r3.1 81 (by omega), mu_s]⟩, zFw.tr n5 (zFw.tr hF (zFw.wk r3))⟩
  unfold dn_X5_layWhole
  rw [ZO_5 s81, Option.bind_some, n1, zbd_s, M_look4, zbd_s, r1, zbd_s]
theorem M_startsW {x b h : Nat} (hO : okS s) (hM : MS s k m) (hw : zWl m) (hE : encM 132 (sH s) R m) (hx : x < hN (sH s)) (hh : h ≤ 100) : ∃ m', dn_X5_starts 81 (nI x) (nI b) (nI h) (Z k m) = some ((), Z k m') ∧ encM 132 (sH s) (stS (sH s) R x b h) m' ∧ MS s k m' ∧ zWl m' ∧ zFm 132 m m' := by
  have hOH := hO.2.2.2.1.1
  obtain ⟨m', r1, r2, r3⟩ := M_starts (k := k) (b := b) (h := h) hOH.2.1 hOH.1 hM.2.2.2.1.1 hw.2 hE hx hh
  exact ⟨m', r1, r2, hM.sc hOH.2.1 (zFw.wk r3), hw.fm r3, r3⟩
theorem M_endW (hO : okS s) (hM : MS s k m) (hw : zWl m) (hE : encM 132 (sH s) R m) (hok : okR (sH s) R) : ∃ m', dn_X5_toEnd 81 (Z k m) = some ((), Z k m') ∧ encM 132 (sH s) (enS (sH s) (sLw s) R) m' ∧ MS s k m' ∧ zWl m' ∧ zFm 132 m m' := by
  have hOH := hO.2.2.2.1.1
  obtain ⟨m3, q1, q2, q3, q4, q5⟩ := M_toEnd (k := k) (q := 132) hOH hO.1 hok hM.2.2.2.1.1 ⟨hw.2, hM.1.1⟩ (fun st _ _ => wfM_pl hOH.2.1 hw.1) hE
  exact ⟨m3, q1, q2, hM.sc hOH.2.1 (zFw.wk q5), hw.fm q5, q5⟩
theorem agS_0 {D B hd br : Nat → Nat} : agS H hd br 0 (begS H D B) := ⟨rfl, rfl, rfl, fun i hi => ⟨rfl, rfl, fun z => by omega⟩⟩
/-! start -/
noncomputable def stE (s : zSt) (x v : Nat) : zRS := enS (sH s) (sLw s) (begS (sH s) (va_up (sD s) x v) (sB s))
noncomputable def stF (s : zSt) (x : Nat) : Nat → Nat → Int32
  | 0, _ => -9
  | n + 1, v => if rHd (stE s x v) = x then stF s x n (v + 1) else nI v
noncomputable def g_start (x : Int32) (s : zSt) : Int32 × zSt := match ix x (hN (sH s)) with
  | none => (-1, s)
  | some x => (stF s x 10 0, s)
theorem stD_le {x v : Nat} (hO : okS s) (hv : v ≤ 9) : ∀ y, y < hN (sH s) → va_up (sD s) x v y ≤ 9 := by
  intro y hy
  have := (hO.2.2.2.2.1 y hy).2.2
  by_cases h : y = x
  · simp [va_up, h, hv]
  · simp [va_up, h, this]
theorem stB_le (hO : okS s) : ∀ y, y < hN (sH s) → 1 ≤ sB s y ∧ sB s y ≤ 10 := fun y hy => ⟨(hO.2.2.2.2.1 y hy).1, by have := (hO.2.2.2.2.1 y hy).2.1; omega⟩
theorem x_start (x : Int32) : okX (dn_X4_start 2 x) (g_start x) := by
  intro s k m hO hX hk
  have hOH := hO.2.2.2.1.1
  have hN5 := hOH.2.1
  have hG := hX.2.2.2.1
  have hH := hG.2.1
  have hkc := hG.1
  have s7 := shp_2 _ (shp_le (by have := hH.1; omega)) hH.1
  unfold dn_X4_start g_start
  rw [ZO_4 s2, Option.bind_some, X_isRunner hN5 hX, zbd_s]
  rcases ix_c x (hN (sH s)) (by omega) with ⟨x, hx, rfl, e⟩ | ⟨e, -⟩
  · rw [e, ifSo, ifb1, ZA_4_2 s2, Option.bind_some, ZA_0_5 hH.1, Option.bind_some, ZA_4_14 s2, Option.bind_some, show zcp (kC k + 4) 0 36 0 5 (Z k m) = _ from Zcp (sp := 0) (dp := 0) (n := 5) (by omega) (by omega) (by rw [s7.2.2.2.1]; rfl) (by decide) (by decide) rfl (by rw [s7.2.2.2.1]; decide) (by decide), Option.bind_some]
    have h0 : ∀ i, i < 5 → ms m 36 (va_cpy (m (kC k + 4)) (m 36) 0 0 5) 36 i = m (kC k + 4) i := fun i hi => by
      simp only [ms, if_true, va_cpy]
      rw [if_pos (by omega)]
      congr 1
      omega
    have hX1 : XS s k (ms m 36 (va_cpy (m (kC k + 4)) (m 36) 0 0 5)) := hX.sc (fun a h1 h2 h3 => by simp only [ms]; rw [if_neg (by omega)]) (fun y hy => by simp only [ms]; rw [if_neg (by omega)]; exact hX.2.2.2.2.2.2 y hy)
    refine lp_inv (N := 10) (I := fun v t h => ∃ m2, t = nI v ∧ h = Z k m2 ∧ XS s k m2 ∧ zfX k m k m2 ∧ stF s x (10 - v) v = stF s x 10 0 ∧ ∀ i, i < hN (sH s) → i ≠ x → m2 36 i = nI (sD s i)) (Q := fun r => ∃ k' m', r = some (stF s x 10 0, Z k' m') ∧ XS s k' m' ∧ zfX k m k' m') ?_ ?_ 10 0 2000 _ _ (by omega) (by omega) ⟨_, rfl, rfl, hX1, zfX.of fun a ha => by simp only [ms]; rw [if_neg (by omega)], rfl, fun i hi _ => by rw [h0 i (by omega)]; exact (hG.2.2 i hi).2⟩
    · rintro v t h hv ⟨m2, rfl, rfl, h1, h2, h3, h4⟩
      have hX3 : XS s k (mu m2 36 x (nI v)) := h1.sc (fun a g1 g2 g3 => mu_ar _ _ _ (by omega)) (fun y hy => by rw [mu_ar _ _ _ (by omega)]; exact h1.2.2.2.2.2.2 y hy)
      have hG3 := hX3.2.2.2.1
      obtain ⟨m3, r1, r2, r3⟩ := X_runT (ah := 36) (ab := kC k + 3) (hd := va_up (sD s) x v) (br := sB s) hO hX3 rfl s7.2.2.1 (by omega) (by omega) (stD_le hO (by omega)) (stB_le hO) (fun i hi => ⟨by
        by_cases hix : i = x
        · subst hix; rw [mu_s]; simp [va_up]
        · rw [mu_j _ _ hix, h4 i hi hix]; simp [va_up, hix], (hG3.2.2 i hi).1⟩)
      have hh := rHd_le hN5 (enS_ok (lw := sLw s) hOH (okR_beg (stD_le (x := x) hO (show v ≤ 9 by omega)) (stB_le hO)))
      have hgo : ∀ rec, lb_X4_start_29 2 (nI x) rec (nI v) (Z k m2) = if nI (rHd (stE s x v)) = nI x then rec (nI (v + 1)) (Z k m3) else some (nI v, Z k m3) := by
        intro rec
        unfold lb_X4_start_29 jn_X4_start_68
        rw [jf_9 (by omega), ZA_4_14 s2, Option.bind_some, Ms_36 (by omega), Option.bind_some, ZA_4_14 s2, Option.bind_some, ZA_4_2 s2, Option.bind_some, ZA_0_4 hH.1, Option.bind_some, r1, zbd_s, ZA_4_5 s2, Option.bind_some, ZI_1_3 rfl, Option.bind_some, r2.2.2.2.2.1, nA_1]
        rfl
      have hX4 := hX3.t26 r3
      have hf4 : zfX k m k m3 := h2.tr0 fun a ha => by rw [r3 a (by omega), mu_ar _ _ _ (by omega)]
      obtain ⟨n, hn⟩ : ∃ n, 10 - v = n + 1 := ⟨9 - v, by omega⟩
      rw [hn] at h3
      by_cases hc : rHd (stE s x v) = x
      · left
        refine ⟨nI (v + 1), Z k m3, ⟨m3, rfl, rfl, hX4, hf4, ?_, fun i hi hix => by rw [r3 36 (by omega), mu_j _ _ hix]; exact h4 i hi hix⟩, fun rec => by rw [hgo, ifEt hc]⟩
        rw [← h3, show stF s x (n + 1) v = stF s x n (v + 1) from if_pos hc, show 10 - (v + 1) = n by omega]
      · right
        intro rec
        refine ⟨k, m3, ?_, hX4, hf4⟩
        have hh' : rHd (stE s x v) ≤ 5 := hh
        rw [hgo, ifEf hc (by omega) (by omega), ← h3, show stF s x (n + 1) v = nI v from if_neg hc]
    · rintro t h ⟨m2, rfl, rfl, h1, h2, h3, h4⟩ rec
      refine ⟨k, m2, ?_, h1, h2⟩
      unfold lb_X4_start_29 jn_X4_start_76
      rw [if_pos (by decide), ← h3]
      rfl
  · rw [e]
    exact ⟨k, m, by rw [ifNo, ifb0], hX, zfX.rf⟩
theorem stS_beg {x v : Nat} {q : Nat} {D B : Nat → Nat} (hE : encM q H (stS H (begS H D B) x (B x) v) m) : encM q H (begS H (va_up D x v) B) m := by
  refine encM_cg (R := stS H (begS H D B) x (B x) v) rfl rfl rfl (fun i hi => ?_) hE
  show va_up D x v i = va_up D x v i ∧ B i = va_up B x (B x) i ∧ B i = va_up B x (B x) i ∧ (if va_up D x v i < hY H then (-9 : Int32) else 0) = va_up (fun y => if D y < hY H then (-9 : Int32) else 0) x (if v < hY H then -9 else 0) i ∧ (0 : Int32) = 0 ∧ (0 : Int32) = 0
  by_cases h : i = x
  · simp [va_up, h]
  · simp [va_up, h]
theorem x5_start (x : Int32) : okM (dn_X5_start 81 x) (g_start x) := by
  intro s k m hO hM
  have hOH := hO.2.2.2.1.1
  have hN5 := hOH.2.1
  unfold dn_X5_start g_start
  rw [ZO_5 s81, Option.bind_some, M_isRunner hN5 hM, zbd_s]
  rcases ix_c x (hN (sH s)) (by omega) with ⟨x, hx, rfl, e⟩ | ⟨e, -⟩
  · rw [e, ifSo, ifb1]
    refine lp_inv (N := 10) (I := fun v t h => ∃ m2, t = nI v ∧ h = Z k m2 ∧ MS s k m2 ∧ zFw m m2 ∧ stF s x (10 - v) v = stF s x 10 0) (Q := fun r => ∃ k' m', r = some (stF s x 10 0, Z k' m') ∧ MS s k' m' ∧ zfM k m k' m') ?_ ?_ 10 0 2000 _ _ (by omega) (by omega) ⟨m, rfl, rfl, hM, zFw.rf, rfl⟩
    · rintro v t h hv ⟨m2, rfl, rfl, h1, h2, h3⟩
      obtain ⟨m3, r1, r2, r3, r4, r5⟩ := M_layWhole hO h1
      have hb3 : m3 90 x = nI (sB s x) := (r3.2.2.2.1.2 x hx).1
      obtain ⟨m4, q1, q2, q3, q4, q5⟩ := M_startsW (b := sB s x) (h := v) hO r3 r4 r2 hx (by omega)
      have hok := okR_beg (stD_le (x := x) hO (show v ≤ 9 by omega)) (stB_le hO)
      obtain ⟨m5, p1, p2, p3, p4, p5⟩ := M_endW hO q3 q4 (stS_beg q2) hok
      have p2' : encM 132 (sH s) (stE s x v) m5 := p2
      have hh : rHd (stE s x v) ≤ 5 := rHd_le hN5 (enS_ok (lw := sLw s) hOH hok)
      have hgo : ∀ rec, lb_X5_start_12 81 (nI x) rec (nI v) (Z k m2) = if nI (rHd (stE s x v)) = nI x then rec (nI (v + 1)) (Z k m5) else some (nI v, Z k m5) := by
        intro rec
        unfold lb_X5_start_12 jn_X5_start_47
        rw [jf_9 (by omega), r1, zbd_s, ZA_5_14 s81, Option.bind_some, Ml_90 (by omega), Option.bind_some, hb3, q1, zbd_s, p1, zbd_s, M_v1 p4.2 (by omega), zbd_s, p2'.2.2.1, nA_1]
      have hF := zFw.tr h2 (zFw.tr r5 (zFw.tr (zFw.wk q5) (zFw.wk p5)))
      obtain ⟨n, hn⟩ : ∃ n, 10 - v = n + 1 := ⟨9 - v, by omega⟩
      rw [hn] at h3
      by_cases hc : rHd (stE s x v) = x
      · left
        refine ⟨nI (v + 1), Z k m5, ⟨m5, rfl, rfl, p3, hF, ?_⟩, fun rec => by rw [hgo, ifEt hc]⟩
        rw [← h3, show stF s x (n + 1) v = stF s x n (v + 1) from if_pos hc, show 10 - (v + 1) = n by omega]
      · right
        intro rec
        refine ⟨k, m5, ?_, p3, hF.zfM⟩
        rw [hgo, ifEf hc (by omega) (by omega), ← h3, show stF s x (n + 1) v = nI v from if_neg hc]
    · rintro t h ⟨m2, rfl, rfl, h1, h2, h3⟩ rec
      refine ⟨k, m2, ?_, h1, h2.zfM⟩
      unfold lb_X5_start_12 jn_X5_start_55
      rw [if_pos (by decide), ← h3]
      rfl
  · rw [e]
    exact ⟨k, m, by rw [ifNo, ifb0], hM, zfM.rf⟩
theorem o_start (x : Int32) : okG (g_start x) := by
  intro s hO
  unfold g_start
  cases h : ix x (hN (sH s)) with
  | none => exact hO
  | some j => exact hO
end
