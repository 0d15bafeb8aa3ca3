section
variable {k k' : zK} {m m' : Nat → Nat → Int32} {s : zSt} {c : Nat} {H : zHD} {R : zRS}
theorem M_isMany {r : Int32} {h : zAH} : dn_X5_isMany r h = some (if (ir r 1 4).isSome then 1 else 0, h) := by
  unfold dn_X5_isMany
  rw [show dn_X5_in r 1 4 h = _ from M_ir r 1 4 (by omega) (by omega) h, zbd_s]
  by_cases h1 : (ir r 1 4).isSome = true
  · rw [if_pos h1]; rfl
  · rw [if_neg h1]; rfl
def cvS (g : Nat) : Nat := if 10 < g then 100 + (g - 10) else g
theorem x5_best (x r : Int32) : okM (dn_X5_best 81 x r) (g_best x r) := by
  intro s k m hO hM
  have hOH := hO.2.2.2.1.1
  have hN5 := hOH.2.1
  unfold dn_X5_best g_best jn_X5_best_15
  rw [ZO_5 s81, Option.bind_some, M_isRunner hN5 hM, zbd_s]
  rcases ix_c x (hN (sH s)) (by omega) with ⟨x, hx, rfl, e⟩ | ⟨e, -⟩
  · rw [e, ifSo, ifb1, M_isMany, zbd_s]
    dsimp only
    rcases ir_c r 1 4 (by omega) (by omega) with ⟨kk, k1, k2, rfl, e'⟩ | ⟨e', -⟩
    · have hp := pow4_le k2
      obtain ⟨m1, c1, c2, c3, c4⟩ := M_choicesBegin hO hM
      rw [e', ifSo, ifb1, c1, zbd_s]
      dsimp only
      have hpow : ∀ h : zAH, dn_X5_powerOf 4 (nI kk) h = some (nI (4 ^ kk), h) := fun h => M_pow (b := 4) (by omega) (by omega)
      refine lp_inv (N := 4 ^ kk) (I := fun c t h => ∃ m2, (c = 0 ∧ t = (-9, 0, 0) ∨ 0 < c ∧ t = (nI (bsL s x kk c).1, nI (cvS (bsL s x kk c).2), nI c)) ∧ h = Z k m2 ∧ MS s k m2 ∧ zCb s (b1 x) m2 ∧ zFw m m2) (Q := fun r => ∃ k' m', r = some (nI (bsL s x kk (4 ^ kk)).1, Z k' m') ∧ MS (sAk (nI (fnS (bsL s x kk (4 ^ kk)).2)) s) k' m' ∧ zfM k m k' m') ?_ ?_ (4 ^ kk) 0 2000 _ (Z k m1) (by omega) (by omega) ⟨m1, Or.inl ⟨rfl, rfl⟩, rfl, c2, c3 _, c4⟩
      · rintro c t h hc ⟨m2, ht, rfl, h1, hcb, h2⟩
        left
        obtain ⟨m3, m4, r1, r2, r3, r4, r5, r6, r7⟩ := M_try1 (code := c) hO h1 hcb hx k2 (by omega)
        have hg := grS_le (s := s) (x := x) (kk := kk) (code := c) hN5
        have hb := (bsL_le (s := s) (x := x) (kk := kk) hN5 c)
        have hh := rHd_le hN5 (ch1_ok (x := x) (kk := kk) (code := c) hO)
        have hrk := rkS_le (R := ch1 s x kk c) (x := x) hN5
        refine ⟨(nI (bsL s x kk (c + 1)).1, nI (cvS (bsL s x kk (c + 1)).2), nI (c + 1)), Z k m4, ⟨m4, Or.inr ⟨by omega, rfl⟩, rfl, r5, r6, zFw.tr h2 r7⟩, fun rec => ?_⟩
        have ht3 : t.2.2 = nI c := by
          rcases ht with ⟨z, rfl⟩ | ⟨z, rfl⟩
          · rw [z]; rfl
          · rfl
        have hfin : ∀ w0 : Int32, w0 + nI (rkS (sH s) (ch1 s x kk c) x) = nI (cvS (grS s x kk c)) → jn_X5_best_67 rec 81 (nI x) (nI kk) t.1 t.2.1 t.2.2 w0 (Z k m4) = rec (nI (bsL s x kk (c + 1)).1, nI (cvS (bsL s x kk (c + 1)).2), nI (c + 1)) (Z k m4) := by
          intro w0 hw
          unfold jn_X5_best_67 jn_X5_best_88 jn_X5_best_95
          rw [M_rankOf hN5 r5.2.2.2.1.1 r4 r3 (ch1_ok hO) hx, zbd_s, hw, ht3, nA_1]
          rcases ht with ⟨z, rfl⟩ | ⟨z, rfl⟩
          · subst z
            rw [if_pos rfl, show bsL s x kk (0 + 1) = (0, grS s x kk 0) from if_pos (by show grS s x kk 0 < 20; omega)]
          · rw [if_neg (fun q => (n9 (by omega)).mp q)]
            have hb2 := hb.2.resolve_left (by omega)
            by_cases hlt : grS s x kk c < (bsL s x kk c).2
            · rw [ifLt (by unfold cvS; split <;> split <;> omega) (by unfold cvS; split <;> omega), show bsL s x kk (c + 1) = (c, grS s x kk c) from if_pos hlt]
            · rw [ifLf (by unfold cvS; split <;> split <;> omega) (by unfold cvS; split <;> omega), show bsL s x kk (c + 1) = bsL s x kk c from if_neg hlt]
        unfold lb_X5_best_30
        rw [hpow, zbd_s, ht3, ifLt hc (by omega), r1, zbd_s, r2, zbd_s, M_v1 r4 (by omega), zbd_s, r3.2.2.1]
        by_cases hhx : rHd (ch1 s x kk c) = x
        · rw [ifEt hhx, ← ht3]
          refine hfin _ ?_
          unfold grS cvS
          rw [if_pos hhx, if_pos (by omega), nB_100]
          congr 1
        · rw [ifEf hhx (by omega) (by omega), ← ht3]
          refine hfin _ ?_
          unfold grS cvS
          rw [if_neg hhx, if_neg (by omega), Int32.zero_add, Nat.add_zero]
      · rintro t h ⟨m2, ht, rfl, h1, hcb, h2⟩ rec
        rcases ht with ⟨z, -⟩ | ⟨-, rfl⟩
        · omega
        · have hb := (bsL_le (s := s) (x := x) (kk := kk) hN5 (4 ^ kk))
          have hb2 := hb.2.resolve_left (by omega)
          obtain ⟨m3, n1, n2, n3, n4, n5⟩ := M_nc hN5 h1
          obtain ⟨m', t1, t2, t3⟩ := M_tells (v := nI (fnS (bsL s x kk (4 ^ kk)).2)) (a := nI (bsL s x kk (4 ^ kk)).1) hN5 n3
          have hcv : cvS (bsL s x kk (4 ^ kk)).2 < 2 ^ 31 := by unfold cvS; split <;> omega
          have ev : 10 * (nI (cvS (bsL s x kk (4 ^ kk)).2) % 100) + nI (cvS (bsL s x kk (4 ^ kk)).2) / 100 = nI (fnS (bsL s x kk (4 ^ kk)).2) := by
            rw [show nI (cvS (bsL s x kk (4 ^ kk)).2) % 100 = nI (cvS (bsL s x kk (4 ^ kk)).2 % 100) from nMod (d := 100) hcv (by omega) (by omega), show nI (cvS (bsL s x kk (4 ^ kk)).2) / 100 = nI (cvS (bsL s x kk (4 ^ kk)).2 / 100) from nDiv (d := 100) hcv (by omega) (by omega), nM_10, nI_add]
            congr 1
            unfold cvS fnS
            split <;> omega
          refine ⟨k, m', ?_, t2, zfM.tr h2.zfM (zfM.tr n5.zfM t3)⟩
          unfold lb_X5_best_30 jn_X5_best_101
          dsimp only
          rw [hpow, zbd_s, ifLf (Nat.le_refl _) (by omega), n1, zbd_s, if_neg (by decide), if_neg (by decide), ev, t1, zbd_s]
    · rw [e']
      exact ⟨k, m, by rw [ifNo, ifb0], hM, zfM.rf⟩
  · rw [e]
    exact ⟨k, m, by rw [ifNo, ifb0], hM, zfM.rf⟩
theorem o_best (x r : Int32) : okG (g_best x r) := by
  intro s hO
  unfold g_best
  cases h : ix x (hN (sH s)) with
  | none => exact hO
  | some j =>
    dsimp only
    cases h' : ir r 1 4 with
    | none => exact hO
    | some j => exact hO
noncomputable def g_free (x r : Int32) (s : zSt) : Int32 × zSt := match ix x (hN (sH s)) with
  | none => (-1, s)
  | some x => match ir r 1 4 with
    | none => (-1, s)
    | some kk => (nI (cnt (fun c => ¬ rHd (ch1 s x kk c) = x) (4 ^ kk)), sFr (cnt (fun c => ¬ rHd (ch1 s x kk c) = x) (4 ^ kk)) (4 ^ kk) s)
theorem x_free (x r : Int32) : okX (dn_X4_free 2 x r) (g_free x r) := by
  intro s k m hO hX hk
  have hOH := hO.2.2.2.1.1
  have hN5 := hOH.2.1
  unfold dn_X4_free g_free jn_X4_free_18
  rw [ZO_4 s2, Option.bind_some, X_isRunner hN5 hX, zbd_s]
  rcases ix_c x (hN (sH s)) (by omega) with ⟨x, hx, rfl, e⟩ | ⟨e, -⟩
  · rw [e, ifSo, ifb1]
    dsimp only
    rcases ir_c r 1 4 (by omega) (by omega) with ⟨kk, k1, k2, rfl, e'⟩ | ⟨e', h0 | ⟨h0, h1⟩⟩
    · have hp := pow4_le k2
      rw [e', if_neg (fun z => by have := (nL_1 (by omega)).mp z; omega), jf_4 (by omega), X_pow4 (by omega), zbd_s]
      dsimp only
      have hcl := cnt_le (P := fun c => ¬ rHd (ch1 s x kk c) = x) (4 ^ kk)
      refine lp_inv (N := 4 ^ kk) (I := fun c t h => ∃ m2, t = (nI (cnt (fun c => ¬ rHd (ch1 s x kk c) = x) c), nI c) ∧ h = Z k m2 ∧ XS s k m2 ∧ zfX k m k m2) (Q := fun r => ∃ k' m', r = some (nI (cnt (fun c => ¬ rHd (ch1 s x kk c) = x) (4 ^ kk)), Z k' m') ∧ XS (sFr (cnt (fun c => ¬ rHd (ch1 s x kk c) = x) (4 ^ kk)) (4 ^ kk) s) k' m' ∧ zfX k m k' m') ?_ ?_ (4 ^ kk) 0 2000 _ (Z k m) (by omega) (by omega) ⟨m, rfl, rfl, hX, zfX.rf⟩
      · rintro c t h hc ⟨m2, rfl, rfl, h1, h2⟩
        left
        obtain ⟨m3, r1, r2, r3, r4⟩ := X_try1 (code := c) hO h1 hx k2 (by omega)
        have hh := rHd_le hN5 (ch1_ok (x := x) (kk := kk) (code := c) hO)
        refine ⟨(nI (cnt (fun c => ¬ rHd (ch1 s x kk c) = x) (c + 1)), nI (c + 1)), Z k m3, ⟨m3, rfl, rfl, h1.tc r3 r4, h2.tr0 fun a ha => r3 a (by omega) (by omega)⟩, fun rec => ?_⟩
        unfold lb_X4_free_31 jn_X4_free_60
        dsimp only
        rw [ifLt hc (by omega), r1, zbd_s, ZA_4_5 s2, Option.bind_some, ZI_1_3 rfl, Option.bind_some, r2.2.2.2.2.1, nA_1, nA_1]
        by_cases hhx : rHd (ch1 s x kk c) = x
        · rw [ifEt hhx, cnt_f (fun z => z hhx)]
        · rw [ifEf hhx (by omega) (by omega), cnt_t (P := fun c => ¬ rHd (ch1 s x kk c) = x) hhx]
      · rintro t h ⟨m2, rfl, rfl, h1, h2⟩ rec
        obtain ⟨k', t1, t2, t3⟩ := X_tell (u := cnt (fun c => ¬ rHd (ch1 s x kk c) = x) (4 ^ kk)) (l := 4 ^ kk) (by omega) (by omega) (by omega) h1
        refine ⟨k', m2, ?_, t2, ⟨fun a ha => h2.1 a ha, t3.2⟩⟩
        have t1' : dn_X4_tellFraction 2 (Int32.toInt64 (nI (cnt (fun c => ¬ rHd (ch1 s x kk c) = x) (4 ^ kk)))) (Int32.toInt64 (nI (4 ^ kk))) (Z k m2) = some ((), Z k' m2) := t1
        unfold lb_X4_free_31 jn_X4_free_66
        dsimp only
        rw [ifLf (Nat.le_refl _) (by omega), t1', zbd_s]
    · rw [e']
      have h0' : r < 1 := h0
      exact ⟨k, m, by rw [if_pos h0'], hX, zfX.rf⟩
    · rw [e']
      have h0' : ¬ r < 1 := h0
      have h1' : 4 < r := h1
      exact ⟨k, m, by rw [if_neg h0', if_pos h1'], hX, zfX.rf⟩
  · rw [e]
    exact ⟨k, m, by rw [ifNo, ifb0], hX, zfX.rf⟩
theorem x5_free (x r : Int32) : okM (dn_X5_free 81 x r) (g_free x r) := by
  intro s k m hO hM
  have hOH := hO.2.2.2.1.1
  have hN5 := hOH.2.1
  unfold dn_X5_free g_free jn_X5_free_15
  rw [ZO_5 s81, Option.bind_some, M_isRunner hN5 hM, zbd_s]
  rcases ix_c x (hN (sH s)) (by omega) with ⟨x, hx, rfl, e⟩ | ⟨e, -⟩
  · rw [e, ifSo, ifb1, M_isMany, zbd_s]
    dsimp only
    rcases ir_c r 1 4 (by omega) (by omega) with ⟨kk, k1, k2, rfl, e'⟩ | ⟨e', -⟩
    · have hp := pow4_le k2
      obtain ⟨m1, c1, c2, c3, c4⟩ := M_choicesBegin hO hM
      rw [e', ifSo, ifb1, c1, zbd_s]
      dsimp only
      have hpow : ∀ h : zAH, dn_X5_powerOf 4 (nI kk) h = some (nI (4 ^ kk), h) := fun h => M_pow (b := 4) (by omega) (by omega)
      have hcl := cnt_le (P := fun c => ¬ rHd (ch1 s x kk c) = x) (4 ^ kk)
      refine lp_inv (N := 4 ^ kk) (I := fun c t h => ∃ m2, t = (nI (cnt (fun c => ¬ rHd (ch1 s x kk c) = x) c), nI c) ∧ h = Z k m2 ∧ MS s k m2 ∧ zCb s (b1 x) m2 ∧ zFw m m2) (Q := fun r => ∃ k' m', r = some (nI (cnt (fun c => ¬ rHd (ch1 s x kk c) = x) (4 ^ kk)), Z k' m') ∧ MS (sFr (cnt (fun c => ¬ rHd (ch1 s x kk c) = x) (4 ^ kk)) (4 ^ kk) s) k' m' ∧ zfM k m k' m') ?_ ?_ (4 ^ kk) 0 2000 _ (Z k m1) (by omega) (by omega) ⟨m1, rfl, rfl, c2, c3 _, c4⟩
      · rintro c t h hc ⟨m2, rfl, rfl, h1, hcb, h2⟩
        left
        obtain ⟨m3, m4, r1, r2, r3, r4, r5, r6, r7⟩ := M_try1 (code := c) hO h1 hcb hx k2 (by omega)
        have hh := rHd_le hN5 (ch1_ok (x := x) (kk := kk) (code := c) hO)
        refine ⟨(nI (cnt (fun c => ¬ rHd (ch1 s x kk c) = x) (c + 1)), nI (c + 1)), Z k m4, ⟨m4, rfl, rfl, r5, r6, zFw.tr h2 r7⟩, fun rec => ?_⟩
        unfold lb_X5_free_26 jn_X5_free_63
        dsimp only
        rw [hpow, zbd_s, ifLt hc (by omega), r1, zbd_s, r2, zbd_s, M_v1 r4 (by omega), zbd_s, r3.2.2.1, nA_1, nA_1]
        by_cases hhx : rHd (ch1 s x kk c) = x
        · rw [ifEt hhx, cnt_f (fun z => z hhx), Int32.add_zero]
        · rw [ifEf hhx (by omega) (by omega), cnt_t (P := fun c => ¬ rHd (ch1 s x kk c) = x) hhx]
      · rintro t h ⟨m2, rfl, rfl, h1, hcb, h2⟩ rec
        obtain ⟨m3, n1, n2, n3, n4, n5⟩ := M_nc hN5 h1
        obtain ⟨k', t1, t2, t3⟩ := M_tell (u := cnt (fun c => ¬ rHd (ch1 s x kk c) = x) (4 ^ kk)) (l := 4 ^ kk) (a := nI (cnt (fun c => ¬ rHd (ch1 s x kk c) = x) (4 ^ kk))) (by omega) (by omega) (by omega) n3
        refine ⟨k', m3, ?_, t2, zfM.tr h2.zfM (zfM.tr n5.zfM t3)⟩
        have t1' : dn_X5_fraction 81 (Int32.toInt64 (nI (cnt (fun c => ¬ rHd (ch1 s x kk c) = x) (4 ^ kk)))) (Int32.toInt64 (nI (4 ^ kk))) (nI (cnt (fun c => ¬ rHd (ch1 s x kk c) = x) (4 ^ kk))) (Z k m3) = some (_, Z k' m3) := t1
        unfold lb_X5_free_26 jn_X5_free_71
        dsimp only
        rw [hpow, zbd_s, ifLf (Nat.le_refl _) (by omega), n1, zbd_s, hpow, zbd_s, t1', zbd_s]
    · rw [e']
      exact ⟨k, m, by rw [ifNo, ifb0], hM, zfM.rf⟩
  · rw [e]
    exact ⟨k, m, by rw [ifNo, ifb0], hM, zfM.rf⟩
theorem o_free (x r : Int32) : okG (g_free x r) := by
  intro s hO
  unfold g_free
  cases h : ix x (hN (sH s)) with
  | none => exact hO
  | some j =>
    dsimp only
    cases h' : ir r 1 4 with
    | none => exact hO
    | some j => exact hO
end
