def popN (a : Nat) : Nat := a % 2 + a / 2 % 2 + a / 4 % 2 + a / 8 % 2 + a / 16 % 2
theorem bt_or : ∀ a, a < 32 → ∀ z, z < 5 → (nI a ||| ((1 : Int32) <<< (nI z &&& 31))) = nI (a ||| 2 ^ z) ∧ (a ||| 2 ^ z) < 32 := by decide +kernel
theorem bt_low : ∀ a, a < 32 → a ≠ 0 → (nI a &&& (nI a - 1)) = nI (a &&& (a - 1)) ∧ (a &&& (a - 1)) < 32 ∧ popN a = popN (a &&& (a - 1)) + 1 := by decide +kernel
theorem bt_cnt : ∀ a, a < 32 → (dn_J6_bitCount_0f7a4 (nI a) ((fun _ => none), 0, 0)).map (fun r => r.1) = some (nI (popN a)) := by decide +kernel
theorem bt_popA : ∀ a, a < 32 → (popN a = 0 ↔ a = 0) := by decide +kernel
theorem bt_pop0 {a : Nat} (h : a < 32) : popN a = 0 ↔ a = 0 := bt_popA a h
def bset (f : Nat → Bool) : Nat := (if f 0 then 1 else 0) + (if f 1 then 2 else 0) + (if f 2 then 4 else 0) + (if f 3 then 8 else 0) + (if f 4 then 16 else 0)
theorem bset_lt (f : Nat → Bool) : bset f < 32 := by unfold bset; split <;> split <;> split <;> split <;> split <;> omega
theorem bset_tb (f : Nat → Bool) : ∀ w, w < 5 → (bset f).testBit w = f w := by
  have h : ∀ b0 b1 b2 b3 b4 : Bool, ((if b0 then 1 else 0) + (if b1 then 2 else 0) + (if b2 then 4 else 0) + (if b3 then 8 else 0) + (if b4 then 16 else 0)).testBit 0 = b0 ∧ ((if b0 then 1 else 0) + (if b1 then 2 else 0) + (if b2 then 4 else 0) + (if b3 then 8 else 0) + (if b4 then 16 else 0)).testBit 1 = b1 ∧ ((if b0 then 1 else 0) + (if b1 then 2 else 0) + (if b2 then 4 else 0) + (if b3 then 8 else 0) + (if b4 then 16 else 0)).testBit 2 = b2 ∧ ((if b0 then 1 else 0) + (if b1 then 2 else 0) + (if b2 then 4 else 0) + (if b3 then 8 else 0) + (if b4 then 16 else 0)).testBit 3 = b3 ∧ ((if b0 then 1 else 0) + (if b1 then 2 else 0) + (if b2 then 4 else 0) + (if b3 then 8 else 0) + (if b4 then 16 else 0)).testBit 4 = b4 := by decide +kernel
  obtain ⟨h0, h1, h2, h3, h4⟩ := h (f 0) (f 1) (f 2) (f 3) (f 4)
  intro w hw
  unfold bset
  rcases (show w = 0 ∨ w = 1 ∨ w = 2 ∨ w = 3 ∨ w = 4 by omega) with rfl | rfl | rfl | rfl | rfl
  · exact h0
  · exact h1
  · exact h2
  · exact h3
  · exact h4
theorem bt_ext : ∀ a, a < 32 → ∀ b, b < 32 → (∀ w, w < 5 → a.testBit w = b.testBit w) → a = b := by decide +kernel
theorem bt_clr : ∀ x, x < 5 → ∀ y, y < 5 → ∀ p, p < 5 → ∀ a, a < 32 → (nI a &&& (((((1 : Int32) <<< (nI x &&& 31)) ||| ((1 : Int32) <<< (nI y &&& 31))) ||| ((1 : Int32) <<< (nI p &&& 31))) ^^^ (-1))) = nI (bset (fun z => a.testBit z && !(z == x) && !(z == y) && !(z == p))) := by decide +kernel
section
variable {k k' : zK} {m m' : Nat → Nat → Int32} {s : zSt} {c : Nat} {H : zHD} {R : zRS}
theorem X_bitCount {a : Nat} {h : zAH} (ha : a < 32) : dn_J6_bitCount_0f7a4 (nI a) h = some (nI (popN a), h) := by
  have h1 := bt_cnt a ha
  unfold dn_J6_bitCount_0f7a4 at h1 ⊢
  simp only [Option.map_some, Option.some.injEq] at h1
  rw [h1]
theorem M_bits4 {h : zAH} : ∀ n a c fuel, popN a = n → a < 32 → n < fuel → zlp lb_X5_bits_4 fuel (nI c, nI a) h = some (nI (c + popN a), h) := by
  intro n
  induction n with
  | zero =>
    intro a c fuel hn ha hf
    obtain ⟨g, rfl⟩ : ∃ g, fuel = g + 1 := ⟨fuel - 1, by omega⟩
    have h0 := (bt_pop0 ha).mp hn
    rw [zlp_s]
    unfold lb_X5_bits_4 jn_X5_bits_20
    dsimp only
    rw [et_0 h0, hn, Nat.add_zero]
  | succ n ih =>
    intro a c fuel hn ha hf
    obtain ⟨g, rfl⟩ : ∃ g, fuel = g + 1 := ⟨fuel - 1, by omega⟩
    have h0 : a ≠ 0 := fun z => by have := (bt_pop0 ha).mpr z; omega
    obtain ⟨l1, l2, l3⟩ := bt_low a ha h0
    have e : ∀ rec, lb_X5_bits_4 rec (nI c, nI a) h = rec (nI (c + 1), nI (a &&& (a - 1))) h := by
      intro rec
      unfold lb_X5_bits_4
      dsimp only
      rw [ef_0 h0 (by omega), l1, nA_1]
    rw [zlp_s, e, ih _ (c + 1) g (by omega) l2 (by omega), l3]
    congr 3
    omega
theorem M_bits {a : Nat} {h : zAH} (ha : a < 32) : dn_X5_bits (nI a) h = some (nI (popN a), h) := by
  have := M_bits4 (h := h) (popN a) a 0 2000 rfl ha (by unfold popN; omega)
  rw [Nat.zero_add] at this
  exact this
noncomputable def pyL (s : zSt) (x y kk : Nat) : Nat → Nat
  | 0 => 0
  | n + 1 => pyL s x y kk n ||| 2 ^ rHd (ch2 s x y kk n)
theorem pyL_tb {x y kk : Nat} : ∀ n w, (pyL s x y kk n).testBit w = true ↔ ∃ c, c < n ∧ rHd (ch2 s x y kk c) = w := by
  intro n
  induction n with
  | zero => intro w; exact ⟨fun h => by simp [pyL] at h, fun ⟨c, h, _⟩ => absurd h (Nat.not_lt_zero c)⟩
  | succ n ih =>
    intro w
    rw [pyL, Nat.testBit_or, Bool.or_eq_true, ih, Nat.testBit_two_pow, decide_eq_true_iff]
    constructor
    · rintro (⟨c, h1, h2⟩ | h)
      · exact ⟨c, by omega, h2⟩
      · exact ⟨n, by omega, h⟩
    · rintro ⟨c, h1, h2⟩
      rcases Nat.lt_succ_iff_lt_or_eq.mp h1 with q | q
      · exact Or.inl ⟨c, q, h2⟩
      · subst q; exact Or.inr h2
/-- who else can be made to pay -/
noncomputable def wtS (s : zSt) (x y kk : Nat) : Nat := bset (fun z => (pyL s x y kk (4 ^ (2 * kk))).testBit z && !(z == x) && !(z == y) && !(z == rHd (enS (sH s) (sLw s) (sR s))))
noncomputable def g_worth (x y r : Int32) (s : zSt) : Int32 × zSt := match pq x y r s with
  | none => (-1, s)
  | some (x, y, kk) => (nI (popN (wtS s x y kk)), sAk (nI (wtS s x y kk)) s)
theorem hd_lt {R : zRS} {x : Nat} (hx : x < hN H) (hok : okR H R) : rHd R < hN H := by rcases hok.2.1 with z | z <;> omega
theorem pyL_lt {x y kk : Nat} (hO : okS s) (hx : x < hN (sH s)) : ∀ n, pyL s x y kk n < 32 := by
  intro n
  have hN5 := hO.2.2.2.1.1.2.1
  induction n with
  | zero => exact (by decide : 0 < 32)
  | succ n ih =>
    have := hd_lt hx (ch2_ok (x := x) (y := y) (kk := kk) (code := n) hO)
    exact (bt_or _ ih _ (by omega)).2
theorem x_worth (x y r : Int32) : okX (dn_X4_worth 2 x y r) (g_worth x y r) := by
  intro s k m hO hX hk
  have hOH := hO.2.2.2.1.1
  have hN5 := hOH.2.1
  unfold dn_X4_worth g_worth
  rw [ZO_4 s2, Option.bind_some, X_arePact hN5 hX, zbd_s]
  cases hq : pq x y r s with
  | none => exact ⟨k, m, by rw [ifNo3, ifb0], hX, zfX.rf⟩
  | some t =>
    obtain ⟨a, b, kk⟩ := t
    obtain ⟨rfl, rfl, rfl, ha, hb, hab, k1, k2⟩ := pq_s hN5 hq
    have hp := pow42 k2
    rw [ifSo3, ifb1, nM_2, X_pow4 (by omega), zbd_s]
    dsimp only
    refine lp_inv (N := 4 ^ (2 * kk)) (I := fun c t h => ∃ m2, t = (nI (pyL s a b kk c), nI c) ∧ h = Z k m2 ∧ XS s k m2 ∧ zfX k m k m2) (Q := fun r => ∃ k' m', r = some (nI (popN (wtS s a b kk)), Z k' m') ∧ XS (sAk (nI (wtS s a b kk)) s) k' m' ∧ zfX k m k' m') ?_ ?_ (4 ^ (2 * kk)) 0 2000 _ (Z k m) (by omega) (by omega) ⟨m, rfl, rfl, hX, zfX.rf⟩
    · rintro c t h hc ⟨m2, rfl, rfl, h1, h2⟩
      left
      obtain ⟨m3, r1, r2, r3, r4⟩ := X_try2 (code := c) hO h1 ha hb hab k2 (by omega)
      have hh := hd_lt ha (ch2_ok (x := a) (y := b) (kk := kk) (code := c) hO)
      refine ⟨(nI (pyL s a b kk (c + 1)), nI (c + 1)), Z k m3, ⟨m3, rfl, rfl, h1.tc r3 r4, h2.tr0 fun a ha => r3 a (by omega) (by omega)⟩, fun rec => ?_⟩
      unfold lb_X4_worth_26
      dsimp only
      rw [ifLt hc (by omega), r1, zbd_s, ZA_4_5 s2, Option.bind_some, ZI_1_3 rfl, Option.bind_some, r2.2.2.2.2.1, nA_1, (bt_or _ (pyL_lt hO ha c) _ (by omega)).1]
      rfl
    · rintro t h ⟨m2, rfl, rfl, h1, h2⟩ rec
      obtain ⟨m3, r1, r2, r3⟩ := X_finish hO hO.1 h1
      have hh := hd_lt ha (enS_ok (lw := sLw s) hOH hO.2.2.2.2.2.1)
      have hX3 := h1.t26 r3
      obtain ⟨x1, x2⟩ := hX3.ak (nI (wtS s a b kk))
      refine ⟨k, _, ?_, x1, (h2.tr0 (m2 := m3) fun a ha => r3 a (by omega)).tr0 x2.1⟩
      have hcl := bt_clr a (by omega) b (by omega) (rHd (enS (sH s) (sLw s) (sR s))) (by omega) _ (pyL_lt (y := b) (kk := kk) hO ha (4 ^ (2 * kk)))
      unfold lb_X4_worth_26 jn_X4_worth_62
      dsimp only
      rw [ifLf (Nat.le_refl _) (by omega), ZI_4_7 s2, Option.bind_some, h1.1.1, r1, zbd_s, ZA_4_5 s2, Option.bind_some, ZI_1_3 rfl, Option.bind_some, r2.2.2.2.2.1, hcl, ZP_4_8 s2, Option.bind_some, X_bitCount (bset_lt _), zbd_s]
      rfl
/-- the reference's set, after z turns -/
noncomputable def wrL (s : zSt) (x y kk : Nat) : Nat → Nat
  | 0 => 0
  | z + 1 => by classical exact if ¬ z = x ∧ ¬ z = y ∧ ¬ z = rHd (enS (sH s) (sLw s) (sR s)) ∧ 0 < cnt (fun c => rHd (ch2 s x y kk c) = z) (4 ^ (2 * kk)) then wrL s x y kk z ||| 2 ^ z else wrL s x y kk z
theorem wrL_lt {x y kk : Nat} : ∀ z, z ≤ 5 → wrL s x y kk z < 32 := by
  intro z
  induction z with
  | zero => exact fun _ => (by decide : 0 < 32)
  | succ z ih =>
    intro hz
    have ih := ih (by omega)
    rw [wrL]
    split
    · exact (bt_or _ ih z (by omega)).2
    · exact ih
theorem wrL_tb {x y kk : Nat} : ∀ z w, (wrL s x y kk z).testBit w = true ↔ (w < z ∧ ¬ w = x ∧ ¬ w = y ∧ ¬ w = rHd (enS (sH s) (sLw s) (sR s)) ∧ 0 < cnt (fun c => rHd (ch2 s x y kk c) = w) (4 ^ (2 * kk))) := by
  intro z
  induction z with
  | zero => intro w; exact ⟨fun h => by simp [wrL] at h, fun h => absurd h.1 (Nat.not_lt_zero w)⟩
  | succ z ih =>
    intro w
    rw [wrL]
    split
    · next hc =>
      rw [Nat.testBit_or, Bool.or_eq_true, ih, Nat.testBit_two_pow, decide_eq_true_iff]
      constructor
      · rintro (⟨h1, h2⟩ | h)
        · exact ⟨by omega, h2⟩
        · subst h; exact ⟨by omega, hc⟩
      · rintro ⟨h1, h2⟩
        rcases Nat.lt_succ_iff_lt_or_eq.mp h1 with q | q
        · exact Or.inl ⟨q, h2⟩
        · exact Or.inr q.symm
    · next hc =>
      rw [ih]
      constructor
      · rintro ⟨h1, h2⟩
        exact ⟨by omega, h2⟩
      · rintro ⟨h1, h2⟩
        rcases Nat.lt_succ_iff_lt_or_eq.mp h1 with q | q
        · exact ⟨q, h2⟩
        · subst q; exact absurd h2 hc
theorem wr_wt {x y kk : Nat} (hO : okS s) (hx : x < hN (sH s)) : wrL s x y kk (hN (sH s)) = wtS s x y kk := by
  have hN5 := hO.2.2.2.1.1.2.1
  refine bt_ext _ (wrL_lt _ hN5) _ (bset_lt _) fun w hw => ?_
  rw [Bool.eq_iff_iff, wrL_tb]
  unfold wtS
  rw [bset_tb _ w hw, Bool.and_eq_true, Bool.and_eq_true, Bool.and_eq_true, pyL_tb, cnt_pos]
  simp only [Bool.not_eq_true', beq_eq_false_iff_ne, ne_eq]
  constructor
  · rintro ⟨h1, h2, h3, h4, h5⟩
    exact ⟨⟨⟨h5, h2⟩, h3⟩, h4⟩
  · rintro ⟨⟨⟨⟨c, h5, h6⟩, h2⟩, h3⟩, h4⟩
    refine ⟨?_, h2, h3, h4, c, h5, h6⟩
    rw [← h6]
    exact hd_lt hx (ch2_ok hO)
theorem x5_worth (x y r : Int32) : okM (dn_X5_worth 81 x y r) (g_worth x y r) := by
  intro s k m hO hM
  have hOH := hO.2.2.2.1.1
  have hN5 := hOH.2.1
  unfold dn_X5_worth jn_X5_worth_30
  rw [ZO_5 s81, Option.bind_some, M_isRunner hN5 hM, zbd_s]
  have hbad : pq x y r s = none → ∃ k' m', some ((-1 : Int32), Z k m) = some ((g_worth x y r s).1, Z k' m') ∧ MS (g_worth x y r s).2 k' m' ∧ zfM k m k' m' := fun h => by
    unfold g_worth
    rw [h]; exact ⟨k, m, rfl, hM, zfM.rf⟩
  rcases ix_c x (hN (sH s)) (by omega) with ⟨a, ha, hxa, e1⟩ | ⟨e1, -⟩
  · rw [e1, ifSo, ifb1, M_isRunner hN5 hM, zbd_s]
    rcases ix_c y (hN (sH s)) (by omega) with ⟨b, hb, hyb, e2⟩ | ⟨e2, -⟩
    · rw [e2, ifSo, ifb1, hxa, hyb]
      rw [hxa, hyb] at hbad
      have hpq : pq (nI a) (nI b) r s = match ir r 1 2 with | none => none | some kk => if a = b then none else some (a, b, kk) := by
        unfold pq
        rw [← hxa, ← hyb, e1, e2]
        rfl
      by_cases hab : a = b
      · rw [ifEt hab]
        refine hbad ?_
        rw [hpq]
        cases ir r 1 2 with
        | none => rfl
        | some kk => exact if_pos hab
      · rw [ifEf hab (by omega) (by omega), show dn_X5_in r 1 2 (Z k m) = _ from M_ir r 1 2 (by omega) (by omega) _, zbd_s]
        rcases ir_c r 1 2 (by omega) (by omega) with ⟨kk, k1, k2, hrk, e4⟩ | ⟨e4, -⟩
        · rw [e4] at hpq
          dsimp only at hpq
          rw [if_neg hab] at hpq
          have hg : g_worth (nI a) (nI b) r s = (nI (popN (wtS s a b kk)), sAk (nI (wtS s a b kk)) s) := by
            unfold g_worth
            rw [hpq]
          rw [hg, e4, ifSo, ifb1, hrk]
          obtain ⟨m1, n1, n2, n3, n4, n5⟩ := M_nc hN5 hM
          obtain ⟨m2, r1, r2, r3, r4⟩ := M_ncEnd hO n3 n2
          have hM2 := n3.sc hN5 r4.w
          have hh := hd_lt ha r3
          rw [n1, zbd_s, r1, zbd_s, M_v1 r4.2.2.1 (by omega), zbd_s, r2.2.2.1]
          have hp := pow42 k2
          refine lp_inv (N := hN (sH s)) (I := fun z t h => ∃ m3, t = (nI (wrL s a b kk z), nI z) ∧ h = Z k m3 ∧ MS s k m3 ∧ zFw m m3) (Q := fun r => ∃ k' m', r = some (nI (popN (wtS s a b kk)), Z k' m') ∧ MS (sAk (nI (wtS s a b kk)) s) k' m' ∧ zfM k m k' m') ?_ ?_ (hN (sH s)) 0 2000 _ (Z k m2) (by omega) (by omega) ⟨m2, rfl, rfl, hM2, zFw.tr n5 r4.w⟩
          · rintro z t h hz ⟨m3, rfl, rfl, h1, h2⟩
            left
            by_cases hc : ¬ z = a ∧ ¬ z = b ∧ ¬ z = rHd (enS (sH s) (sLw s) (sR s))
            · obtain ⟨c1, c2, c3⟩ := hc
              obtain ⟨m4, q1, q2, q3, q4, q5⟩ := M_layPact hO h1 ha hb hab hz k2
              have hcl := cnt_le (P := fun c => rHd (ch2 s a b kk c) = z) (4 ^ (2 * kk))
              refine ⟨(nI (wrL s a b kk (z + 1)), nI (z + 1)), Z k m4, ⟨m4, rfl, rfl, q4, zFw.tr h2 q5⟩, fun rec => ?_⟩
              unfold lb_X5_worth_53 jn_X5_worth_107 jn_X5_worth_110
              dsimp only
              rw [ZI_5_12 s81, Option.bind_some, h1.2.2.2.1.1.2.1, ifLt hz (by omega), ifEf c1 (by omega) (by omega), ifEf c2 (by omega) (by omega), ifEf c3 (by omega) (by omega), q1, zbd_s, ZI_5_35 s81, Option.bind_some, q3, nA_1, wrL]
              by_cases h0 : 0 < cnt (fun c => rHd (ch2 s a b kk c) = z) (4 ^ (2 * kk))
              · rw [jt_0 h0 (by omega), if_pos ⟨c1, c2, c3, h0⟩, (bt_or _ (wrL_lt z (by omega)) z (by omega)).1]
              · rw [jf_0 h0, if_neg (fun q => h0 q.2.2.2), Int32.or_zero]
            · refine ⟨(nI (wrL s a b kk (z + 1)), nI (z + 1)), Z k m3, ⟨m3, rfl, rfl, h1, h2⟩, fun rec => ?_⟩
              have hwz : wrL s a b kk (z + 1) = wrL s a b kk z := by rw [wrL, if_neg (fun q => hc ⟨q.1, q.2.1, q.2.2.1⟩)]
              unfold lb_X5_worth_53 jn_X5_worth_110
              dsimp only
              rw [ZI_5_12 s81, Option.bind_some, h1.2.2.2.1.1.2.1, ifLt hz (by omega), nA_1, hwz]
              by_cases c1 : z = a
              · rw [ifEt c1]
              · rw [ifEf c1 (by omega) (by omega)]
                by_cases c2 : z = b
                · rw [ifEt c2]
                · rw [ifEf c2 (by omega) (by omega)]
                  by_cases c3 : z = rHd (enS (sH s) (sLw s) (sR s))
                  · rw [ifEt c3]
                  · exact absurd ⟨c1, c2, c3⟩ hc
          · rintro t h ⟨m3, rfl, rfl, h1, h2⟩ rec
            have hw := wr_wt (y := b) (kk := kk) hO ha
            obtain ⟨m', t1, t2, t3⟩ := M_tells (v := nI (wtS s a b kk)) (a := nI (popN (wtS s a b kk))) hN5 h1
            refine ⟨k, m', ?_, t2, zfM.tr h2.zfM t3⟩
            unfold lb_X5_worth_53 jn_X5_worth_116
            dsimp only
            rw [ZI_5_12 s81, Option.bind_some, h1.2.2.2.1.1.2.1, ifLf (Nat.le_refl _) (by omega), hw, M_bits (a := wtS s a b kk) (bset_lt _), zbd_s, t1, zbd_s]
        · rw [e4] at hpq
          rw [e4, ifNo, ifb0]
          exact hbad hpq
    · rw [e2, ifNo, ifb0]
      refine hbad ?_
      unfold pq
      rw [e1, e2]
  · rw [e1, ifNo, ifb0]
    refine hbad ?_
    unfold pq
    rw [e1]
theorem o_worth (x y r : Int32) : okG (g_worth x y r) := by
  intro s hO
  unfold g_worth
  cases hq : pq x y r s with
  | none => exact hO
  | some t => exact hO
end
