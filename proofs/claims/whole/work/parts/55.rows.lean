def stW (W : zWr) (j n : Nat) (f : Nat → Int32) : zWr := ((fun r => if r = j then some n else W.1 r), fun r => if r = j then f else W.2 r)
def rmW (W : zWr) (j : Nat) : zWr := ((fun r => if r = j then none else W.1 r), W.2)
def sWs (W : zWr) (s : zSt) : zSt := (s.1, W, s.2.2)
def sTs (T : zWr) (s : zSt) : zSt := (s.1, s.2.1, T, s.2.2.2)
def rwP (am ba ct ln : Nat) : Prop := (am = 3 ∧ ba = 40 ∧ ct = 6 ∧ ln = 60) ∨ (am = 4 ∧ ba = 52 ∧ ct = 4 ∧ ln = 100)
section
variable {k k' : zK} {m m' : Nat → Nat → Int32} {s : zSt} {am ba ct ln : Nat} {W : zWr}
theorem ifNo {α : Type} {A B : α} : (if (none : Option Nat).isSome = true then A else B) = B := rfl
theorem ifSo {α : Type} {A B : α} {j : Nat} : (if (some j).isSome = true then A else B) = A := rfl
theorem shp_rw : ∀ j, j < 6 → shp (40 + 2 * j) = 3 ∧ shp (40 + 2 * j + 1) = 8 := by decide +kernel
theorem shp_tx : ∀ j, j < 4 → shp (52 + 2 * j) = 3 ∧ shp (52 + 2 * j + 1) = 9 := by decide +kernel
theorem RW_r {j : Nat} (h : rwP am ba ct ln) (hj : j < ct) : zaR 3 am (nI j) (Z k m) = some (ba + 2 * j) := by
  rcases h with ⟨rfl, rfl, rfl, rfl⟩ | ⟨rfl, rfl, rfl, rfl⟩
  · exact ZrA hj
  · exact ZrT hj
theorem RW_n (h : rwP am ba ct ln) : zaN am (Z k m) = some (nI ct) := by
  rcases h with ⟨rfl, rfl, rfl, rfl⟩ | ⟨rfl, rfl, rfl, rfl⟩
  · rfl
  · rfl
theorem RW_s {j : Nat} (h : rwP am ba ct ln) (hj : j < ct) : shp (ba + 2 * j) = 3 := by
  rcases h with ⟨rfl, rfl, rfl, rfl⟩ | ⟨rfl, rfl, rfl, rfl⟩
  · exact (shp_rw j hj).1
  · exact (shp_tx j hj).1
theorem RW_l {j i : Nat} (h : rwP am ba ct ln) (hj : j < ct) (hi : i < ln) : zaI 0 (ba + 2 * j + 1) (nI i) (Z k m) = some (m (ba + 2 * j + 1) i) := by
  rcases h with ⟨rfl, rfl, rfl, rfl⟩ | ⟨rfl, rfl, rfl, rfl⟩
  · have e := (shp_rw j hj).2
    exact Zld i (by omega) (by omega) (by rw [e]; rfl) (by rw [e]; exact hi)
  · have e := (shp_tx j hj).2
    exact Zld i (by omega) (by omega) (by rw [e]; rfl) (by rw [e]; exact hi)
theorem RW_w {j i : Nat} {v : Int32} (h : rwP am ba ct ln) (hj : j < ct) (hi : i < ln) : zaS 0 (ba + 2 * j + 1) (nI i) v (Z k m) = some (Z k (mu m (ba + 2 * j + 1) i v)) := by
  rcases h with ⟨rfl, rfl, rfl, rfl⟩ | ⟨rfl, rfl, rfl, rfl⟩
  · have e := (shp_rw j hj).2
    exact Zst i (by omega) (by omega) (by rw [e]; rfl) (by rw [e]; exact hi)
  · have e := (shp_tx j hj).2
    exact Zst i (by omega) (by omega) (by rw [e]; rfl) (by rw [e]; exact hi)
theorem RW_ln {j : Nat} (h : rwP am ba ct ln) (hj : j < ct) : zaN (ba + 2 * j + 1) (Z k m) = some (nI ln) := by
  rcases h with ⟨rfl, rfl, rfl, rfl⟩ | ⟨rfl, rfl, rfl, rfl⟩
  · have e := (shp_rw j hj).2
    rw [Zln (by omega) (by omega) (by rw [e]; rfl), e]; rfl
  · have e := (shp_tx j hj).2
    rw [Zln (by omega) (by omega) (by rw [e]; rfl), e]; rfl
theorem rwP_r : rwP 3 40 6 60 := Or.inl ⟨rfl, rfl, rfl, rfl⟩
theorem rwP_t : rwP 4 52 4 100 := Or.inr ⟨rfl, rfl, rfl, rfl⟩
theorem rwP_le (h : rwP am ba ct ln) : ct ≤ 6 ∧ ln ≤ 100 ∧ 40 ≤ ba ∧ ba + 2 * ct ≤ 60 := by
  rcases h with ⟨rfl, rfl, rfl, rfl⟩ | ⟨rfl, rfl, rfl, rfl⟩ <;> omega
theorem J_fl {b L : Nat} {v : Int32} (h1 : 6 ≤ shp b) (h2 : shp b ≤ 17) (hk : (zal (shp b)).1 = 0) (hL : (zal (shp b)).2 = L) (hL4 : L ≤ 400) : ∀ n x m f, x + n = L → n < f → (∀ i, i < x → m b i = v) → ∃ m', zlp (lb_J7_fill_53178_5 b v (nI L)) f (nI x) (Z k m) = some ((), Z k m') ∧ (∀ i, i < L → m' b i = v) ∧ ∀ a, a ≠ b → m' a = m a := by
  intro n
  induction n with
  | zero =>
    intro x m f hx hf hz
    obtain ⟨f, rfl⟩ : ∃ g, f = g + 1 := ⟨f - 1, by omega⟩
    obtain rfl : x = L := by omega
    refine ⟨m, ?_, hz, fun _ _ => rfl⟩
    rw [zlp_s]
    show (if nI x < nI x then _ else _) = _
    rw [ifLf (Nat.le_refl _) (by omega)]
    rfl
  | succ n ih =>
    intro x m f hx hf hz
    obtain ⟨f, rfl⟩ : ∃ g, f = g + 1 := ⟨f - 1, by omega⟩
    obtain ⟨m', q1, q2, q3⟩ := ih (x + 1) (mu m b x v) f (by omega) (by omega) (fun i hi => by
      by_cases h : i = x
      · subst h; rw [mu_s]
      · rw [mu_j _ _ h]; exact hz i (by omega))
    refine ⟨m', ?_, q2, fun a ha => by rw [q3 a ha, mu_ar _ _ _ ha]⟩
    rw [zlp_s]
    show (if nI x < nI L then _ else _) = _
    rw [ifLt (by omega) (by omega), Zst x h1 h2 hk (by omega), Option.bind_some, nA_1, q1]
theorem J_fill {b L : Nat} {v : Int32} (h1 : 6 ≤ shp b) (h2 : shp b ≤ 17) (hk : (zal (shp b)).1 = 0) (hL : (zal (shp b)).2 = L) (hL4 : L ≤ 400) : ∃ m', dn_J7_fill_53178 b v (Z k m) = some ((), Z k m') ∧ (∀ i, i < L → m' b i = v) ∧ ∀ a, a ≠ b → m' a = m a := by
  obtain ⟨m', r1, r2⟩ := J_fl (k := k) (v := v) h1 h2 hk hL hL4 L 0 m 2000 (by omega) (by omega) (fun i hi => by omega)
  refine ⟨m', ?_, r2⟩
  unfold dn_J7_fill_53178
  rw [Zln h1 h2 hk, Option.bind_some, hL]
  exact r1
theorem RW_fill {j : Nat} {v : Int32} (h : rwP am ba ct ln) (hj : j < ct) : ∃ m', dn_J7_fill_53178 (ba + 2 * j + 1) v (Z k m) = some ((), Z k m') ∧ (∀ i, i < ln → m' (ba + 2 * j + 1) i = v) ∧ ∀ a, a ≠ ba + 2 * j + 1 → m' a = m a := by
  rcases h with ⟨rfl, rfl, rfl, rfl⟩ | ⟨rfl, rfl, rfl, rfl⟩
  · have e := (shp_rw j hj).2
    exact J_fill (by omega) (by omega) (by rw [e]; rfl) (by rw [e]; rfl) (by omega)
  · have e := (shp_tx j hj).2
    exact J_fill (by omega) (by omega) (by rw [e]; rfl) (by rw [e]; rfl) (by omega)
theorem X_renew {j : Nat} {n v : Int32} (h : rwP am ba ct ln) (hj : j < ct) : ∃ m', dn_X3_renew (ba + 2 * j) n v (Z k m) = some ((), Z k m') ∧ m' (ba + 2 * j) 1 = n ∧ (∀ i, i < ln → m' (ba + 2 * j + 1) i = v) ∧ ∀ a, a ≠ ba + 2 * j → a ≠ ba + 2 * j + 1 → m' a = m a := by
  have hs := RW_s h hj
  obtain ⟨m', r1, r2, r3⟩ := RW_fill (k := k) (m := mu m (ba + 2 * j) 1 n) (v := v) h hj
  refine ⟨m', ?_, by rw [r3 _ (by omega), mu_s], r2, fun a h1 h2 => by rw [r3 a h2, mu_ar _ _ _ h1]⟩
  unfold dn_X3_renew
  rw [ZO_3 hs, Option.bind_some, ZP_3_1 hs, Option.bind_some, ZA_3_0 hs, Option.bind_some, r1, zbd_s]
theorem zXQ.st {j n : Nat} {f : Nat → Int32} (h : zXQ ba ct W m) (hj : j < ct) (e1 : m' (ba + 2 * j) 1 = nI n) (e2 : ∀ i, i < n → m' (ba + 2 * j + 1) i = f i) (hf : ∀ r, r < ct → r ≠ j → m' (ba + 2 * r) = m (ba + 2 * r) ∧ m' (ba + 2 * r + 1) = m (ba + 2 * r + 1)) : zXQ ba ct (stW W j n f) m' := by
  intro r hr
  unfold stW
  by_cases hrj : r = j
  · subst hrj
    simp only [if_true]
    refine ⟨e1, fun n' hn' i hi => ?_⟩
    cases hn'
    exact e2 i hi
  · simp only [hrj, if_false]
    obtain ⟨g1, g2⟩ := hf r hr hrj
    rw [g1, g2]
    exact h r hr
theorem zXQ.rm {j : Nat} (h : zXQ ba ct W m) (hj : j < ct) (e1 : m' (ba + 2 * j) 1 = -9) (hf : ∀ r, r < ct → r ≠ j → m' (ba + 2 * r) = m (ba + 2 * r) ∧ m' (ba + 2 * r + 1) = m (ba + 2 * r + 1)) : zXQ ba ct (rmW W j) m' := by
  intro r hr
  unfold rmW
  by_cases hrj : r = j
  · subst hrj
    simp only [if_true]
    exact ⟨e1, fun n' hn' => by cases hn'⟩
  · simp only [hrj, if_false]
    obtain ⟨g1, g2⟩ := hf r hr hrj
    rw [g1, g2]
    exact h r hr
theorem zMQ.st {sa ca j n : Nat} {f : Nat → Int32} (hsz : ∀ r n, r < ct → W.1 r = some n → n ≤ ln) (h : zMQ sa ca ln ct W m) (hj : j < ct) (e1 : m' sa j = nI n) (e2 : ∀ i, i < n → m' ca (ln * j + i) = f i) (g1 : ∀ r, r < ct → r ≠ j → m' sa r = m sa r) (g2 : ∀ r i, r < ct → r ≠ j → i < ln → m' ca (ln * r + i) = m ca (ln * r + i)) : zMQ sa ca ln ct (stW W j n f) m' := by
  intro r hr
  unfold stW
  by_cases hrj : r = j
  · subst hrj
    simp only [if_true]
    refine ⟨e1, fun n' hn' i hi => ?_⟩
    cases hn'
    exact e2 i hi
  · simp only [hrj, if_false]
    obtain ⟨h1, h2⟩ := h r hr
    refine ⟨(g1 r hr hrj).trans h1, fun n' hn' i hi => ?_⟩
    rw [g2 r i hr hrj (by have := hsz r n' hr hn'; omega)]
    exact h2 n' hn' i hi
theorem zMQ.rm {sa ca j : Nat} (h : zMQ sa ca ln ct W m) (hj : j < ct) (e1 : m' sa j = -1) (g1 : ∀ r, r < ct → r ≠ j → m' sa r = m sa r) (g2 : m' ca = m ca) : zMQ sa ca ln ct (rmW W j) m' := by
  intro r hr
  unfold rmW
  by_cases hrj : r = j
  · subst hrj
    simp only [if_true]
    exact ⟨e1, fun n' hn' => by cases hn'⟩
  · simp only [hrj, if_false]
    rw [g1 r hr hrj, g2]
    exact h r hr
theorem XS.w {W' : zWr} (h : XS s k m) (hW : XW W' m') (hf : ∀ a, a < 81 → (a < 26 ∨ 51 < a ∨ (33 ≤ a ∧ a < 40)) → m' a = m a) : XS (sWs W' s) k m' := by
  obtain ⟨hA, -, hT, hG, hR, hK, hC⟩ := h
  have hg := hG.1
  exact ⟨hA.fr (hf 2 (by omega) (by omega)) (hf 34 (by omega) (by omega)), hW, hT.fr fun a h1 h2 => hf a (by omega) (by omega), hG.fr fun a h1 h2 => hf a (by omega) (by omega), encX_cg hR fun a h1 h2 => hf a (by omega) (by omega), hK.fr fun a h1 h2 => hf a (by omega) (by omega), fun x hx => by rw [hf 35 (by omega) (by omega)]; exact hC x hx⟩
theorem XS.t {W' : zWr} (h : XS s k m) (hW : XT W' m') (hf : ∀ a, a < 81 → (a < 52 ∨ 59 < a) → m' a = m a) : XS (sTs W' s) k m' := by
  obtain ⟨hA, hW0, -, hG, hR, hK, hC⟩ := h
  have hg := hG.1
  exact ⟨hA.fr (hf 2 (by omega) (by omega)) (hf 34 (by omega) (by omega)), hW0.fr fun a h1 h2 => hf a (by omega) (by omega), hW, hG.fr fun a h1 h2 => hf a (by omega) (by omega), encX_cg hR fun a h1 h2 => hf a (by omega) (by omega), hK.fr fun a h1 h2 => hf a (by omega) (by omega), fun x hx => by rw [hf 35 (by omega) (by omega)]; exact hC x hx⟩
theorem MS.w {W' : zWr} (hN5 : hN (sH s) ≤ 5) (h : MS s k m) (hW : MW W' m') (hf : ∀ a, a ≠ 83 → a ≠ 84 → m' a = m a) : MS (sWs W' s) k m' := by
  obtain ⟨hA, -, hT, hG, hR, hK⟩ := h
  exact ⟨hA.fr ⟨by rw [hf 81 (by omega) (by omega)], by rw [hf 81 (by omega) (by omega)], by rw [hf 81 (by omega) (by omega)]⟩ (hf 82 (by omega) (by omega)), hW, hT.fr (hf 86 (by omega) (by omega)) (hf 87 (by omega) (by omega)), hG.fr ⟨by rw [hf 81 (by omega) (by omega)], by rw [hf 81 (by omega) (by omega)]⟩ fun a h1 h2 => hf a (by omega) (by omega), encM_fr hN5 hR fun a h1 h2 => by rw [hf 100 (by omega) (by omega)], hK.fr hN5 (hf 99 (by omega) (by omega)) fun a h1 h2 => by rw [hf 100 (by omega) (by omega)]⟩
theorem MS.t {W' : zWr} (hN5 : hN (sH s) ≤ 5) (h : MS s k m) (hW : MT W' m') (hf : ∀ a, a ≠ 86 → a ≠ 87 → m' a = m a) : MS (sTs W' s) k m' := by
  obtain ⟨hA, hW0, -, hG, hR, hK⟩ := h
  exact ⟨hA.fr ⟨by rw [hf 81 (by omega) (by omega)], by rw [hf 81 (by omega) (by omega)], by rw [hf 81 (by omega) (by omega)]⟩ (hf 82 (by omega) (by omega)), hW0.fr (hf 83 (by omega) (by omega)) (hf 84 (by omega) (by omega)), hW, hG.fr ⟨by rw [hf 81 (by omega) (by omega)], by rw [hf 81 (by omega) (by omega)]⟩ fun a h1 h2 => hf a (by omega) (by omega), encM_fr hN5 hR fun a h1 h2 => by rw [hf 100 (by omega) (by omega)], hK.fr hN5 (hf 99 (by omega) (by omega)) fun a h1 h2 => by rw [hf 100 (by omega) (by omega)]⟩
theorem okS.w {W' : zWr} (h : okS s) (hw : ∀ r n, r < 6 → W'.1 r = some n → n ≤ 60) : okS (sWs W' s) := by
  obtain ⟨h1, h2, h3⟩ := h
  exact ⟨h1, hw, h3⟩
theorem okS.t {W' : zWr} (h : okS s) (hw : ∀ r n, r < 4 → W'.1 r = some n → n ≤ 100) : okS (sTs W' s) := by
  obtain ⟨h1, h2, h3, h4⟩ := h
  exact ⟨h1, h2, hw, h4⟩
theorem stW_sz {j n L c : Nat} {f : Nat → Int32} (h : ∀ r n, r < c → W.1 r = some n → n ≤ L) (hn : n ≤ L) : ∀ r n', r < c → (stW W j n f).1 r = some n' → n' ≤ L := by
  intro r n' hr h'
  unfold stW at h'
  by_cases hrj : r = j
  · simp only [hrj, if_true] at h'
    cases h'; exact hn
  · simp only [hrj, if_false] at h'
    exact h r n' hr h'
theorem rmW_sz {j L c : Nat} (h : ∀ r n, r < c → W.1 r = some n → n ≤ L) : ∀ r n', r < c → (rmW W j).1 r = some n' → n' ≤ L := by
  intro r n' hr h'
  unfold rmW at h'
  by_cases hrj : r = j
  · simp only [hrj, if_true] at h'
    cases h'
  · simp only [hrj, if_false] at h'
    exact h r n' hr h'
theorem ix_s {r : Int32} {n j : Nat} (hn : n < 2 ^ 31) (h : ix r n = some j) : r = nI j ∧ j < n := by
  rcases ix_c r n hn with ⟨j', h1, h2, h3⟩ | ⟨h1, -⟩
  · rw [h] at h3; cases h3; exact ⟨h2, h1⟩
  · rw [h] at h1; cases h1
theorem ix_n {r : Int32} {n : Nat} (hn : n < 2 ^ 31) (h : ix r n = none) : r < 0 ∨ (¬ r < 0 ∧ ¬ r < nI n) := by
  rcases ix_c r n hn with ⟨j', h1, h2, h3⟩ | ⟨-, h1⟩
  · rw [h] at h3; cases h3
  · exact h1
theorem ir_s {r : Int32} {lo hi j : Nat} (hn : hi < 2 ^ 31) (hl : lo ≤ hi) (h : ir r lo hi = some j) : r = nI j ∧ lo ≤ j ∧ j ≤ hi := by
  rcases ir_c r lo hi hn hl with ⟨j', h1, h2, h3, h4⟩ | ⟨h1, -⟩
  · rw [h] at h4; cases h4; exact ⟨h3, h1, h2⟩
  · rw [h] at h1; cases h1
theorem ir_n {r : Int32} {lo hi : Nat} (hn : hi < 2 ^ 31) (hl : lo ≤ hi) (h : ir r lo hi = none) : r < nI lo ∨ (¬ r < nI lo ∧ nI hi < r) := by
  rcases ir_c r lo hi hn hl with ⟨j', h1, h2, h3, h4⟩ | ⟨-, h1⟩
  · rw [h] at h4; cases h4
  · exact h1
theorem nIn0 {n : Nat} (h : n < 2 ^ 31) : ¬ nI n < 0 := nI_pos h
theorem X_isMissing {b : Nat} {o : Option Nat} (hb : shp b = 3) (hs : m b 1 = szX o) (ho : ∀ n, o = some n → n ≤ 100) : dn_X3_isMissing b (Z k m) = some (if o.isSome then 0 else 1, Z k m) := by
  unfold dn_X3_isMissing
  rw [ZO_3 hb, Option.bind_some, ZI_3_1 hb, Option.bind_some, hs]
  cases o with
  | none => rfl
  | some n =>
    have := ho n rfl
    rw [show szX (some n) = nI n from rfl, if_neg (nIn0 (by omega))]
    rfl
theorem X_refusalOf {r : Int32} (hP : rwP am ba ct ln) (hQ : zXQ ba ct W m) (hsz : ∀ r n, r < ct → W.1 r = some n → n ≤ ln) :
    (ix r ct = none → dn_X4_refusalOf 2 am r (Z k m) = some (-1, Z k m)) ∧ (∀ j, ix r ct = some j → W.1 j = none → dn_X4_refusalOf 2 am r (Z k m) = zbd (dn_X4_found 2 1 (Z k m)) fun x h => some (x, h)) ∧ ∀ j n, ix r ct = some j → W.1 j = some n → dn_X4_refusalOf 2 am r (Z k m) = some (0, Z k m) := by
  have hle := rwP_le hP
  unfold dn_X4_refusalOf jn_X4_refusalOf_10 jn_X4_refusalOf_30
  rw [ZO_4 s2, Option.bind_some, RW_n hP, Option.bind_some]
  refine ⟨fun h => ?_, fun j h hw => ?_, fun j n h hw => ?_⟩
  · rcases ix_n (by omega) h with h0 | ⟨h0, h1⟩
    · rw [if_pos h0]
    · rw [if_neg h0, if_neg h1]
  · obtain ⟨rfl, hj⟩ := ix_s (by omega) h
    obtain ⟨q1, q2⟩ := hQ j hj
    rw [if_neg (nIn0 (by omega)), ifLt hj (by omega), RW_r hP hj, Option.bind_some, X_isMissing (RW_s hP hj) q1 (fun n hn => by have := hsz j n hj hn; omega), zbd_s, hw]
    rfl
  · obtain ⟨rfl, hj⟩ := ix_s (by omega) h
    obtain ⟨q1, q2⟩ := hQ j hj
    rw [if_neg (nIn0 (by omega)), ifLt hj (by omega), RW_r hP hj, Option.bind_some, X_isMissing (RW_s hP hj) q1 (fun n hn => by have := hsz j n hj hn; omega), zbd_s, hw]
    rfl
theorem X_has {b n : Nat} {i : Int32} (hb : shp b = 3) (hs : m b 1 = nI n) (hn : n ≤ 100) : dn_X3_has b i (Z k m) = some (if (ix i n).isSome then 1 else 0, Z k m) := by
  unfold dn_X3_has jn_X3_has_16
  rw [ZO_3 hb, Option.bind_some, ZI_3_1 hb, Option.bind_some, hs]
  rcases ix_c i n (by omega) with ⟨j, hj, rfl, h⟩ | ⟨h, h0 | ⟨h0, h1⟩⟩
  · rw [h, if_neg (nIn0 (by omega)), ifLt hj (by omega)]; rfl
  · rw [h, if_pos h0]; rfl
  · rw [h, if_neg h0, if_neg h1]; rfl
theorem X_refusalAt {r i : Int32} (hP : rwP am ba ct ln) (hQ : zXQ ba ct W m) (hsz : ∀ r n, r < ct → W.1 r = some n → n ≤ ln) :
    (ix r ct = none → dn_X4_refusalAt 2 am r i (Z k m) = some (-1, Z k m)) ∧ (∀ j, ix r ct = some j → W.1 j = none → (∃ m', dn_X4_found 2 1 (Z k m) = some (-3, Z k m')) → dn_X4_refusalAt 2 am r i (Z k m) = dn_X4_found 2 1 (Z k m)) ∧ (∀ j n, ix r ct = some j → W.1 j = some n → ix i n = none → (∃ m', dn_X4_found 2 2 (Z k m) = some (-3, Z k m')) → dn_X4_refusalAt 2 am r i (Z k m) = dn_X4_found 2 2 (Z k m)) ∧ ∀ j n p, ix r ct = some j → W.1 j = some n → ix i n = some p → dn_X4_refusalAt 2 am r i (Z k m) = some (0, Z k m) := by
  have hle := rwP_le hP
  obtain ⟨r1, r2, r3⟩ := X_refusalOf (k := k) (r := r) hP hQ hsz
  unfold dn_X4_refusalAt jn_X4_refusalAt_35
  rw [ZO_4 s2, Option.bind_some]
  refine ⟨fun h => ?_, fun j h hw hf => ?_, fun j n h hw hi hf => ?_, fun j n p h hw hi => ?_⟩
  · rw [r1 h, zbd_s, if_neg (by decide)]
  · obtain ⟨m', hf⟩ := hf
    rw [r2 j h hw, hf, zbd_s, zbd_s, if_neg (by decide)]
  · obtain ⟨m', hf⟩ := hf
    rw [r3 j n h hw, zbd_s, ifb0]
    obtain ⟨rfl, hj⟩ := ix_s (by omega) h
    obtain ⟨q1, q2⟩ := hQ j hj
    rw [hw] at q1
    have hn := hsz j n hj hw
    rw [RW_r hP hj, Option.bind_some, X_has (RW_s hP hj) q1 (by omega), zbd_s, hi]
    rw [ifNo, ifb0, hf, zbd_s]
  · rw [r3 j n h hw, zbd_s, ifb0]
    obtain ⟨rfl, hj⟩ := ix_s (by omega) h
    obtain ⟨q1, q2⟩ := hQ j hj
    rw [hw] at q1
    have hn := hsz j n hj hw
    rw [RW_r hP hj, Option.bind_some, X_has (RW_s hP hj) q1 (by omega), zbd_s, hi]
    rfl
theorem M_isRow {r : Int32} {h : zAH} : dn_X5_isRow r h = some (if (ix r 6).isSome then 1 else 0, h) := by
  unfold dn_X5_isRow
  rw [show (5 : Int32) = nI 6 - 1 by decide, M_ix r 6 (by omega), zbd_s]
  by_cases h1 : (ix r 6).isSome = true
  · rw [if_pos h1]; rfl
  · rw [if_neg h1]; rfl
theorem M_isText {r : Int32} {h : zAH} : dn_X5_isText r h = some (if (ix r 4).isSome then 1 else 0, h) := by
  unfold dn_X5_isText
  rw [show (3 : Int32) = nI 4 - 1 by decide, M_ix r 4 (by omega), zbd_s]
  by_cases h1 : (ix r 4).isSome = true
  · rw [if_pos h1]; rfl
  · rw [if_neg h1]; rfl
end
