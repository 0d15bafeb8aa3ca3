/-! what the class's constructor makes, and the reference's -/
def fsX : List Value := [.ref 3, .ref 4, .ref 5, .ref 12, .ref 19, .ref 26, .ref 33, .int 0, .int 0, .long 0, .long 1, .int 0, .ref 34, .ref 35, .ref 36, .ref 37, .ref 38, .ref 39]
def rs0 : List zAC := hlC 5 ++ (hlC 12 ++ (rcC 19 ++ (rcC 26 ++ [kpA 0, arC 6, arC 5, arC 5, arC 5, arC 5, arC 256])))
def pr0 : List zAC := rwA 6 40 6 :: rwA 4 52 4 :: (hlC 5 ++ (hlC 12 ++ (rcC 19 ++ rcC 26)))
def po0 : List zAC := arC 6 :: arC 5 :: arC 5 :: arC 5 :: arC 5 :: arC 256 :: (rwB 40 60 6 ++ rwB 52 100 4)
def po1 : List zAC := arC 6 :: .inl (0, 5, upN 5) :: arC 5 :: arC 5 :: arC 5 :: arC 256 :: (rwB 40 60 6 ++ rwB 52 100 4)
def lX : List zAC := .inr (.inr (4, fsX)) :: (pr0 ++ kpA 3 :: (po1 ++ rcB 3))
def fsM (n : Nat) : List Value := [.int 0, .ref (n + 3), .int 0, .long 0, .long 1, .ref (n + 4), .ref (n + 5), .ref (n + 6), .ref (n + 7), .ref (n + 8), .int 0, .ref (n + 9), .int 0, .ref (n + 10), .ref (n + 11), .ref (n + 12), .ref (n + 13), .ref (n + 14), .int 0, .int 0, .int 0, .int 0, .ref (n + 15), .ref (n + 16), .ref (n + 17), .ref (n + 18), .ref (n + 19), .ref (n + 20), .ref (n + 21), .int 0, .int 0, .ref (n + 22), .ref (n + 23), .ref (n + 24), .int 0, .int 0, .long 0]
def mdC (n : Nat) : List zAC := [.inr (.inr (5, fsM n)), arC 6, arC 6, arC 360, arC 60, arC 4, .inl (1, 400, fun _ => 0), arC 40, arC 5, arC 5, arC 5, arC 5, arC 40, arC 40, arC 5, arC 5, arC 5, arC 40, .inl (2, 4, fun _ => 0), arC 165, arC 5, arC 20, arC 256]
section
variable {b : Nat × (Nat → Int32)} {l blk : List zAC} {w : Nat}
theorem hh_P {fs : List Value} (fs' : List Value) {t : List zAC} {j : Nat} {v : Value} (hj : decide (j < fs.length) = true) (hf : fs.set j v = fs') : zpF 4 j 2 v (hL b (.inr (.inr (4, fs)) :: t) w) = some (hL b (.inr (.inr (4, fs')) :: t) w) := by
  subst hf
  rw [hc_P (l := .inr (.inr (4, fs)) :: t) (i := 0) rfl (by
    show (4 == 4 && decide (j < fs.length)) = true
    rw [hj]
    rfl)]
  rfl
theorem hh_nI {α : Type} {K : Nat → zAH → Option α} {kd N A : Nat} {n : Int32} {c : zAC} {t : List zAC} (hA : t.length + 3 = A) (h0 : n.toNatClampNeg = N) (h1 : ¬ n < 0) (h2 : N ≤ 1000) : znwI kd n K (hL b (c :: t) w) = K A (hL b (c :: (t ++ [.inl (kd, N, fun _ => 0)])) (w + N)) := by
  subst hA
  exact hc_nI h0 h1 h2
theorem hh_nR {α : Type} {K : Nat → zAH → Option α} {kd N A : Nat} {n : Int32} {c : zAC} {t : List zAC} (hA : t.length + 3 = A) (h0 : n.toNatClampNeg = N) (h1 : ¬ n < 0) (h2 : N ≤ 1000) : znwR kd n K (hL b (c :: t) w) = K A (hL b (c :: (t ++ [.inr (.inl (kd, N, fun _ => none))])) (w + N)) := by
  subst hA
  exact hc_nR h0 h1 h2
theorem hh_n {α : Type} {K : Nat → zAH → α} {ci A N : Nat} {fs : List Value} {c : zAC} {t : List zAC} (hA : t.length + 3 = A) (hN : fs.length = N) : znw ci fs K (hL b (c :: t) w) = K A (hL b ((c :: t) ++ [.inr (.inr (ci, fs))]) (w + N)) := by
  subst hA hN
  exact hc_n
theorem I_X0a {A : Nat} (hA : l.length + 2 = A) : dn_X0_init A (hL b (l ++ [.inr (.inr (0, zdf_0))]) w) = some ((), hL b (l ++ hlC A) (w + 100)) := by
  subst hA
  exact I_X0
theorem I_X1a {A : Nat} (hA : l.length + 2 = A) : dn_X1_init A (hL b (l ++ [.inr (.inr (1, zdf_1))]) w) = some ((), hL b (l ++ rcC A) (w + 30)) := by
  subst hA
  exact I_X1
theorem hd_P {a : Nat} {fs : List Value} {t : List zAC} {j : Nat} {v : Value} (e : a = l.length + 2) (hj : decide (j < fs.length) = true) : zpF 5 j a v (hL b (l ++ .inr (.inr (5, fs)) :: t) w) = some (hL b (l ++ .inr (.inr (5, fs.set j v)) :: t) w) := by
  rw [hb_P (blk := .inr (.inr (5, fs)) :: t) (i := 0) e (by
    show (5 == 5 && decide (j < fs.length)) = true
    rw [hj]
    rfl)]
  rfl
theorem hd_nI {α : Type} {K : Nat → zAH → Option α} {kd N A : Nat} {n : Int32} {c : zAC} {t : List zAC} (hA : l.length + (t.length + 1) + 2 = A) (h0 : n.toNatClampNeg = N) (h1 : ¬ n < 0) (h2 : N ≤ 1000) : znwI kd n K (hL b (l ++ c :: t) w) = K A (hL b (l ++ c :: (t ++ [.inl (kd, N, fun _ => 0)])) (w + N)) := by
  subst hA
  exact hb_nI h0 h1 h2
theorem kpA_0 : (Sum.inr (Sum.inl (4, 3, fun _ => none)) : zAC) = kpA 0 := by
  unfold kpA
  congr 4
theorem e02 : (rwA 6 40 6 :: rwA 4 52 4 :: ((rs0 ++ rwB 40 60 6) ++ rwB 52 100 4) : List zAC) = pr0 ++ kpA 0 :: (po0 ++ []) := by
  simp only [rs0, pr0, po0, List.append_assoc, List.cons_append, List.nil_append, List.append_nil]
theorem e03 {c : zAC} : (c :: (pr0 ++ kpA 3 :: (po0 ++ rcB 3)) : List zAC)[33]? = some (arC 5) := by
  show (pr0 ++ kpA 3 :: (po0 ++ rcB 3))[pr0.length + 2]? = _
  rw [ap_at]
  rfl
theorem e04 : (.inr (.inr (4, fsX)) :: (pr0 ++ kpA 3 :: (po0 ++ rcB 3)) : List zAC).set 33 (.inl (0, 5, upN 5)) = lX := by
  show _ :: (pr0 ++ kpA 3 :: (po0 ++ rcB 3)).set (pr0.length + 2) _ = _
  rw [ap_set]
  rfl
theorem I_X4 : dn_X4_init 2 (hL b [.inr (.inr (4, zdf_4))] 18) = some ((), hL b lX 1519) := by
  unfold dn_X4_init
  rw [hc_O (i := 0) (by rfl) (by rfl), Option.bind_some]
  rw [hh_nR (N := 6) (A := 3) (by rfl) (by decide) (by decide) (by decide)]
  rw [hh_P [.ref 3, .null, .null, .null, .null, .null, .null, .int 0, .int 0, .long 0, .long 0, .int 0, .null, .null, .null, .null, .null, .null] (by rfl) (by rfl), Option.bind_some]
  rw [hh_nR (N := 4) (A := 4) (by rfl) (by decide) (by decide) (by decide)]
  rw [hh_P [.ref 3, .ref 4, .null, .null, .null, .null, .null, .int 0, .int 0, .long 0, .long 0, .int 0, .null, .null, .null, .null, .null, .null] (by rfl) (by rfl), Option.bind_some]
  rw [hh_n (A := 5) (N := 8) (by rfl) (by rfl), I_X0a (A := 5) (by rfl), zbd_s, List.cons_append]
  rw [hh_P [.ref 3, .ref 4, .ref 5, .null, .null, .null, .null, .int 0, .int 0, .long 0, .long 0, .int 0, .null, .null, .null, .null, .null, .null] (by rfl) (by rfl), Option.bind_some]
  rw [hh_n (A := 12) (N := 8) (by rfl) (by rfl), I_X0a (A := 12) (by rfl), zbd_s, List.cons_append]
  rw [hh_P [.ref 3, .ref 4, .ref 5, .ref 12, .null, .null, .null, .int 0, .int 0, .long 0, .long 0, .int 0, .null, .null, .null, .null, .null, .null] (by rfl) (by rfl), Option.bind_some]
  rw [hh_n (A := 19) (N := 12) (by rfl) (by rfl), I_X1a (A := 19) (by rfl), zbd_s, List.cons_append]
  rw [hh_P [.ref 3, .ref 4, .ref 5, .ref 12, .ref 19, .null, .null, .int 0, .int 0, .long 0, .long 0, .int 0, .null, .null, .null, .null, .null, .null] (by rfl) (by rfl), Option.bind_some]
  rw [hh_n (A := 26) (N := 12) (by rfl) (by rfl), I_X1a (A := 26) (by rfl), zbd_s, List.cons_append]
  rw [hh_P [.ref 3, .ref 4, .ref 5, .ref 12, .ref 19, .ref 26, .null, .int 0, .int 0, .long 0, .long 0, .int 0, .null, .null, .null, .null, .null, .null] (by rfl) (by rfl), Option.bind_some]
  rw [hh_nR (N := 3) (A := 33) (by rfl) (by decide) (by decide) (by decide)]
  rw [hh_P [.ref 3, .ref 4, .ref 5, .ref 12, .ref 19, .ref 26, .ref 33, .int 0, .int 0, .long 0, .long 0, .int 0, .null, .null, .null, .null, .null, .null] (by rfl) (by rfl), Option.bind_some]
  rw [hh_P [.ref 3, .ref 4, .ref 5, .ref 12, .ref 19, .ref 26, .ref 33, .int 0, .int 0, .long 0, .long 0, .int 0, .null, .null, .null, .null, .null, .null] (by rfl) (by rfl), Option.bind_some]
  rw [hh_P [.ref 3, .ref 4, .ref 5, .ref 12, .ref 19, .ref 26, .ref 33, .int 0, .int 0, .long 0, .long 0, .int 0, .null, .null, .null, .null, .null, .null] (by rfl) (by rfl), Option.bind_some]
  rw [hh_P [.ref 3, .ref 4, .ref 5, .ref 12, .ref 19, .ref 26, .ref 33, .int 0, .int 0, .long 0, .long 0, .int 0, .null, .null, .null, .null, .null, .null] (by rfl) (by rfl), Option.bind_some]
  rw [hh_P [.ref 3, .ref 4, .ref 5, .ref 12, .ref 19, .ref 26, .ref 33, .int 0, .int 0, .long 0, .long 1, .int 0, .null, .null, .null, .null, .null, .null] (by rfl) (by rfl), Option.bind_some]
  rw [hh_P [.ref 3, .ref 4, .ref 5, .ref 12, .ref 19, .ref 26, .ref 33, .int 0, .int 0, .long 0, .long 1, .int 0, .null, .null, .null, .null, .null, .null] (by rfl) (by rfl), Option.bind_some]
  rw [hh_nI (N := 6) (A := 34) (by rfl) (by decide) (by decide) (by decide)]
  rw [hh_P [.ref 3, .ref 4, .ref 5, .ref 12, .ref 19, .ref 26, .ref 33, .int 0, .int 0, .long 0, .long 1, .int 0, .ref 34, .null, .null, .null, .null, .null] (by rfl) (by rfl), Option.bind_some]
  rw [hh_nI (N := 5) (A := 35) (by rfl) (by decide) (by decide) (by decide)]
  rw [hh_P [.ref 3, .ref 4, .ref 5, .ref 12, .ref 19, .ref 26, .ref 33, .int 0, .int 0, .long 0, .long 1, .int 0, .ref 34, .ref 35, .null, .null, .null, .null] (by rfl) (by rfl), Option.bind_some]
  rw [hh_nI (N := 5) (A := 36) (by rfl) (by decide) (by decide) (by decide)]
  rw [hh_P [.ref 3, .ref 4, .ref 5, .ref 12, .ref 19, .ref 26, .ref 33, .int 0, .int 0, .long 0, .long 1, .int 0, .ref 34, .ref 35, .ref 36, .null, .null, .null] (by rfl) (by rfl), Option.bind_some]
  rw [hh_nI (N := 5) (A := 37) (by rfl) (by decide) (by decide) (by decide)]
  rw [hh_P [.ref 3, .ref 4, .ref 5, .ref 12, .ref 19, .ref 26, .ref 33, .int 0, .int 0, .long 0, .long 1, .int 0, .ref 34, .ref 35, .ref 36, .ref 37, .null, .null] (by rfl) (by rfl), Option.bind_some]
  rw [hh_nI (N := 5) (A := 38) (by rfl) (by decide) (by decide) (by decide)]
  rw [hh_P [.ref 3, .ref 4, .ref 5, .ref 12, .ref 19, .ref 26, .ref 33, .int 0, .int 0, .long 0, .long 1, .int 0, .ref 34, .ref 35, .ref 36, .ref 37, .ref 38, .null] (by rfl) (by rfl), Option.bind_some]
  rw [hh_nI (N := 256) (A := 39) (by rfl) (by decide) (by decide) (by decide)]
  rw [hh_P [.ref 3, .ref 4, .ref 5, .ref 12, .ref 19, .ref 26, .ref 33, .int 0, .int 0, .long 0, .long 1, .int 0, .ref 34, .ref 35, .ref 36, .ref 37, .ref 38, .ref 39] (by rfl) (by rfl), Option.bind_some]
  simp only [List.append_assoc, List.cons_append, List.nil_append]
  rw [rwA_0 (n := 6) (s := 40), rwA_0 (n := 4) (s := 52), kpA_0]
  show lp_X4_init_145 2 0 (hL b (.inr (.inr (4, fsX)) :: rwA 6 40 0 :: rwA 4 52 0 :: rs0) 613) = _
  rw [← List.append_nil rs0, I_145 (by rfl) (by rfl) (by rfl), ← List.append_nil (rs0 ++ rwB 40 60 6), I_174 (by rfl) (by rfl) (by rfl), e02, I_202 (by rfl) (by rfl) (by rfl) (by rfl)]
  unfold jn_X4_init_226
  rw [hc_A (i := 0) (x := 35) (by rfl) (by rfl) (by rfl), Option.bind_some, I_fill e03, zbd_s, e04]
theorem I_X5 (hl : l.length = 79) : dn_X5_init 81 (hL b (l ++ [.inr (.inr (5, zdf_5))]) w) = lp_X5_init_181 81 0 (hL b (l ++ mdC 79) (w + 1481)) := by
  unfold dn_X5_init
  rw [hb_O (i := 0) (by omega) (by rfl), Option.bind_some]
  rw [hd_nI (N := 6) (A := 82) (by rw [hl]; rfl) (by decide) (by decide) (by decide), hd_P (by omega) (by rfl), Option.bind_some]
  rw [hd_nI (N := 6) (A := 83) (by rw [hl]; rfl) (by decide) (by decide) (by decide), hd_P (by omega) (by rfl), Option.bind_some]
  rw [hd_nI (N := 360) (A := 84) (by rw [hl]; rfl) (by decide) (by decide) (by decide), hd_P (by omega) (by rfl), Option.bind_some]
  rw [hd_nI (N := 60) (A := 85) (by rw [hl]; rfl) (by decide) (by decide) (by decide), hd_P (by omega) (by rfl), Option.bind_some]
  rw [hd_nI (N := 4) (A := 86) (by rw [hl]; rfl) (by decide) (by decide) (by decide), hd_P (by omega) (by rfl), Option.bind_some]
  rw [hd_nI (N := 400) (A := 87) (by rw [hl]; rfl) (by decide) (by decide) (by decide), hd_P (by omega) (by rfl), Option.bind_some]
  rw [hd_nI (N := 40) (A := 88) (by rw [hl]; rfl) (by decide) (by decide) (by decide), hd_P (by omega) (by rfl), Option.bind_some]
  rw [hd_nI (N := 5) (A := 89) (by rw [hl]; rfl) (by decide) (by decide) (by decide), hd_P (by omega) (by rfl), Option.bind_some]
  rw [hd_nI (N := 5) (A := 90) (by rw [hl]; rfl) (by decide) (by decide) (by decide), hd_P (by omega) (by rfl), Option.bind_some]
  rw [hd_nI (N := 5) (A := 91) (by rw [hl]; rfl) (by decide) (by decide) (by decide), hd_P (by omega) (by rfl), Option.bind_some]
  rw [hd_nI (N := 5) (A := 92) (by rw [hl]; rfl) (by decide) (by decide) (by decide), hd_P (by omega) (by rfl), Option.bind_some]
  rw [hd_nI (N := 40) (A := 93) (by rw [hl]; rfl) (by decide) (by decide) (by decide), hd_P (by omega) (by rfl), Option.bind_some]
  rw [hd_nI (N := 40) (A := 94) (by rw [hl]; rfl) (by decide) (by decide) (by decide), hd_P (by omega) (by rfl), Option.bind_some]
  rw [hd_nI (N := 5) (A := 95) (by rw [hl]; rfl) (by decide) (by decide) (by decide), hd_P (by omega) (by rfl), Option.bind_some]
  rw [hd_nI (N := 5) (A := 96) (by rw [hl]; rfl) (by decide) (by decide) (by decide), hd_P (by omega) (by rfl), Option.bind_some]
  rw [hd_nI (N := 5) (A := 97) (by rw [hl]; rfl) (by decide) (by decide) (by decide), hd_P (by omega) (by rfl), Option.bind_some]
  rw [hd_nI (N := 40) (A := 98) (by rw [hl]; rfl) (by decide) (by decide) (by decide), hd_P (by omega) (by rfl), Option.bind_some]
  rw [hd_nI (N := 4) (A := 99) (by rw [hl]; rfl) (by decide) (by decide) (by decide), hd_P (by omega) (by rfl), Option.bind_some]
  rw [hd_nI (N := 165) (A := 100) (by rw [hl]; rfl) (by decide) (by decide) (by decide), hd_P (by omega) (by rfl), Option.bind_some]
  rw [hd_nI (N := 5) (A := 101) (by rw [hl]; rfl) (by decide) (by decide) (by decide), hd_P (by omega) (by rfl), Option.bind_some]
  rw [hd_nI (N := 20) (A := 102) (by rw [hl]; rfl) (by decide) (by decide) (by decide), hd_P (by omega) (by rfl), Option.bind_some]
  rw [hd_nI (N := 256) (A := 103) (by rw [hl]; rfl) (by decide) (by decide) (by decide), hd_P (by omega) (by rfl), Option.bind_some]
  rw [hd_P (by omega) (by rfl), Option.bind_some]
  rfl
end
def m0 : Nat → Nat → Int32 := fun a => if a = 35 then upN 5 else if 40 ≤ a ∧ a < 60 ∧ a % 2 = 0 then (fun j => if j = 1 then -9 else 0) else fun _ => 0
def k0 (b : Nat × (Nat → Int32)) (w : Nat) : zK := (b, (fun i => if i = 1 then 1 else if i = 3 then 1 else 0), 5, 12, (fun _ => none), 102, w)
set_option maxRecDepth 100000 in
theorem key0 (b : Nat × (Nat → Int32)) (w : Nat) : (lX ++ mdC 79).map some = (List.range 102).map (fun i => Ec (k0 b w) m0 (i + 2)) := rfl
theorem hL_Z (b : Nat × (Nat → Int32)) (w : Nat) : hL b (lX ++ mdC 79) w = Z (k0 b w) m0 := by
  refine Prod.ext ?_ (Prod.ext rfl rfl)
  funext a
  show (hL b (lX ++ mdC 79) w).1 a = Ec (k0 b w) m0 a
  by_cases h2 : a < 2
  · by_cases h0 : a = 0
    · subst h0; rfl
    · obtain rfl : a = 1 := by omega
      rfl
  · obtain ⟨i, rfl⟩ : ∃ i, a = i + 2 := ⟨a - 2, by omega⟩
    rw [hL_at]
    by_cases hi : i < 102
    · have : ((lX ++ mdC 79).map some)[i]? = ((List.range 102).map (fun i => Ec (k0 b w) m0 (i + 2)))[i]? := by rw [key0 b w]
      rw [List.getElem?_map, List.getElem?_map, List.getElem?_range hi, Option.map_some] at this
      cases h : (lX ++ mdC 79)[i]? with
      | none =>
        rw [h] at this
        cases this
      | some c =>
        rw [h, Option.map_some] at this
        exact Option.some.inj this
    · rw [List.getElem?_eq_none (show (lX ++ mdC 79).length ≤ i from Nat.le_of_not_lt hi)]
      unfold Ec
      rw [shp_big (by omega)]
      rfl
