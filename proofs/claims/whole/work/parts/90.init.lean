/-! the beginning: what the constructors make -/
def hL (b : Nat × (Nat → Int32)) (l : List zAC) (w : Nat) : zAH := (fun a => if a = 0 then some (.inl (0, 4, zBch)) else if a = 1 then some (.inl (0, b.1, b.2)) else l[a - 2]?, l.length, w)
def gOf (o : Option zAC) : List Value := match o with
  | some (.inr (.inr (_, fs))) => fs
  | _ => []
def isO (ci j : Nat) (o : Option zAC) : Bool := match o with
  | some (.inr (.inr (c, fs))) => c == ci && decide (j < fs.length)
  | _ => false
def arC (n : Nat) : zAC := .inl (0, n, fun _ => 0)
def hlC (a : Nat) : List zAC := [.inr (.inr (0, [.int 0, .ref (a + 1), .int 0, .ref (a + 2), .ref (a + 3), .ref (a + 4), .ref (a + 5), .ref (a + 6)])), arC 40, arC 5, arC 5, arC 5, arC 5, arC 40]
def rcC (a : Nat) : List zAC := [.inr (.inr (1, [.int 0, .int 0, .int 0, .int 0, .int 0, .int 0, .ref (a + 1), .ref (a + 2), .ref (a + 3), .ref (a + 4), .ref (a + 5), .ref (a + 6)])), arC 5, arC 5, arC 5, arC 5, arC 5, arC 5]
def rwC (a ln : Nat) : List zAC := [.inr (.inr (3, [.ref (a + 1), .int (-9)])), arC ln]
def rwA (n s r : Nat) : zAC := .inr (.inl (3, n, fun j => if j < r then some (s + 2 * j) else none))
def kpA (r : Nat) : zAC := .inr (.inl (4, 3, fun j => if j < r then some (60 + 7 * j) else none))
def rwB (s ln : Nat) : Nat → List zAC
  | 0 => []
  | r + 1 => rwB s ln r ++ rwC (s + 2 * r) ln
def rcB : Nat → List zAC
  | 0 => []
  | r + 1 => rcB r ++ rcC (60 + 7 * r)
def upN : Nat → Nat → Int32
  | 0 => fun _ => 0
  | i + 1 => upd (upN i) i (-1)
section
variable {b : Nat × (Nat → Int32)} {l blk : List zAC} {w : Nat}
theorem hL_at {i : Nat} : (hL b l w).1 (i + 2) = l[i]? := by
  show (if i + 2 = 0 then some (.inl (0, 4, zBch)) else if i + 2 = 1 then some (.inl (0, b.1, b.2)) else l[i + 2 - 2]?) = _
  rw [if_neg (by omega), if_neg (by omega), Nat.add_sub_cancel]
theorem hL_new {c : zAC} {v : Nat} : znew c v (hL b l w) = hL b (l ++ [c]) (w + v) := by
  unfold znew
  refine Prod.ext ?_ (Prod.ext ?_ rfl)
  · funext a
    show va_up (hL b l w).1 (l.length + 2) (some c) a = (hL b (l ++ [c]) (w + v)).1 a
    by_cases ha : a = l.length + 2
    · subst ha
      rw [va_up, if_pos rfl, hL_at, List.getElem?_append_right (Nat.le_refl _), Nat.sub_self]
      rfl
    · rw [va_up, if_neg ha]
      by_cases h2 : a < 2
      · show (if a = 0 then _ else if a = 1 then _ else _) = (if a = 0 then _ else if a = 1 then _ else _)
        by_cases h0 : a = 0
        · rw [if_pos h0, if_pos h0]
        · rw [if_neg h0, if_neg h0, if_pos (by omega), if_pos (by omega)]
      · obtain ⟨i, rfl⟩ : ∃ i, a = i + 2 := ⟨a - 2, by omega⟩
        rw [hL_at, hL_at]
        by_cases hi : i < l.length
        · rw [List.getElem?_append_left hi]
        · rw [List.getElem?_eq_none (by omega), List.getElem?_eq_none (by rw [List.length_append, List.length_singleton]; omega)]
  · show l.length + 1 = (l ++ [c]).length
    rw [List.length_append, List.length_singleton]
theorem isO_s {ci j : Nat} {o : Option zAC} (h : isO ci j o = true) : o = some (.inr (.inr (ci, gOf o))) ∧ j < (gOf o).length := by
  unfold isO at h
  split at h
  · rename_i c fs
    rw [Bool.and_eq_true, beq_iff_eq, decide_eq_true_iff] at h
    exact ⟨by rw [h.1]; rfl, h.2⟩
  · cases h
theorem hc_O {a ci i : Nat} (e : a = i + 2) (h : isO ci 0 l[i]? = true) : zgO ci a (hL b l w) = some (gOf l[i]?) := by
  subst e
  unfold zgO
  rw [hL_at]
  obtain ⟨h1, -⟩ := isO_s h
  generalize gOf l[i]? = fs at h1 ⊢
  rw [h1]
  dsimp only
  rw [if_pos rfl]
theorem hL_set {i : Nat} {c : zAC} (hi : i < l.length) : zup (hL b l w) (i + 2) c = hL b (l.set i c) w := by
  unfold zup
  refine Prod.ext ?_ (Prod.ext ?_ rfl)
  · funext a
    show va_up (hL b l w).1 (i + 2) (some c) a = (hL b (l.set i c) w).1 a
    by_cases ha : a = i + 2
    · subst ha
      rw [va_up, if_pos rfl, hL_at, List.getElem?_set_self hi]
    · rw [va_up, if_neg ha]
      by_cases h2 : a < 2
      · show (if a = 0 then _ else if a = 1 then _ else _) = (if a = 0 then _ else if a = 1 then _ else _)
        by_cases h0 : a = 0
        · rw [if_pos h0, if_pos h0]
        · rw [if_neg h0, if_neg h0, if_pos (by omega), if_pos (by omega)]
      · obtain ⟨j, rfl⟩ : ∃ j, a = j + 2 := ⟨a - 2, by omega⟩
        rw [hL_at, hL_at, List.getElem?_set_ne (by omega)]
  · show l.length = (l.set i c).length
    rw [List.length_set]
theorem hc_P {a ci j i : Nat} {v : Value} (e : a = i + 2) (h : isO ci j l[i]? = true) : zpF ci j a v (hL b l w) = some (hL b (l.set i (.inr (.inr (ci, (gOf l[i]?).set j v)))) w) := by
  obtain ⟨h1, h2⟩ := isO_s h
  have h0 : isO ci 0 l[i]? = true := by
    rw [h1]
    unfold isO
    rw [Bool.and_eq_true, beq_iff_eq, decide_eq_true_iff]
    exact ⟨rfl, by omega⟩
  have hi : i < l.length := (List.getElem?_eq_some_iff.mp h1).1
  unfold zpF
  rw [if_neg (by omega), hc_O e h0, Option.bind_some, if_pos h2]
  subst e
  rw [hL_set hi]
theorem hc_A {a ci j i x : Nat} (e : a = i + 2) (h : isO ci 0 l[i]? = true) (hx : (gOf l[i]?)[j]? = some (.ref x)) : zgA ci j a (hL b l w) = some x := by
  unfold zgA
  rw [hc_O e h, Option.bind_some, hx]
  rfl
theorem ap_at {i : Nat} : (l ++ blk)[l.length + i]? = blk[i]? := by
  rw [List.getElem?_append_right (Nat.le_add_right _ _), Nat.add_sub_cancel_left]
theorem ap_set {i : Nat} {c : zAC} : (l ++ blk).set (l.length + i) c = l ++ blk.set i c := by
  rw [List.set_append_right _ _ (Nat.le_add_right _ _), Nat.add_sub_cancel_left]
theorem hb_O {a ci i : Nat} (e : a = l.length + i + 2) (h : isO ci 0 blk[i]? = true) : zgO ci a (hL b (l ++ blk) w) = some (gOf blk[i]?) := by
  rw [hc_O e (by rw [ap_at]; exact h), ap_at]
theorem hb_P {a ci j i : Nat} {v : Value} (e : a = l.length + i + 2) (h : isO ci j blk[i]? = true) : zpF ci j a v (hL b (l ++ blk) w) = some (hL b (l ++ blk.set i (.inr (.inr (ci, (gOf blk[i]?).set j v)))) w) := by
  rw [hc_P e (by rw [ap_at]; exact h), ap_at, ap_set]
theorem hb_nI {α : Type} {K : Nat → zAH → Option α} {kd N : Nat} {n : Int32} (h0 : n.toNatClampNeg = N) (h1 : ¬ n < 0) (h2 : N ≤ 1000) : znwI kd n K (hL b (l ++ blk) w) = K (l.length + blk.length + 2) (hL b (l ++ (blk ++ [.inl (kd, N, fun _ => 0)])) (w + N)) := by
  unfold znwI
  rw [h0, if_neg (by intro z; rcases z with z | z; exact h1 z; omega), hL_new, List.append_assoc]
  show K ((l ++ blk).length + 2) _ = _
  rw [List.length_append]
theorem hc_nI {α : Type} {K : Nat → zAH → Option α} {kd N : Nat} {n : Int32} (h0 : n.toNatClampNeg = N) (h1 : ¬ n < 0) (h2 : N ≤ 1000) : znwI kd n K (hL b l w) = K (l.length + 2) (hL b (l ++ [.inl (kd, N, fun _ => 0)]) (w + N)) := by
  unfold znwI
  rw [h0, if_neg (by intro z; rcases z with z | z; exact h1 z; omega), hL_new]
  rfl
theorem hc_nR {α : Type} {K : Nat → zAH → Option α} {kd N : Nat} {n : Int32} (h0 : n.toNatClampNeg = N) (h1 : ¬ n < 0) (h2 : N ≤ 1000) : znwR kd n K (hL b l w) = K (l.length + 2) (hL b (l ++ [.inr (.inl (kd, N, fun _ => none))]) (w + N)) := by
  unfold znwR
  rw [h0, if_neg (by intro z; rcases z with z | z; exact h1 z; omega), hL_new]
  rfl
theorem hc_n {α : Type} {K : Nat → zAH → α} {ci : Nat} {fs : List Value} : znw ci fs K (hL b l w) = K (l.length + 2) (hL b (l ++ [.inr (.inr (ci, fs))]) (w + fs.length)) := by
  unfold znw znO
  rw [hL_new]
  rfl
theorem hc_Q {a kd i j n v iv : Nat} {f : Nat → Option Nat} (e : a = i + 2) (h : l[i]? = some (.inr (.inl (kd, n, f)))) (hj : j < n) (hn : n ≤ 1000) (ev : v = iv + 2) (hv : isO (zkc kd) 0 l[iv]? = true) : zaQ kd a (nI j) v (hL b l w) = some (hL b (l.set i (.inr (.inl (kd, n, va_up f j (some v))))) w) := by
  have hi : i < l.length := (List.getElem?_eq_some_iff.mp h).1
  unfold zaQ
  rw [if_neg (by omega), hc_O ev hv, Option.bind_some]
  subst e
  rw [hL_at, h]
  dsimp only
  rw [if_pos rfl, nI_clamp (by omega), if_neg (fun z => z.elim (fun z => nIn0 (by omega) z) (fun z => by omega)), hL_set hi]
theorem hc_S {a kd i j n : Nat} {f : Nat → Int32} {x : Int32} (e : a = i + 2) (h : l[i]? = some (.inl (kd, n, f))) (hj : j < n) (hn : n ≤ 1000) : zaS kd a (nI j) x (hL b l w) = some (hL b (l.set i (.inl (kd, n, upd f j x))) w) := by
  have hi : i < l.length := (List.getElem?_eq_some_iff.mp h).1
  unfold zaS
  rw [if_neg (by omega)]
  subst e
  rw [hL_at, h]
  dsimp only
  rw [if_pos rfl, nI_clamp (by omega), if_neg (fun z => z.elim (fun z => nIn0 (by omega) z) (fun z => by omega)), hL_set hi]
theorem I_X0 : dn_X0_init (l.length + 2) (hL b (l ++ [.inr (.inr (0, zdf_0))]) w) = some ((), hL b (l ++ hlC (l.length + 2)) (w + 100)) := by
  unfold dn_X0_init
  rw [hb_O (i := 0) (by rfl) (by rfl), Option.bind_some, hb_P (i := 0) (by rfl) (by rfl), Option.bind_some, hb_nI (N := 40) (by decide) (by decide) (by decide), hb_P (i := 0) (by rfl) (by rfl), Option.bind_some, hb_P (i := 0) (by rfl) (by rfl), Option.bind_some, hb_nI (N := 5) (by decide) (by decide) (by decide), hb_P (i := 0) (by rfl) (by rfl), Option.bind_some, hb_nI (N := 5) (by decide) (by decide) (by decide), hb_P (i := 0) (by rfl) (by rfl), Option.bind_some, hb_nI (N := 5) (by decide) (by decide) (by decide), hb_P (i := 0) (by rfl) (by rfl), Option.bind_some, hb_nI (N := 5) (by decide) (by decide) (by decide), hb_P (i := 0) (by rfl) (by rfl), Option.bind_some, hb_nI (N := 40) (by decide) (by decide) (by decide), hb_P (i := 0) (by rfl) (by rfl), Option.bind_some]
  rfl
theorem I_X1 : dn_X1_init (l.length + 2) (hL b (l ++ [.inr (.inr (1, zdf_1))]) w) = some ((), hL b (l ++ rcC (l.length + 2)) (w + 30)) := by
  unfold dn_X1_init
  rw [hb_O (i := 0) (by rfl) (by rfl), Option.bind_some, hb_P (i := 0) (by rfl) (by rfl), Option.bind_some, hb_P (i := 0) (by rfl) (by rfl), Option.bind_some, hb_P (i := 0) (by rfl) (by rfl), Option.bind_some, hb_P (i := 0) (by rfl) (by rfl), Option.bind_some, hb_P (i := 0) (by rfl) (by rfl), Option.bind_some, hb_P (i := 0) (by rfl) (by rfl), Option.bind_some, hb_nI (N := 5) (by decide) (by decide) (by decide), hb_P (i := 0) (by rfl) (by rfl), Option.bind_some, hb_nI (N := 5) (by decide) (by decide) (by decide), hb_P (i := 0) (by rfl) (by rfl), Option.bind_some, hb_nI (N := 5) (by decide) (by decide) (by decide), hb_P (i := 0) (by rfl) (by rfl), Option.bind_some, hb_nI (N := 5) (by decide) (by decide) (by decide), hb_P (i := 0) (by rfl) (by rfl), Option.bind_some, hb_nI (N := 5) (by decide) (by decide) (by decide), hb_P (i := 0) (by rfl) (by rfl), Option.bind_some, hb_nI (N := 5) (by decide) (by decide) (by decide), hb_P (i := 0) (by rfl) (by rfl), Option.bind_some]
  rfl
theorem I_X3 {N : Nat} {v : Int32} (h0 : v.toNatClampNeg = N) (h1 : ¬ v < 0) (h2 : N ≤ 1000) : dn_X3_init (l.length + 2) v (hL b (l ++ [.inr (.inr (3, zdf_3))]) w) = some ((), hL b (l ++ rwC (l.length + 2) N) (w + N)) := by
  unfold dn_X3_init
  rw [hb_O (i := 0) (by rfl) (by rfl), Option.bind_some, hb_P (i := 0) (by rfl) (by rfl), Option.bind_some, hb_nI (N := N) h0 h1 h2, hb_P (i := 0) (by rfl) (by rfl), Option.bind_some]
  rfl
theorem rwB_len {s ln : Nat} : ∀ r, (rwB s ln r).length = 2 * r
  | 0 => rfl
  | r + 1 => by
    rw [rwB, List.length_append, rwB_len r]
    show 2 * r + 2 = _
    omega
theorem rcB_len : ∀ r, (rcB r).length = 7 * r
  | 0 => rfl
  | r + 1 => by
    rw [rcB, List.length_append, rcB_len r]
    show 7 * r + 7 = _
    omega
theorem rwA_0 {n s : Nat} : (Sum.inr (Sum.inl (3, n, fun _ => none)) : zAC) = rwA n s 0 := by
  unfold rwA
  congr 4
theorem rwA_s {n s r : Nat} : (Sum.inr (Sum.inl (3, n, va_up (fun j => if j < r then some (s + 2 * j) else none) r (some (s + 2 * r)))) : zAC) = rwA n s (r + 1) := by
  unfold rwA
  congr 4
  funext j
  by_cases h : j = r
  · subst h
    rw [va_up, if_pos rfl, if_pos (by omega)]
  · rw [va_up, if_neg h]
    by_cases h' : j < r
    · rw [if_pos h', if_pos (by omega)]
    · rw [if_neg h', if_neg (by omega)]
theorem kpA_s {r : Nat} : (Sum.inr (Sum.inl (4, 3, va_up (fun j => if j < r then some (60 + 7 * j) else none) r (some (60 + 7 * r)))) : zAC) = kpA (r + 1) := by
  unfold kpA
  congr 4
  funext j
  by_cases h : j = r
  · subst h
    rw [va_up, if_pos rfl, if_pos (by omega)]
  · rw [va_up, if_neg h]
    by_cases h' : j < r
    · rw [if_pos h', if_pos (by omega)]
    · rw [if_neg h', if_neg (by omega)]
theorem I_145 {fs : List Value} {A4 : zAC} {rest : List zAC} (h0 : isO 4 0 (some (.inr (.inr (4, fs)))) = true) (h1 : fs[0]? = some (.ref 3)) (hr : rest.length = 35) : lp_X4_init_145 2 0 (hL b (.inr (.inr (4, fs)) :: rwA 6 40 0 :: A4 :: (rest ++ [])) w) = jn_X4_init_172 2 (hL b (.inr (.inr (4, fs)) :: rwA 6 40 6 :: A4 :: (rest ++ rwB 40 60 6)) (w + 62 * 6)) := by
  unfold lp_X4_init_145
  refine lp_fn (N := 6) (fun r => nI r) (fun r => hL b (.inr (.inr (4, fs)) :: rwA 6 40 r :: A4 :: (rest ++ rwB 40 60 r)) (w + 62 * r)) (fun r hr6 rec => ?_) (fun rec => ?_) (by omega)
  · unfold lb_X4_init_145
    have hl : (Sum.inr (Sum.inr (4, fs)) :: rwA 6 40 r :: A4 :: (rest ++ rwB 40 60 r) : List zAC).length + 2 = 40 + 2 * r := by
      show (rest ++ rwB 40 60 r).length + 1 + 1 + 1 + 2 = _
      rw [List.length_append, rwB_len, hr]
      omega
    rw [it_6 hr6, hc_A (i := 0) (by rfl) h0 h1, Option.bind_some, hc_n, I_X3 (N := 60) (by decide) (by decide) (by decide), zbd_s, nA_1]
    generalize hL1 : (Sum.inr (Sum.inr (4, fs)) :: rwA 6 40 r :: A4 :: (rest ++ rwB 40 60 r) : List zAC) = L1 at hl
    rw [hc_Q (i := 1) (n := 6) (f := fun j => if j < r then some (40 + 2 * j) else none) (iv := L1.length + 0) (by rfl) (by rw [← hL1]; rfl) hr6 (by omega) (by rfl) (by rw [ap_at]; rfl), Option.bind_some, hl, rwA_s]
    congr 2
    · rw [← hL1, rwB, ← List.append_assoc]
      rfl
  · unfold lb_X4_init_145
    rw [if_6 (by omega) (by omega)]
theorem I_174 {fs : List Value} {A3 : zAC} {rest : List zAC} (h0 : isO 4 0 (some (.inr (.inr (4, fs)))) = true) (h1 : fs[1]? = some (.ref 4)) (hr : rest.length = 47) : jn_X4_init_172 2 (hL b (.inr (.inr (4, fs)) :: A3 :: rwA 4 52 0 :: (rest ++ [])) w) = jn_X4_init_200 2 (hL b (.inr (.inr (4, fs)) :: A3 :: rwA 4 52 4 :: (rest ++ rwB 52 100 4)) (w + 102 * 4)) := by
  unfold jn_X4_init_172 lp_X4_init_174
  refine lp_fn (N := 4) (fun r => nI r) (fun r => hL b (.inr (.inr (4, fs)) :: A3 :: rwA 4 52 r :: (rest ++ rwB 52 100 r)) (w + 102 * r)) (fun r hr6 rec => ?_) (fun rec => ?_) (by omega)
  · unfold lb_X4_init_174
    have hl : (Sum.inr (Sum.inr (4, fs)) :: A3 :: rwA 4 52 r :: (rest ++ rwB 52 100 r) : List zAC).length + 2 = 52 + 2 * r := by
      show (rest ++ rwB 52 100 r).length + 1 + 1 + 1 + 2 = _
      rw [List.length_append, rwB_len, hr]
      omega
    rw [it_4 hr6, hc_A (i := 0) (by rfl) h0 h1, Option.bind_some, hc_n, I_X3 (N := 100) (by decide) (by decide) (by decide), zbd_s, nA_1]
    generalize hL1 : (Sum.inr (Sum.inr (4, fs)) :: A3 :: rwA 4 52 r :: (rest ++ rwB 52 100 r) : List zAC) = L1 at hl
    rw [hc_Q (i := 2) (n := 4) (f := fun j => if j < r then some (52 + 2 * j) else none) (iv := L1.length + 0) (by rfl) (by rw [← hL1]; rfl) hr6 (by omega) (by rfl) (by rw [ap_at]; rfl), Option.bind_some, hl, rwA_s]
    congr 2
    · rw [← hL1, rwB, ← List.append_assoc]
      rfl
  · unfold lb_X4_init_174
    rw [if_4 (by omega) (by omega)]
theorem I_202 {fs : List Value} {pre post : List zAC} (h0 : isO 4 0 (some (.inr (.inr (4, fs)))) = true) (h1 : fs[6]? = some (.ref 33)) (hp : pre.length = 30) (hr : post.length = 26) : jn_X4_init_200 2 (hL b (.inr (.inr (4, fs)) :: (pre ++ kpA 0 :: (post ++ []))) w) = jn_X4_init_226 2 (hL b (.inr (.inr (4, fs)) :: (pre ++ kpA 3 :: (post ++ rcB 3))) (w + 42 * 3)) := by
  unfold jn_X4_init_200 lp_X4_init_202
  refine lp_fn (N := 3) (fun r => nI r) (fun r => hL b (.inr (.inr (4, fs)) :: (pre ++ kpA r :: (post ++ rcB r))) (w + 42 * r)) (fun r hr6 rec => ?_) (fun rec => ?_) (by omega)
  · unfold lb_X4_init_202
    have hl : (Sum.inr (Sum.inr (4, fs)) :: (pre ++ kpA r :: (post ++ rcB r)) : List zAC).length + 2 = 60 + 7 * r := by
      show (pre ++ kpA r :: (post ++ rcB r)).length + 1 + 2 = _
      rw [List.length_append, List.length_cons, List.length_append, rcB_len, hr, hp]
      omega
    have hat : (Sum.inr (Sum.inr (4, fs)) :: (pre ++ kpA r :: (post ++ rcB r)) ++ rcC (60 + 7 * r) : List zAC)[31]? = some (kpA r) := by
      show ((pre ++ kpA r :: (post ++ rcB r)) ++ rcC (60 + 7 * r))[30]? = _
      rw [List.append_assoc, show 30 = pre.length + 0 by omega, ap_at]
      rfl
    have hst : ∀ X, (Sum.inr (Sum.inr (4, fs)) :: (pre ++ kpA r :: (post ++ rcB r)) ++ rcC (60 + 7 * r) : List zAC).set 31 X = Sum.inr (Sum.inr (4, fs)) :: (pre ++ X :: (post ++ rcB (r + 1))) := by
      intro X
      show _ :: ((pre ++ kpA r :: (post ++ rcB r)) ++ rcC (60 + 7 * r)).set 30 X = _
      rw [List.append_assoc, show 30 = pre.length + 0 by omega, ap_set, rcB, ← List.append_assoc post]
      rfl
    rw [it_3 hr6, hc_A (i := 0) (by rfl) h0 h1, Option.bind_some, hc_n, I_X1, zbd_s, nA_1]
    rw [hl]
    generalize hL1 : (Sum.inr (Sum.inr (4, fs)) :: (pre ++ kpA r :: (post ++ rcB r)) : List zAC) = L1 at hl hat hst
    rw [hc_Q (i := 31) (n := 3) (f := fun j => if j < r then some (60 + 7 * j) else none) (iv := L1.length + 0) (by rfl) hat hr6 (by omega) (by omega) (by rw [ap_at]; rfl), Option.bind_some, hst, kpA_s]
    rfl
  · unfold lb_X4_init_202
    rw [if_3 (by omega) (by omega)]
theorem set_self {i : Nat} {c : zAC} (h : l[i]? = some c) : l.set i c = l := by
  apply List.ext_getElem?
  intro j
  have hi : i < l.length := (List.getElem?_eq_some_iff.mp h).1
  by_cases hj : j = i
  · subst hj
    rw [List.getElem?_set_self hi, h]
  · rw [List.getElem?_set_ne (by omega)]
theorem I_fill (h : l[33]? = some (arC 5)) : dn_J7_fill_53178 35 (-1) (hL b l w) = some ((), hL b (l.set 33 (.inl (0, 5, upN 5))) w) := by
  have hi : 33 < l.length := (List.getElem?_eq_some_iff.mp h).1
  unfold dn_J7_fill_53178 lp_J7_fill_53178_5
  have hn : zaN 35 (hL b l w) = some 5 := by
    unfold zaN
    rw [show (hL b l w).1 35 = l[33]? from hL_at, h]
    rfl
  rw [hn, Option.bind_some]
  conv => lhs; rw [← set_self h]
  refine lp_fn (N := 5) (fun i => nI i) (fun i => hL b (l.set 33 (.inl (0, 5, upN i))) w) (fun i hi5 rec => ?_) (fun rec => ?_) (by omega)
  · unfold lb_J7_fill_53178_5
    rw [it_5 hi5, hc_S (i := 33) (n := 5) (f := upN i) (by rfl) (List.getElem?_set_self hi) hi5 (by omega), Option.bind_some, List.set_set, nA_1]
    rfl
  · unfold lb_J7_fill_53178_5 jn_J7_fill_53178_20
    rw [if_5 (by omega) (by omega)]
end
