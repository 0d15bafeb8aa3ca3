section
variable {k : zK} {m : Nat → Nat → Int32} {q : Nat} {H : zHD} {R : zRS}
/-- how the reference holds a HILL, and a RACE from place q on -/
def encG (H : zHD) (m : Nat → Nat → Int32) : Prop := m 81 10 = nI (hY H) ∧ m 81 12 = nI (hN H) ∧ (∀ y, y < hY H → m 88 y = iI (hS H y)) ∧ ∀ x, x < hN H → m 89 x = nI (hK H x) ∧ m 92 x = nI (hZ H x) ∧ ∀ i, i < hZ H x → m 93 (8 * x + i) = nI (hP H x i)
def encM (q : Nat) (H : zHD) (R : zRS) (m : Nat → Nat → Int32) : Prop := q + 33 ≤ 165 ∧ m 100 (q + 0) = nI (rSt R) ∧ m 100 (q + 1) = nI (rHd R) ∧ m 100 (q + 2) = rPs R ∧ ∀ x, x < hN H → m 100 (q + (3 + x)) = nI (rYd R x) ∧ m 100 (q + (8 + x)) = nI (rBr R x) ∧ m 100 (q + (13 + x)) = rDn R x ∧ m 100 (q + (18 + x)) = rCr R x ∧ m 100 (q + (23 + x)) = rPb R x ∧ m 100 (q + (28 + x)) = nI (rMb R x)
def zFm (q : Nat) (m m' : Nat → Nat → Int32) : Prop := (∀ b, b ≠ 100 → m' b = m b) ∧ ∀ j, (j < q ∨ q + 33 ≤ j) → m' 100 j = m 100 j
theorem zFm.rf : zFm q m m := ⟨fun _ _ => rfl, fun _ _ => rfl⟩
theorem zFm.tr {m1 m2 : Nat → Nat → Int32} (h1 : zFm q m m1) (h2 : zFm q m1 m2) : zFm q m m2 := ⟨fun b hb => (h2.1 b hb).trans (h1.1 b hb), fun b hb => (h2.2 b hb).trans (h1.2 b hb)⟩
theorem mu100 (m : Nat → Nat → Int32) (p : Nat) (v : Int32) (i : Nat) : mu m 100 p v 100 i = if i = p then v else m 100 i := by simp [mu, upd]
theorem zFm.mu {j : Nat} {v : Int32} (h : j < 33) : zFm q m (mu m 100 (q + j) v) := ⟨fun b hb => mu_ar m _ v hb, fun i hi => by rw [mu100, if_neg (by omega)]⟩
theorem encG_fr {m' : Nat → Nat → Int32} (h : encG H m) (hf : zFm q m m') : encG H m' := by
  obtain ⟨e0, e2, es, ex⟩ := h
  refine ⟨by rw [hf.1 81 (by decide)]; exact e0, by rw [hf.1 81 (by decide)]; exact e2, fun y hy => by rw [hf.1 88 (by decide)]; exact es y hy, fun x hx => ?_⟩
  obtain ⟨x1, x2, x3⟩ := ex x hx
  exact ⟨by rw [hf.1 89 (by decide)]; exact x1, by rw [hf.1 92 (by decide)]; exact x2, fun i hi => by rw [hf.1 93 (by decide)]; exact x3 i hi⟩
theorem s81 : shp 81 = 5 := rfl
theorem s100 : shp 100 = 16 := rfl
theorem ZlR {j : Nat} (hj : j < 165) : zaI 0 100 (nI j) (Z k m) = some (m 100 j) := Zld (a := 100) j (by decide) (by decide) rfl hj
theorem ZsR {j : Nat} {v : Int32} (hj : j < 165) : zaS 0 100 (nI j) v (Z k m) = some (Z k (mu m 100 j v)) := Zst (a := 100) j (by decide) (by decide) rfl hj
theorem M_v {j : Nat} (hb : m 81 29 = nI q) (hj : q + j < 165) : dn_X5_v 81 (nI j) (Z k m) = some (m 100 (q + j), Z k m) := by
  unfold dn_X5_v
  rw [ZO_5 s81, Option.bind_some, ZA_5_28 s81, Option.bind_some, ZI_5_29 s81, Option.bind_some, hb, nI_add, ZlR hj, Option.bind_some]
theorem M_put {j : Nat} {v : Int32} (hb : m 81 29 = nI q) (hj : q + j < 165) : dn_X5_put_ 81 (nI j) v (Z k m) = some ((), Z k (mu m 100 (q + j) v)) := by
  unfold dn_X5_put_
  rw [ZO_5 s81, Option.bind_some, ZA_5_28 s81, Option.bind_some, ZI_5_29 s81, Option.bind_some, hb, nI_add, ZsR hj, Option.bind_some]
theorem M_v0 (hb : m 81 29 = nI q) (hq : q + 33 ≤ 165) : dn_X5_v 81 0 (Z k m) = some (m 100 (q + 0), Z k m) := M_v (j := 0) hb (by omega)
theorem M_v1 (hb : m 81 29 = nI q) (hq : q + 33 ≤ 165) : dn_X5_v 81 1 (Z k m) = some (m 100 (q + 1), Z k m) := M_v (j := 1) hb (by omega)
theorem M_v2 (hb : m 81 29 = nI q) (hq : q + 33 ≤ 165) : dn_X5_v 81 2 (Z k m) = some (m 100 (q + 2), Z k m) := M_v (j := 2) hb (by omega)
theorem M_put0 {v : Int32} (hb : m 81 29 = nI q) (hq : q + 33 ≤ 165) : dn_X5_put_ 81 0 v (Z k m) = some ((), Z k (mu m 100 (q + 0) v)) := M_put (j := 0) hb (by omega)
theorem M_put1 {v : Int32} (hb : m 81 29 = nI q) (hq : q + 33 ≤ 165) : dn_X5_put_ 81 1 v (Z k m) = some ((), Z k (mu m 100 (q + 1) v)) := M_put (j := 1) hb (by omega)
theorem M_put2 {v : Int32} (hb : m 81 29 = nI q) (hq : q + 33 ≤ 165) : dn_X5_put_ 81 2 v (Z k m) = some ((), Z k (mu m 100 (q + 2) v)) := M_put (j := 2) hb (by omega)
theorem G_st  (v : Nat) (hN5 : hN H ≤ 5) (h : encM q H R m) : encM q H (v, R.2) (mu m 100 (q + 0) (nI v)) := by
  obtain ⟨hq, e0, e1, e2, ex⟩ := h
  refine ⟨hq, ?_, ?_, ?_, fun x hx => ?_⟩
  · rw [mu100, if_pos rfl]
  · rw [mu100, if_neg (by omega)]; exact e1
  · rw [mu100, if_neg (by omega)]; exact e2
  · obtain ⟨q1, q2, q3, q4, q5, q6⟩ := ex x hx
    refine ⟨?_, ?_, ?_, ?_, ?_, ?_⟩
    · rw [mu100, if_neg (by omega)]; exact q1
    · rw [mu100, if_neg (by omega)]; exact q2
    · rw [mu100, if_neg (by omega)]; exact q3
    · rw [mu100, if_neg (by omega)]; exact q4
    · rw [mu100, if_neg (by omega)]; exact q5
    · rw [mu100, if_neg (by omega)]; exact q6
theorem G_hd  (v : Nat) (hN5 : hN H ≤ 5) (h : encM q H R m) : encM q H (rSt R, v, R.2.2) (mu m 100 (q + 1) (nI v)) := by
  obtain ⟨hq, e0, e1, e2, ex⟩ := h
  refine ⟨hq, ?_, ?_, ?_, fun x hx => ?_⟩
  · rw [mu100, if_neg (by omega)]; exact e0
  · rw [mu100, if_pos rfl]
  · rw [mu100, if_neg (by omega)]; exact e2
  · obtain ⟨q1, q2, q3, q4, q5, q6⟩ := ex x hx
    refine ⟨?_, ?_, ?_, ?_, ?_, ?_⟩
    · rw [mu100, if_neg (by omega)]; exact q1
    · rw [mu100, if_neg (by omega)]; exact q2
    · rw [mu100, if_neg (by omega)]; exact q3
    · rw [mu100, if_neg (by omega)]; exact q4
    · rw [mu100, if_neg (by omega)]; exact q5
    · rw [mu100, if_neg (by omega)]; exact q6
theorem G_ps  (v : Int32) (hN5 : hN H ≤ 5) (h : encM q H R m) : encM q H (rSt R, rHd R, v, R.2.2.2) (mu m 100 (q + 2) v) := by
  obtain ⟨hq, e0, e1, e2, ex⟩ := h
  refine ⟨hq, ?_, ?_, ?_, fun x hx => ?_⟩
  · rw [mu100, if_neg (by omega)]; exact e0
  · rw [mu100, if_neg (by omega)]; exact e1
  · rw [mu100, if_pos rfl]
  · obtain ⟨q1, q2, q3, q4, q5, q6⟩ := ex x hx
    refine ⟨?_, ?_, ?_, ?_, ?_, ?_⟩
    · rw [mu100, if_neg (by omega)]; exact q1
    · rw [mu100, if_neg (by omega)]; exact q2
    · rw [mu100, if_neg (by omega)]; exact q3
    · rw [mu100, if_neg (by omega)]; exact q4
    · rw [mu100, if_neg (by omega)]; exact q5
    · rw [mu100, if_neg (by omega)]; exact q6
theorem G_yd (x0 : Nat) (hx0 : x0 < 5) (v : Nat) (hN5 : hN H ≤ 5) (h : encM q H R m) : encM q H (rSt R, rHd R, rPs R, va_up (rYd R) x0 v, R.2.2.2.2) (mu m 100 (q + (3 + x0)) (nI v)) := by
  obtain ⟨hq, e0, e1, e2, ex⟩ := h
  refine ⟨hq, ?_, ?_, ?_, fun x hx => ?_⟩
  · rw [mu100, if_neg (by omega)]; exact e0
  · rw [mu100, if_neg (by omega)]; exact e1
  · rw [mu100, if_neg (by omega)]; exact e2
  · obtain ⟨q1, q2, q3, q4, q5, q6⟩ := ex x hx
    refine ⟨?_, ?_, ?_, ?_, ?_, ?_⟩
    · rw [mu100]
      by_cases hxx : x = x0
      · rw [if_pos (by omega)]; simp [va_up, hxx, rYd, rBr, rMb, rDn, rCr, rPb]
      · rw [if_neg (by omega)]; refine q1.trans ?_; simp [va_up, hxx, rYd, rBr, rMb, rDn, rCr, rPb]
    · rw [mu100, if_neg (by omega)]; exact q2
    · rw [mu100, if_neg (by omega)]; exact q3
    · rw [mu100, if_neg (by omega)]; exact q4
    · rw [mu100, if_neg (by omega)]; exact q5
    · rw [mu100, if_neg (by omega)]; exact q6
theorem G_br (x0 : Nat) (hx0 : x0 < 5) (v : Nat) (hN5 : hN H ≤ 5) (h : encM q H R m) : encM q H (rSt R, rHd R, rPs R, rYd R, va_up (rBr R) x0 v, R.2.2.2.2.2) (mu m 100 (q + (8 + x0)) (nI v)) := by
  obtain ⟨hq, e0, e1, e2, ex⟩ := h
  refine ⟨hq, ?_, ?_, ?_, fun x hx => ?_⟩
  · rw [mu100, if_neg (by omega)]; exact e0
  · rw [mu100, if_neg (by omega)]; exact e1
  · rw [mu100, if_neg (by omega)]; exact e2
  · obtain ⟨q1, q2, q3, q4, q5, q6⟩ := ex x hx
    refine ⟨?_, ?_, ?_, ?_, ?_, ?_⟩
    · rw [mu100, if_neg (by omega)]; exact q1
    · rw [mu100]
      by_cases hxx : x = x0
      · rw [if_pos (by omega)]; simp [va_up, hxx, rYd, rBr, rMb, rDn, rCr, rPb]
      · rw [if_neg (by omega)]; refine q2.trans ?_; simp [va_up, hxx, rYd, rBr, rMb, rDn, rCr, rPb]
    · rw [mu100, if_neg (by omega)]; exact q3
    · rw [mu100, if_neg (by omega)]; exact q4
    · rw [mu100, if_neg (by omega)]; exact q5
    · rw [mu100, if_neg (by omega)]; exact q6
theorem G_dn (x0 : Nat) (hx0 : x0 < 5) (v : Int32) (hN5 : hN H ≤ 5) (h : encM q H R m) : encM q H (rSt R, rHd R, rPs R, rYd R, rBr R, rMb R, va_up (rDn R) x0 v, R.2.2.2.2.2.2.2) (mu m 100 (q + (13 + x0)) v) := by
  obtain ⟨hq, e0, e1, e2, ex⟩ := h
  refine ⟨hq, ?_, ?_, ?_, fun x hx => ?_⟩
  · rw [mu100, if_neg (by omega)]; exact e0
  · rw [mu100, if_neg (by omega)]; exact e1
  · rw [mu100, if_neg (by omega)]; exact e2
  · obtain ⟨q1, q2, q3, q4, q5, q6⟩ := ex x hx
    refine ⟨?_, ?_, ?_, ?_, ?_, ?_⟩
    · rw [mu100, if_neg (by omega)]; exact q1
    · rw [mu100, if_neg (by omega)]; exact q2
    · rw [mu100]
      by_cases hxx : x = x0
      · rw [if_pos (by omega)]; simp [va_up, hxx, rYd, rBr, rMb, rDn, rCr, rPb]
      · rw [if_neg (by omega)]; refine q3.trans ?_; simp [va_up, hxx, rYd, rBr, rMb, rDn, rCr, rPb]
    · rw [mu100, if_neg (by omega)]; exact q4
    · rw [mu100, if_neg (by omega)]; exact q5
    · rw [mu100, if_neg (by omega)]; exact q6
theorem G_cr (x0 : Nat) (hx0 : x0 < 5) (v : Int32) (hN5 : hN H ≤ 5) (h : encM q H R m) : encM q H (rSt R, rHd R, rPs R, rYd R, rBr R, rMb R, rDn R, va_up (rCr R) x0 v, rPb R) (mu m 100 (q + (18 + x0)) v) := by
  obtain ⟨hq, e0, e1, e2, ex⟩ := h
  refine ⟨hq, ?_, ?_, ?_, fun x hx => ?_⟩
  · rw [mu100, if_neg (by omega)]; exact e0
  · rw [mu100, if_neg (by omega)]; exact e1
  · rw [mu100, if_neg (by omega)]; exact e2
  · obtain ⟨q1, q2, q3, q4, q5, q6⟩ := ex x hx
    refine ⟨?_, ?_, ?_, ?_, ?_, ?_⟩
    · rw [mu100, if_neg (by omega)]; exact q1
    · rw [mu100, if_neg (by omega)]; exact q2
    · rw [mu100, if_neg (by omega)]; exact q3
    · rw [mu100]
      by_cases hxx : x = x0
      · rw [if_pos (by omega)]; simp [va_up, hxx, rYd, rBr, rMb, rDn, rCr, rPb]
      · rw [if_neg (by omega)]; refine q4.trans ?_; simp [va_up, hxx, rYd, rBr, rMb, rDn, rCr, rPb]
    · rw [mu100, if_neg (by omega)]; exact q5
    · rw [mu100, if_neg (by omega)]; exact q6
theorem G_pb (x0 : Nat) (hx0 : x0 < 5) (v : Int32) (hN5 : hN H ≤ 5) (h : encM q H R m) : encM q H (rSt R, rHd R, rPs R, rYd R, rBr R, rMb R, rDn R, rCr R, va_up (rPb R) x0 v) (mu m 100 (q + (23 + x0)) v) := by
  obtain ⟨hq, e0, e1, e2, ex⟩ := h
  refine ⟨hq, ?_, ?_, ?_, fun x hx => ?_⟩
  · rw [mu100, if_neg (by omega)]; exact e0
  · rw [mu100, if_neg (by omega)]; exact e1
  · rw [mu100, if_neg (by omega)]; exact e2
  · obtain ⟨q1, q2, q3, q4, q5, q6⟩ := ex x hx
    refine ⟨?_, ?_, ?_, ?_, ?_, ?_⟩
    · rw [mu100, if_neg (by omega)]; exact q1
    · rw [mu100, if_neg (by omega)]; exact q2
    · rw [mu100, if_neg (by omega)]; exact q3
    · rw [mu100, if_neg (by omega)]; exact q4
    · rw [mu100]
      by_cases hxx : x = x0
      · rw [if_pos (by omega)]; simp [va_up, hxx, rYd, rBr, rMb, rDn, rCr, rPb]
      · rw [if_neg (by omega)]; refine q5.trans ?_; simp [va_up, hxx, rYd, rBr, rMb, rDn, rCr, rPb]
    · rw [mu100, if_neg (by omega)]; exact q6
theorem G_mb (x0 : Nat) (hx0 : x0 < 5) (v : Nat) (hN5 : hN H ≤ 5) (h : encM q H R m) : encM q H (rSt R, rHd R, rPs R, rYd R, rBr R, va_up (rMb R) x0 v, R.2.2.2.2.2.2) (mu m 100 (q + (28 + x0)) (nI v)) := by
  obtain ⟨hq, e0, e1, e2, ex⟩ := h
  refine ⟨hq, ?_, ?_, ?_, fun x hx => ?_⟩
  · rw [mu100, if_neg (by omega)]; exact e0
  · rw [mu100, if_neg (by omega)]; exact e1
  · rw [mu100, if_neg (by omega)]; exact e2
  · obtain ⟨q1, q2, q3, q4, q5, q6⟩ := ex x hx
    refine ⟨?_, ?_, ?_, ?_, ?_, ?_⟩
    · rw [mu100, if_neg (by omega)]; exact q1
    · rw [mu100, if_neg (by omega)]; exact q2
    · rw [mu100, if_neg (by omega)]; exact q3
    · rw [mu100, if_neg (by omega)]; exact q4
    · rw [mu100, if_neg (by omega)]; exact q5
    · rw [mu100]
      by_cases hxx : x = x0
      · rw [if_pos (by omega)]; simp [va_up, hxx, rYd, rBr, rMb, rDn, rCr, rPb]
      · rw [if_neg (by omega)]; refine q6.trans ?_; simp [va_up, hxx, rYd, rBr, rMb, rDn, rCr, rPb]
theorem M_isDone {x : Nat} (hb : m 81 29 = nI q) (hE : encM q H R m) (hN5 : hN H ≤ 5) (hx : x < hN H) : dn_X5_isDone 81 (nI x) (Z k m) = some (if rDn R x = -9 then 0 else 1, Z k m) := by
  have hq := hE.1
  unfold dn_X5_isDone jn_X5_isDone_18
  rw [ZO_5 s81, Option.bind_some, nB_13, M_v hb (by omega), zbd_s, (hE.2.2.2.2 x hx).2.2.1]
  by_cases h : rDn R x = -9 <;> simp [h]
theorem Zm5 {a j : Nat} (h : shp a = 6) (hj : j < 5) : zaI 0 a (nI j) (Z k m) = some (m a j) := Zl5 h hj
theorem M_isGoat {x : Nat} (hO : okH H) (hG : encG H m) (hx : x < hN H) : dn_X5_isGoat 81 (nI x) (Z k m) = some (if hK H x = 1 ∨ hK H x = 4 then 1 else 0, Z k m) := by
  have hN5 := hO.2.1
  have hk5 := (hO.2.2.2 x hx).1
  unfold dn_X5_isGoat jn_X5_isGoat_20 jn_X5_isGoat_25
  rw [ZO_5 s81, Option.bind_some, ZA_5_13 s81, Option.bind_some, Zl5 (show shp 89 = 6 from rfl) (by omega), Option.bind_some, (hG.2.2.2 x hx).1]
  simp (disch := omega) only [nE_0, nL_0, lL_0, nA_0, nB_0, nM_0, nE_1, nL_1, lL_1, nA_1, nB_1, nM_1, nE_2, nL_2, lL_2, nA_2, nB_2, nM_2, nE_3, nL_3, lL_3, nA_3, nB_3, nM_3, nE_4, nL_4, lL_4, nA_4, nB_4, nM_4, nE_5, nL_5, lL_5, nA_5, nB_5, nM_5, nE_6, nL_6, lL_6, nA_6, nB_6, nM_6, nE_7, nL_7, lL_7, nA_7, nB_7, nM_7, nE_8, nL_8, lL_8, nA_8, nB_8, nM_8, nE_9, nL_9, lL_9, nA_9, nB_9, nM_9, nE_10, nL_10, lL_10, nA_10, nB_10, nM_10, nE_13, nL_13, lL_13, nA_13, nB_13, nM_13, nE_18, nL_18, lL_18, nA_18, nB_18, nM_18, nE_23, nL_23, lL_23, nA_23, nB_23, nM_23, nE_28, nL_28, lL_28, nA_28, nB_28, nM_28, nE_32, nL_32, lL_32, nA_32, nB_32, nM_32, nE_33, nL_33, lL_33, nA_33, nB_33, nM_33, nE_39, nL_39, lL_39, nA_39, nB_39, nM_39, nE_40, nL_40, lL_40, nA_40, nB_40, nM_40, nE_60, nL_60, lL_60, nA_60, nB_60, nM_60, nE_100, nL_100, lL_100, nA_100, nB_100, nM_100, ZA_5_13 s81, Zl5 (show shp 89 = 6 from rfl), (hG.2.2.2 x hx).1, Option.bind_some]
  by_cases h1 : hK H x = 1 <;> by_cases h2 : hK H x = 4 <;> simp [h1, h2]
theorem M_isOx {x : Nat} (hO : okH H) (hG : encG H m) (hx : x < hN H) : dn_X5_isOx 81 (nI x) (Z k m) = some (if hK H x = 2 ∨ hK H x = 5 then 1 else 0, Z k m) := by
  have hN5 := hO.2.1
  have hk5 := (hO.2.2.2 x hx).1
  unfold dn_X5_isOx jn_X5_isOx_20 jn_X5_isOx_25
  rw [ZO_5 s81, Option.bind_some, ZA_5_13 s81, Option.bind_some, Zl5 (show shp 89 = 6 from rfl) (by omega), Option.bind_some, (hG.2.2.2 x hx).1]
  simp (disch := omega) only [nE_0, nL_0, lL_0, nA_0, nB_0, nM_0, nE_1, nL_1, lL_1, nA_1, nB_1, nM_1, nE_2, nL_2, lL_2, nA_2, nB_2, nM_2, nE_3, nL_3, lL_3, nA_3, nB_3, nM_3, nE_4, nL_4, lL_4, nA_4, nB_4, nM_4, nE_5, nL_5, lL_5, nA_5, nB_5, nM_5, nE_6, nL_6, lL_6, nA_6, nB_6, nM_6, nE_7, nL_7, lL_7, nA_7, nB_7, nM_7, nE_8, nL_8, lL_8, nA_8, nB_8, nM_8, nE_9, nL_9, lL_9, nA_9, nB_9, nM_9, nE_10, nL_10, lL_10, nA_10, nB_10, nM_10, nE_13, nL_13, lL_13, nA_13, nB_13, nM_13, nE_18, nL_18, lL_18, nA_18, nB_18, nM_18, nE_23, nL_23, lL_23, nA_23, nB_23, nM_23, nE_28, nL_28, lL_28, nA_28, nB_28, nM_28, nE_32, nL_32, lL_32, nA_32, nB_32, nM_32, nE_33, nL_33, lL_33, nA_33, nB_33, nM_33, nE_39, nL_39, lL_39, nA_39, nB_39, nM_39, nE_40, nL_40, lL_40, nA_40, nB_40, nM_40, nE_60, nL_60, lL_60, nA_60, nB_60, nM_60, nE_100, nL_100, lL_100, nA_100, nB_100, nM_100, ZA_5_13 s81, Zl5 (show shp 89 = 6 from rfl), (hG.2.2.2 x hx).1, Option.bind_some]
  by_cases h1 : hK H x = 2 <;> by_cases h2 : hK H x = 5 <;> simp [h1, h2]
theorem M_lesser {a b : Int} {h : zAH} (a1 : -2 ^ 31 ≤ a) (a2 : a < 2 ^ 31) (b1 : -2 ^ 31 ≤ b) (b2 : b < 2 ^ 31) : dn_X5_lesser (iI a) (iI b) h = some (iI (min a b), h) := by
  unfold dn_X5_lesser jn_X5_lesser_10
  simp only [iI_lt a1 a2 b1 b2]
  by_cases hl : a < b
  · rw [if_pos hl, Int.min_eq_left (by omega)]
  · rw [if_neg hl, Int.min_eq_right (by omega)]
theorem M_breathBy {x p : Nat} (hO : okH H) (hG : encG H m) (hb : m 81 29 = nI q) (hE : encM q H R m) (hok : okR H R) (hx : x < hN H) (hy : rYd R x < hY H) (hp : p ≤ 3) : dn_X5_breathBy 81 (nI x) (nI p) (Z k m) = some (iI (min (rMb R x : Int) (bAf H R x p)), Z k m) := by
  have hN5 := hO.2.1
  have h40 := hO.1
  have hq := hE.1
  have hk5 := (hO.2.2.2 x hx).1
  obtain ⟨hs1, hs2⟩ := hO.2.2.1 _ hy
  obtain ⟨-, -, -, o4, o5, o6⟩ := hok.2.2 x hx
  have hh : rHd R < 5 := by rcases hok.2.1 with z | z <;> omega
  have hgo := M_isGoat (k := k) hO hG hx
  have hox := M_isOx (k := k) hO hG hx
  have vy : dn_X5_v 81 (nI (3 + x)) (Z k m) = some (nI (rYd R x), Z k m) := by rw [M_v hb (by omega), (hE.2.2.2.2 x hx).1]
  have vb : dn_X5_v 81 (nI (8 + x)) (Z k m) = some (nI (rBr R x), Z k m) := by rw [M_v hb (by omega), (hE.2.2.2.2 x hx).2.1]
  have vm : dn_X5_v 81 (nI (28 + x)) (Z k m) = some (nI (rMb R x), Z k m) := by rw [M_v hb (by omega), (hE.2.2.2.2 x hx).2.2.2.2.2]
  have v1 : dn_X5_v 81 1 (Z k m) = some (nI (rHd R), Z k m) := by rw [M_v1 hb hq, hE.2.2.1]
  have hsl : m 88 (rYd R x) = iI (hS H (rYd R x)) := hG.2.2.1 _ hy
  have hkd : m 89 x = nI (hK H x) := (hG.2.2.2 x hx).1
  unfold bAf
  generalize hS H (rYd R x) = sl at *
  generalize hK H x = kd at *
  generalize rBr R x = br at *
  generalize rMb R x = mb at *
  generalize rHd R = hd at *
  have c1 : ∀ v4 v5 : Int, -100 ≤ v4 → v4 ≤ 100 → -100 ≤ v5 → v5 ≤ 100 → jn_X5_breathBy_141 81 (nI x) (iI v4) (iI v5) (Z k m) = some (iI (min (mb : Int) (br + v4 - v5)), Z k m) := by
    intro v4 v5 a1 a2 a3 a4
    unfold jn_X5_breathBy_141
    rw [nB_28, vm, zbd_s, nB_8, vb, zbd_s, iI_nI mb, iI_nI br, iI_add, iI_sub, M_lesser (by omega) (by omega) (by omega) (by omega), zbd_s]
  have c2 : ∀ v4 w0 w1 : Int, -50 ≤ v4 → v4 ≤ 50 → -50 ≤ w0 → w0 ≤ 50 → -20 ≤ w1 → w1 ≤ 20 → jn_X5_breathBy_118 81 (nI x) (nI p) (iI sl) (iI v4) (iI w0) (iI w1) (Z k m) = some (iI (min (mb : Int) (br + v4 - (w0 + w1 - (if 1 < p ∧ sl = -1 then 1 else 0)))), Z k m) := by
    intro v4 w0 w1 a1 a2 a3 a4 a5 a6
    unfold jn_X5_breathBy_118 jn_X5_breathBy_137 jn_X5_breathBy_138
    have e1 : iI w0 + iI w1 - 1 = iI (w0 + w1 - 1) := by rw [iI_add, show (1 : Int32) = iI 1 from rfl, iI_sub]
    have e0 : iI w0 + iI w1 - 0 = iI (w0 + w1 - 0) := by rw [iI_add, show (0 : Int32) = iI 0 from rfl, iI_sub]
    have es : iI sl = (-1 : Int32) ↔ sl = -1 := by rw [iI_m1, iI_eq (by omega) (by omega) (by omega) (by omega)]
    by_cases h1 : 1 < p
    · rw [if_pos ((lL_1 (by omega)).mpr h1)]
      by_cases h2 : sl = -1
      · rw [if_pos (es.mpr h2), if_pos ⟨h1, h2⟩, e1, c1 _ _ (by omega) (by omega) (by omega) (by omega)]
      · rw [if_neg (fun z => h2 (es.mp z)), if_neg (fun z => h2 z.2), e0, c1 _ _ (by omega) (by omega) (by omega) (by omega)]
    · rw [if_neg (fun z => h1 ((lL_1 (by omega)).mp z)), if_neg (fun z => h1 z.1), e0, c1 _ _ (by omega) (by omega) (by omega) (by omega)]
  have c3 : ∀ v4 w0 w1 : Int, -20 ≤ v4 → v4 ≤ 20 → -20 ≤ w0 → w0 ≤ 20 → -20 ≤ w1 → w1 ≤ 20 → jn_X5_breathBy_91 81 (nI x) (nI p) (iI sl) (iI v4) (iI w0) (iI w1) (Z k m) = some (iI (min (mb : Int) (br + v4 - (w0 + w1 + (if hd = x ∧ ¬ (kd = 2 ∨ kd = 5) then 1 else 0) - (if 1 < p ∧ sl = -1 then 1 else 0)))), Z k m) := by
    intro v4 w0 w1 a1 a2 a3 a4 a5 a6
    unfold jn_X5_breathBy_91 jn_X5_breathBy_117
    rw [v1, zbd_s, iI_add]
    by_cases h1 : hd = x
    · rw [ifEt h1, hox, zbd_s]
      by_cases h2 : kd = 2 ∨ kd = 5
      · rw [if_pos h2, ifb1, if_neg (fun z => z.2 h2)]
        exact c2 v4 (w0 + w1) 0 (by omega) (by omega) (by omega) (by omega) (by omega) (by omega)
      · rw [if_neg h2, ifb0, if_pos ⟨h1, h2⟩]
        exact c2 v4 (w0 + w1) 1 (by omega) (by omega) (by omega) (by omega) (by omega) (by omega)
    · rw [ifEf h1 (by omega) (by omega), if_neg (fun z => h1 z.1)]
      exact c2 v4 (w0 + w1) 0 (by omega) (by omega) (by omega) (by omega) (by omega) (by omega)
  have c4 : ∀ v4 w0 : Int, -20 ≤ v4 → v4 ≤ 20 → -20 ≤ w0 → w0 ≤ 20 → jn_X5_breathBy_66 81 (nI x) (nI p) (iI sl) (iI v4) (iI w0) (Z k m) = some (iI (min (mb : Int) (if p = 0 then br + v4 - w0 else br + v4 - (w0 + (if 0 < sl ∧ ¬ (kd = 1 ∨ kd = 4) then sl else 0) + (if hd = x ∧ ¬ (kd = 2 ∨ kd = 5) then 1 else 0) - (if 1 < p ∧ sl = -1 then 1 else 0)))), Z k m) := by
    intro v4 w0 a1 a2 a3 a4
    unfold jn_X5_breathBy_66 jn_X5_breathBy_90
    by_cases h0 : p = 0
    · rw [if_neg (fun z => by have := (lL_0 (by omega)).mp z; omega), if_pos h0]
      exact c1 _ _ (by omega) (by omega) (by omega) (by omega)
    · rw [if_pos ((lL_0 (by omega)).mpr (by omega)), if_neg h0]
      by_cases h1 : 0 < sl
      · rw [if_pos ((jL_0 (by omega) (by omega)).mpr h1), hgo, zbd_s]
        by_cases h2 : kd = 1 ∨ kd = 4
        · rw [if_pos h2, ifb1, if_neg (fun z => z.2 h2)]
          exact c3 v4 w0 0 (by omega) (by omega) (by omega) (by omega) (by omega) (by omega)
        · rw [if_neg h2, ifb0, if_pos ⟨h1, h2⟩]
          exact c3 v4 w0 sl (by omega) (by omega) (by omega) (by omega) (by omega) (by omega)
      · rw [if_neg (fun z => h1 ((jL_0 (by omega) (by omega)).mp z)), if_neg (fun z => h1 z.1)]
        exact c3 v4 w0 0 (by omega) (by omega) (by omega) (by omega) (by omega) (by omega)
  have c5 : ∀ w0 : Int, -10 ≤ w0 → w0 ≤ 10 → jn_X5_breathBy_45 81 (nI x) (nI p) (iI sl) (iI w0) (Z k m) = jn_X5_breathBy_66 81 (nI x) (nI p) (iI sl) (iI w0) (iI (if p = 2 then 1 else if p = 3 then 3 else 0)) (Z k m) := by
    intro w0 a1 a2
    unfold jn_X5_breathBy_45
    by_cases h2 : p = 2
    · rw [if_pos ((nE_2 (by omega)).mpr h2), if_pos h2]; rfl
    · rw [if_neg (fun z => h2 ((nE_2 (by omega)).mp z)), if_neg h2]
      by_cases h3 : p = 3
      · rw [if_pos ((nE_3 (by omega)).mpr h3), if_pos h3]; rfl
      · rw [if_neg (fun z => h3 ((nE_3 (by omega)).mp z)), if_neg h3]; rfl
  unfold dn_X5_breathBy
  rw [ZO_5 s81, Option.bind_some, ZA_5_11 s81, Option.bind_some, nB_3, vy, zbd_s, Zl40 (show shp 88 = 7 from rfl) (by omega), Option.bind_some, hsl]
  rcases (show p = 0 ∨ p = 1 ∨ p = 2 ∨ p = 3 by omega) with rfl | rfl | rfl | rfl
  · rw [if_pos ((nE_0 (by omega)).mpr rfl), ZA_5_13 s81, Option.bind_some, Zl5 (show shp 89 = 6 from rfl) (by omega), Option.bind_some, hkd]
    by_cases h4 : kd = 4
    · rw [if_pos ((nE_4 (by omega)).mpr h4), show (3 : Int32) = iI 3 from rfl, c5 3 (by omega) (by omega), c4 _ _ (by omega) (by omega) (by simp) (by simp)]
      simp [h4]
    · rw [if_neg (fun z => h4 ((nE_4 (by omega)).mp z)), show (2 : Int32) = iI 2 from rfl, c5 2 (by omega) (by omega), c4 _ _ (by omega) (by omega) (by simp) (by simp)]
      simp [h4]
  all_goals
    rw [if_neg (fun z => by have := (nE_0 (by omega)).mp z; omega)]
  · rw [if_pos ((nE_1 (by omega)).mpr rfl), show (1 : Int32) = iI 1 from rfl, c5 1 (by omega) (by omega), c4 _ _ (by omega) (by omega) (by simp) (by simp)]
    simp
    congr 1
    split <;> split <;> omega
  · rw [if_neg (fun z => by have := (nE_1 (by omega)).mp z; omega), show (0 : Int32) = iI 0 from rfl, c5 0 (by omega) (by omega), c4 _ _ (by omega) (by omega) (by simp) (by simp)]
    congr 3
    simp
    split <;> split <;> split <;> (try split) <;> omega
  · rw [if_neg (fun z => by have := (nE_1 (by omega)).mp z; omega), show (0 : Int32) = iI 0 from rfl, c5 0 (by omega) (by omega), c4 _ _ (by omega) (by omega) (by simp) (by simp)]
    congr 3
    simp
    split <;> split <;> split <;> (try split) <;> omega
end
