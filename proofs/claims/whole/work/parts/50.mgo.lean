theorem s2 : shp 2 = 4 := rfl
theorem it_0 {α : Type} {a : Nat} {A B : α} (h : a < 0) : (if nI a < 0 then A else B) = A := if_pos ((nL_0 (by omega)).mpr h)
theorem if_0 {α : Type} {a : Nat} {A B : α} (h : ¬ a < 0) (ha : a < 2 ^ 31) : (if nI a < 0 then A else B) = B := if_neg (fun z => h ((nL_0 ha).mp z))
theorem jt_0 {α : Type} {a : Nat} {A B : α} (h : 0 < a) (ha : a < 2 ^ 31) : (if 0 < nI a then A else B) = A := if_pos ((lL_0 ha).mpr h)
theorem jf_0 {α : Type} {a : Nat} {A B : α} (h : ¬ 0 < a) : (if 0 < nI a then A else B) = B := if_neg (fun z => h ((lL_0 (by omega)).mp z))
theorem et_0 {α : Type} {a : Nat} {A B : α} (h : a = 0) : (if nI a = 0 then A else B) = A := if_pos ((nE_0 (by omega)).mpr h)
theorem ef_0 {α : Type} {a : Nat} {A B : α} (h : ¬ a = 0) (ha : a < 2 ^ 31) : (if nI a = 0 then A else B) = B := if_neg (fun z => h ((nE_0 ha).mp z))
theorem it_1 {α : Type} {a : Nat} {A B : α} (h : a < 1) : (if nI a < 1 then A else B) = A := if_pos ((nL_1 (by omega)).mpr h)
theorem if_1 {α : Type} {a : Nat} {A B : α} (h : ¬ a < 1) (ha : a < 2 ^ 31) : (if nI a < 1 then A else B) = B := if_neg (fun z => h ((nL_1 ha).mp z))
theorem jt_1 {α : Type} {a : Nat} {A B : α} (h : 1 < a) (ha : a < 2 ^ 31) : (if 1 < nI a then A else B) = A := if_pos ((lL_1 ha).mpr h)
theorem jf_1 {α : Type} {a : Nat} {A B : α} (h : ¬ 1 < a) : (if 1 < nI a then A else B) = B := if_neg (fun z => h ((lL_1 (by omega)).mp z))
theorem et_1 {α : Type} {a : Nat} {A B : α} (h : a = 1) : (if nI a = 1 then A else B) = A := if_pos ((nE_1 (by omega)).mpr h)
theorem ef_1 {α : Type} {a : Nat} {A B : α} (h : ¬ a = 1) (ha : a < 2 ^ 31) : (if nI a = 1 then A else B) = B := if_neg (fun z => h ((nE_1 ha).mp z))
theorem it_2 {α : Type} {a : Nat} {A B : α} (h : a < 2) : (if nI a < 2 then A else B) = A := if_pos ((nL_2 (by omega)).mpr h)
theorem if_2 {α : Type} {a : Nat} {A B : α} (h : ¬ a < 2) (ha : a < 2 ^ 31) : (if nI a < 2 then A else B) = B := if_neg (fun z => h ((nL_2 ha).mp z))
theorem jt_2 {α : Type} {a : Nat} {A B : α} (h : 2 < a) (ha : a < 2 ^ 31) : (if 2 < nI a then A else B) = A := if_pos ((lL_2 ha).mpr h)
theorem jf_2 {α : Type} {a : Nat} {A B : α} (h : ¬ 2 < a) : (if 2 < nI a then A else B) = B := if_neg (fun z => h ((lL_2 (by omega)).mp z))
theorem et_2 {α : Type} {a : Nat} {A B : α} (h : a = 2) : (if nI a = 2 then A else B) = A := if_pos ((nE_2 (by omega)).mpr h)
theorem ef_2 {α : Type} {a : Nat} {A B : α} (h : ¬ a = 2) (ha : a < 2 ^ 31) : (if nI a = 2 then A else B) = B := if_neg (fun z => h ((nE_2 ha).mp z))
theorem it_3 {α : Type} {a : Nat} {A B : α} (h : a < 3) : (if nI a < 3 then A else B) = A := if_pos ((nL_3 (by omega)).mpr h)
theorem if_3 {α : Type} {a : Nat} {A B : α} (h : ¬ a < 3) (ha : a < 2 ^ 31) : (if nI a < 3 then A else B) = B := if_neg (fun z => h ((nL_3 ha).mp z))
theorem jt_3 {α : Type} {a : Nat} {A B : α} (h : 3 < a) (ha : a < 2 ^ 31) : (if 3 < nI a then A else B) = A := if_pos ((lL_3 ha).mpr h)
theorem jf_3 {α : Type} {a : Nat} {A B : α} (h : ¬ 3 < a) : (if 3 < nI a then A else B) = B := if_neg (fun z => h ((lL_3 (by omega)).mp z))
theorem et_3 {α : Type} {a : Nat} {A B : α} (h : a = 3) : (if nI a = 3 then A else B) = A := if_pos ((nE_3 (by omega)).mpr h)
theorem ef_3 {α : Type} {a : Nat} {A B : α} (h : ¬ a = 3) (ha : a < 2 ^ 31) : (if nI a = 3 then A else B) = B := if_neg (fun z => h ((nE_3 ha).mp z))
theorem it_4 {α : Type} {a : Nat} {A B : α} (h : a < 4) : (if nI a < 4 then A else B) = A := if_pos ((nL_4 (by omega)).mpr h)
theorem if_4 {α : Type} {a : Nat} {A B : α} (h : ¬ a < 4) (ha : a < 2 ^ 31) : (if nI a < 4 then A else B) = B := if_neg (fun z => h ((nL_4 ha).mp z))
theorem jt_4 {α : Type} {a : Nat} {A B : α} (h : 4 < a) (ha : a < 2 ^ 31) : (if 4 < nI a then A else B) = A := if_pos ((lL_4 ha).mpr h)
theorem jf_4 {α : Type} {a : Nat} {A B : α} (h : ¬ 4 < a) : (if 4 < nI a then A else B) = B := if_neg (fun z => h ((lL_4 (by omega)).mp z))
theorem et_4 {α : Type} {a : Nat} {A B : α} (h : a = 4) : (if nI a = 4 then A else B) = A := if_pos ((nE_4 (by omega)).mpr h)
theorem ef_4 {α : Type} {a : Nat} {A B : α} (h : ¬ a = 4) (ha : a < 2 ^ 31) : (if nI a = 4 then A else B) = B := if_neg (fun z => h ((nE_4 ha).mp z))
theorem it_5 {α : Type} {a : Nat} {A B : α} (h : a < 5) : (if nI a < 5 then A else B) = A := if_pos ((nL_5 (by omega)).mpr h)
theorem if_5 {α : Type} {a : Nat} {A B : α} (h : ¬ a < 5) (ha : a < 2 ^ 31) : (if nI a < 5 then A else B) = B := if_neg (fun z => h ((nL_5 ha).mp z))
theorem jt_5 {α : Type} {a : Nat} {A B : α} (h : 5 < a) (ha : a < 2 ^ 31) : (if 5 < nI a then A else B) = A := if_pos ((lL_5 ha).mpr h)
theorem jf_5 {α : Type} {a : Nat} {A B : α} (h : ¬ 5 < a) : (if 5 < nI a then A else B) = B := if_neg (fun z => h ((lL_5 (by omega)).mp z))
theorem et_5 {α : Type} {a : Nat} {A B : α} (h : a = 5) : (if nI a = 5 then A else B) = A := if_pos ((nE_5 (by omega)).mpr h)
theorem ef_5 {α : Type} {a : Nat} {A B : α} (h : ¬ a = 5) (ha : a < 2 ^ 31) : (if nI a = 5 then A else B) = B := if_neg (fun z => h ((nE_5 ha).mp z))
theorem it_6 {α : Type} {a : Nat} {A B : α} (h : a < 6) : (if nI a < 6 then A else B) = A := if_pos ((nL_6 (by omega)).mpr h)
theorem if_6 {α : Type} {a : Nat} {A B : α} (h : ¬ a < 6) (ha : a < 2 ^ 31) : (if nI a < 6 then A else B) = B := if_neg (fun z => h ((nL_6 ha).mp z))
theorem jt_6 {α : Type} {a : Nat} {A B : α} (h : 6 < a) (ha : a < 2 ^ 31) : (if 6 < nI a then A else B) = A := if_pos ((lL_6 ha).mpr h)
theorem jf_6 {α : Type} {a : Nat} {A B : α} (h : ¬ 6 < a) : (if 6 < nI a then A else B) = B := if_neg (fun z => h ((lL_6 (by omega)).mp z))
theorem et_6 {α : Type} {a : Nat} {A B : α} (h : a = 6) : (if nI a = 6 then A else B) = A := if_pos ((nE_6 (by omega)).mpr h)
theorem ef_6 {α : Type} {a : Nat} {A B : α} (h : ¬ a = 6) (ha : a < 2 ^ 31) : (if nI a = 6 then A else B) = B := if_neg (fun z => h ((nE_6 ha).mp z))
theorem it_8 {α : Type} {a : Nat} {A B : α} (h : a < 8) : (if nI a < 8 then A else B) = A := if_pos ((nL_8 (by omega)).mpr h)
theorem if_8 {α : Type} {a : Nat} {A B : α} (h : ¬ a < 8) (ha : a < 2 ^ 31) : (if nI a < 8 then A else B) = B := if_neg (fun z => h ((nL_8 ha).mp z))
theorem jt_8 {α : Type} {a : Nat} {A B : α} (h : 8 < a) (ha : a < 2 ^ 31) : (if 8 < nI a then A else B) = A := if_pos ((lL_8 ha).mpr h)
theorem jf_8 {α : Type} {a : Nat} {A B : α} (h : ¬ 8 < a) : (if 8 < nI a then A else B) = B := if_neg (fun z => h ((lL_8 (by omega)).mp z))
theorem et_8 {α : Type} {a : Nat} {A B : α} (h : a = 8) : (if nI a = 8 then A else B) = A := if_pos ((nE_8 (by omega)).mpr h)
theorem ef_8 {α : Type} {a : Nat} {A B : α} (h : ¬ a = 8) (ha : a < 2 ^ 31) : (if nI a = 8 then A else B) = B := if_neg (fun z => h ((nE_8 ha).mp z))
theorem it_9 {α : Type} {a : Nat} {A B : α} (h : a < 9) : (if nI a < 9 then A else B) = A := if_pos ((nL_9 (by omega)).mpr h)
theorem if_9 {α : Type} {a : Nat} {A B : α} (h : ¬ a < 9) (ha : a < 2 ^ 31) : (if nI a < 9 then A else B) = B := if_neg (fun z => h ((nL_9 ha).mp z))
theorem jt_9 {α : Type} {a : Nat} {A B : α} (h : 9 < a) (ha : a < 2 ^ 31) : (if 9 < nI a then A else B) = A := if_pos ((lL_9 ha).mpr h)
theorem jf_9 {α : Type} {a : Nat} {A B : α} (h : ¬ 9 < a) : (if 9 < nI a then A else B) = B := if_neg (fun z => h ((lL_9 (by omega)).mp z))
theorem et_9 {α : Type} {a : Nat} {A B : α} (h : a = 9) : (if nI a = 9 then A else B) = A := if_pos ((nE_9 (by omega)).mpr h)
theorem ef_9 {α : Type} {a : Nat} {A B : α} (h : ¬ a = 9) (ha : a < 2 ^ 31) : (if nI a = 9 then A else B) = B := if_neg (fun z => h ((nE_9 ha).mp z))
theorem it_10 {α : Type} {a : Nat} {A B : α} (h : a < 10) : (if nI a < 10 then A else B) = A := if_pos ((nL_10 (by omega)).mpr h)
theorem if_10 {α : Type} {a : Nat} {A B : α} (h : ¬ a < 10) (ha : a < 2 ^ 31) : (if nI a < 10 then A else B) = B := if_neg (fun z => h ((nL_10 ha).mp z))
theorem jt_10 {α : Type} {a : Nat} {A B : α} (h : 10 < a) (ha : a < 2 ^ 31) : (if 10 < nI a then A else B) = A := if_pos ((lL_10 ha).mpr h)
theorem jf_10 {α : Type} {a : Nat} {A B : α} (h : ¬ 10 < a) : (if 10 < nI a then A else B) = B := if_neg (fun z => h ((lL_10 (by omega)).mp z))
theorem et_10 {α : Type} {a : Nat} {A B : α} (h : a = 10) : (if nI a = 10 then A else B) = A := if_pos ((nE_10 (by omega)).mpr h)
theorem ef_10 {α : Type} {a : Nat} {A B : α} (h : ¬ a = 10) (ha : a < 2 ^ 31) : (if nI a = 10 then A else B) = B := if_neg (fun z => h ((nE_10 ha).mp z))
theorem it_40 {α : Type} {a : Nat} {A B : α} (h : a < 40) : (if nI a < 40 then A else B) = A := if_pos ((nL_40 (by omega)).mpr h)
theorem if_40 {α : Type} {a : Nat} {A B : α} (h : ¬ a < 40) (ha : a < 2 ^ 31) : (if nI a < 40 then A else B) = B := if_neg (fun z => h ((nL_40 ha).mp z))
theorem jt_40 {α : Type} {a : Nat} {A B : α} (h : 40 < a) (ha : a < 2 ^ 31) : (if 40 < nI a then A else B) = A := if_pos ((lL_40 ha).mpr h)
theorem jf_40 {α : Type} {a : Nat} {A B : α} (h : ¬ 40 < a) : (if 40 < nI a then A else B) = B := if_neg (fun z => h ((lL_40 (by omega)).mp z))
theorem et_40 {α : Type} {a : Nat} {A B : α} (h : a = 40) : (if nI a = 40 then A else B) = A := if_pos ((nE_40 (by omega)).mpr h)
theorem ef_40 {α : Type} {a : Nat} {A B : α} (h : ¬ a = 40) (ha : a < 2 ^ 31) : (if nI a = 40 then A else B) = B := if_neg (fun z => h ((nE_40 ha).mp z))
theorem it_60 {α : Type} {a : Nat} {A B : α} (h : a < 60) : (if nI a < 60 then A else B) = A := if_pos ((nL_60 (by omega)).mpr h)
theorem if_60 {α : Type} {a : Nat} {A B : α} (h : ¬ a < 60) (ha : a < 2 ^ 31) : (if nI a < 60 then A else B) = B := if_neg (fun z => h ((nL_60 ha).mp z))
theorem jt_60 {α : Type} {a : Nat} {A B : α} (h : 60 < a) (ha : a < 2 ^ 31) : (if 60 < nI a then A else B) = A := if_pos ((lL_60 ha).mpr h)
theorem jf_60 {α : Type} {a : Nat} {A B : α} (h : ¬ 60 < a) : (if 60 < nI a then A else B) = B := if_neg (fun z => h ((lL_60 (by omega)).mp z))
theorem et_60 {α : Type} {a : Nat} {A B : α} (h : a = 60) : (if nI a = 60 then A else B) = A := if_pos ((nE_60 (by omega)).mpr h)
theorem ef_60 {α : Type} {a : Nat} {A B : α} (h : ¬ a = 60) (ha : a < 2 ^ 31) : (if nI a = 60 then A else B) = B := if_neg (fun z => h ((nE_60 ha).mp z))
theorem it_100 {α : Type} {a : Nat} {A B : α} (h : a < 100) : (if nI a < 100 then A else B) = A := if_pos ((nL_100 (by omega)).mpr h)
theorem if_100 {α : Type} {a : Nat} {A B : α} (h : ¬ a < 100) (ha : a < 2 ^ 31) : (if nI a < 100 then A else B) = B := if_neg (fun z => h ((nL_100 ha).mp z))
theorem jt_100 {α : Type} {a : Nat} {A B : α} (h : 100 < a) (ha : a < 2 ^ 31) : (if 100 < nI a then A else B) = A := if_pos ((lL_100 ha).mpr h)
theorem jf_100 {α : Type} {a : Nat} {A B : α} (h : ¬ 100 < a) : (if 100 < nI a then A else B) = B := if_neg (fun z => h ((lL_100 (by omega)).mp z))
theorem et_100 {α : Type} {a : Nat} {A B : α} (h : a = 100) : (if nI a = 100 then A else B) = A := if_pos ((nE_100 (by omega)).mpr h)
theorem ef_100 {α : Type} {a : Nat} {A B : α} (h : ¬ a = 100) (ha : a < 2 ^ 31) : (if nI a = 100 then A else B) = B := if_neg (fun z => h ((nE_100 ha).mp z))

theorem Ml_82 {k : zK} {m : Nat → Nat → Int32} {j : Nat} (hj : j < 6) : zaI 0 82 (nI j) (Z k m) = some (m 82 j) := Zld (a := 82) j (by decide) (by decide) rfl hj
theorem Ms_82 {k : zK} {m : Nat → Nat → Int32} {j : Nat} {v : Int32} (hj : j < 6) : zaS 0 82 (nI j) v (Z k m) = some (Z k (mu m 82 j v)) := Zst (a := 82) j (by decide) (by decide) rfl hj
theorem Ml_83 {k : zK} {m : Nat → Nat → Int32} {j : Nat} (hj : j < 6) : zaI 0 83 (nI j) (Z k m) = some (m 83 j) := Zld (a := 83) j (by decide) (by decide) rfl hj
theorem Ms_83 {k : zK} {m : Nat → Nat → Int32} {j : Nat} {v : Int32} (hj : j < 6) : zaS 0 83 (nI j) v (Z k m) = some (Z k (mu m 83 j v)) := Zst (a := 83) j (by decide) (by decide) rfl hj
theorem Ml_84 {k : zK} {m : Nat → Nat → Int32} {j : Nat} (hj : j < 360) : zaI 0 84 (nI j) (Z k m) = some (m 84 j) := Zld (a := 84) j (by decide) (by decide) rfl hj
theorem Ms_84 {k : zK} {m : Nat → Nat → Int32} {j : Nat} {v : Int32} (hj : j < 360) : zaS 0 84 (nI j) v (Z k m) = some (Z k (mu m 84 j v)) := Zst (a := 84) j (by decide) (by decide) rfl hj
theorem Ml_85 {k : zK} {m : Nat → Nat → Int32} {j : Nat} (hj : j < 60) : zaI 0 85 (nI j) (Z k m) = some (m 85 j) := Zld (a := 85) j (by decide) (by decide) rfl hj
theorem Ms_85 {k : zK} {m : Nat → Nat → Int32} {j : Nat} {v : Int32} (hj : j < 60) : zaS 0 85 (nI j) v (Z k m) = some (Z k (mu m 85 j v)) := Zst (a := 85) j (by decide) (by decide) rfl hj
theorem Ml_86 {k : zK} {m : Nat → Nat → Int32} {j : Nat} (hj : j < 4) : zaI 0 86 (nI j) (Z k m) = some (m 86 j) := Zld (a := 86) j (by decide) (by decide) rfl hj
theorem Ms_86 {k : zK} {m : Nat → Nat → Int32} {j : Nat} {v : Int32} (hj : j < 4) : zaS 0 86 (nI j) v (Z k m) = some (Z k (mu m 86 j v)) := Zst (a := 86) j (by decide) (by decide) rfl hj
theorem Ml_87 {k : zK} {m : Nat → Nat → Int32} {j : Nat} (hj : j < 400) : zaI 1 87 (nI j) (Z k m) = some (m 87 j) := Zld (a := 87) j (by decide) (by decide) rfl hj
theorem Ms_87 {k : zK} {m : Nat → Nat → Int32} {j : Nat} {v : Int32} (hj : j < 400) : zaS 1 87 (nI j) v (Z k m) = some (Z k (mu m 87 j v)) := Zst (a := 87) j (by decide) (by decide) rfl hj
theorem Ml_88 {k : zK} {m : Nat → Nat → Int32} {j : Nat} (hj : j < 40) : zaI 0 88 (nI j) (Z k m) = some (m 88 j) := Zld (a := 88) j (by decide) (by decide) rfl hj
theorem Ms_88 {k : zK} {m : Nat → Nat → Int32} {j : Nat} {v : Int32} (hj : j < 40) : zaS 0 88 (nI j) v (Z k m) = some (Z k (mu m 88 j v)) := Zst (a := 88) j (by decide) (by decide) rfl hj
theorem Ml_89 {k : zK} {m : Nat → Nat → Int32} {j : Nat} (hj : j < 5) : zaI 0 89 (nI j) (Z k m) = some (m 89 j) := Zld (a := 89) j (by decide) (by decide) rfl hj
theorem Ms_89 {k : zK} {m : Nat → Nat → Int32} {j : Nat} {v : Int32} (hj : j < 5) : zaS 0 89 (nI j) v (Z k m) = some (Z k (mu m 89 j v)) := Zst (a := 89) j (by decide) (by decide) rfl hj
theorem Ml_90 {k : zK} {m : Nat → Nat → Int32} {j : Nat} (hj : j < 5) : zaI 0 90 (nI j) (Z k m) = some (m 90 j) := Zld (a := 90) j (by decide) (by decide) rfl hj
theorem Ms_90 {k : zK} {m : Nat → Nat → Int32} {j : Nat} {v : Int32} (hj : j < 5) : zaS 0 90 (nI j) v (Z k m) = some (Z k (mu m 90 j v)) := Zst (a := 90) j (by decide) (by decide) rfl hj
theorem Ml_91 {k : zK} {m : Nat → Nat → Int32} {j : Nat} (hj : j < 5) : zaI 0 91 (nI j) (Z k m) = some (m 91 j) := Zld (a := 91) j (by decide) (by decide) rfl hj
theorem Ms_91 {k : zK} {m : Nat → Nat → Int32} {j : Nat} {v : Int32} (hj : j < 5) : zaS 0 91 (nI j) v (Z k m) = some (Z k (mu m 91 j v)) := Zst (a := 91) j (by decide) (by decide) rfl hj
theorem Ml_92 {k : zK} {m : Nat → Nat → Int32} {j : Nat} (hj : j < 5) : zaI 0 92 (nI j) (Z k m) = some (m 92 j) := Zld (a := 92) j (by decide) (by decide) rfl hj
theorem Ms_92 {k : zK} {m : Nat → Nat → Int32} {j : Nat} {v : Int32} (hj : j < 5) : zaS 0 92 (nI j) v (Z k m) = some (Z k (mu m 92 j v)) := Zst (a := 92) j (by decide) (by decide) rfl hj
theorem Ml_93 {k : zK} {m : Nat → Nat → Int32} {j : Nat} (hj : j < 40) : zaI 0 93 (nI j) (Z k m) = some (m 93 j) := Zld (a := 93) j (by decide) (by decide) rfl hj
theorem Ms_93 {k : zK} {m : Nat → Nat → Int32} {j : Nat} {v : Int32} (hj : j < 40) : zaS 0 93 (nI j) v (Z k m) = some (Z k (mu m 93 j v)) := Zst (a := 93) j (by decide) (by decide) rfl hj
theorem Ml_94 {k : zK} {m : Nat → Nat → Int32} {j : Nat} (hj : j < 40) : zaI 0 94 (nI j) (Z k m) = some (m 94 j) := Zld (a := 94) j (by decide) (by decide) rfl hj
theorem Ms_94 {k : zK} {m : Nat → Nat → Int32} {j : Nat} {v : Int32} (hj : j < 40) : zaS 0 94 (nI j) v (Z k m) = some (Z k (mu m 94 j v)) := Zst (a := 94) j (by decide) (by decide) rfl hj
theorem Ml_95 {k : zK} {m : Nat → Nat → Int32} {j : Nat} (hj : j < 5) : zaI 0 95 (nI j) (Z k m) = some (m 95 j) := Zld (a := 95) j (by decide) (by decide) rfl hj
theorem Ms_95 {k : zK} {m : Nat → Nat → Int32} {j : Nat} {v : Int32} (hj : j < 5) : zaS 0 95 (nI j) v (Z k m) = some (Z k (mu m 95 j v)) := Zst (a := 95) j (by decide) (by decide) rfl hj
theorem Ml_96 {k : zK} {m : Nat → Nat → Int32} {j : Nat} (hj : j < 5) : zaI 0 96 (nI j) (Z k m) = some (m 96 j) := Zld (a := 96) j (by decide) (by decide) rfl hj
theorem Ms_96 {k : zK} {m : Nat → Nat → Int32} {j : Nat} {v : Int32} (hj : j < 5) : zaS 0 96 (nI j) v (Z k m) = some (Z k (mu m 96 j v)) := Zst (a := 96) j (by decide) (by decide) rfl hj
theorem Ml_97 {k : zK} {m : Nat → Nat → Int32} {j : Nat} (hj : j < 5) : zaI 0 97 (nI j) (Z k m) = some (m 97 j) := Zld (a := 97) j (by decide) (by decide) rfl hj
theorem Ms_97 {k : zK} {m : Nat → Nat → Int32} {j : Nat} {v : Int32} (hj : j < 5) : zaS 0 97 (nI j) v (Z k m) = some (Z k (mu m 97 j v)) := Zst (a := 97) j (by decide) (by decide) rfl hj
theorem Ml_98 {k : zK} {m : Nat → Nat → Int32} {j : Nat} (hj : j < 40) : zaI 0 98 (nI j) (Z k m) = some (m 98 j) := Zld (a := 98) j (by decide) (by decide) rfl hj
theorem Ms_98 {k : zK} {m : Nat → Nat → Int32} {j : Nat} {v : Int32} (hj : j < 40) : zaS 0 98 (nI j) v (Z k m) = some (Z k (mu m 98 j v)) := Zst (a := 98) j (by decide) (by decide) rfl hj
theorem Ml_99 {k : zK} {m : Nat → Nat → Int32} {j : Nat} (hj : j < 4) : zaI 2 99 (nI j) (Z k m) = some (m 99 j) := Zld (a := 99) j (by decide) (by decide) rfl hj
theorem Ms_99 {k : zK} {m : Nat → Nat → Int32} {j : Nat} {v : Int32} (hj : j < 4) : zaS 2 99 (nI j) v (Z k m) = some (Z k (mu m 99 j v)) := Zst (a := 99) j (by decide) (by decide) rfl hj
theorem Ml_100 {k : zK} {m : Nat → Nat → Int32} {j : Nat} (hj : j < 165) : zaI 0 100 (nI j) (Z k m) = some (m 100 j) := Zld (a := 100) j (by decide) (by decide) rfl hj
theorem Ms_100 {k : zK} {m : Nat → Nat → Int32} {j : Nat} {v : Int32} (hj : j < 165) : zaS 0 100 (nI j) v (Z k m) = some (Z k (mu m 100 j v)) := Zst (a := 100) j (by decide) (by decide) rfl hj
theorem Ml_101 {k : zK} {m : Nat → Nat → Int32} {j : Nat} (hj : j < 5) : zaI 0 101 (nI j) (Z k m) = some (m 101 j) := Zld (a := 101) j (by decide) (by decide) rfl hj
theorem Ms_101 {k : zK} {m : Nat → Nat → Int32} {j : Nat} {v : Int32} (hj : j < 5) : zaS 0 101 (nI j) v (Z k m) = some (Z k (mu m 101 j v)) := Zst (a := 101) j (by decide) (by decide) rfl hj
theorem Ml_102 {k : zK} {m : Nat → Nat → Int32} {j : Nat} (hj : j < 20) : zaI 0 102 (nI j) (Z k m) = some (m 102 j) := Zld (a := 102) j (by decide) (by decide) rfl hj
theorem Ms_102 {k : zK} {m : Nat → Nat → Int32} {j : Nat} {v : Int32} (hj : j < 20) : zaS 0 102 (nI j) v (Z k m) = some (Z k (mu m 102 j v)) := Zst (a := 102) j (by decide) (by decide) rfl hj
theorem Ml_103 {k : zK} {m : Nat → Nat → Int32} {j : Nat} (hj : j < 256) : zaI 0 103 (nI j) (Z k m) = some (m 103 j) := Zld (a := 103) j (by decide) (by decide) rfl hj
theorem Ms_103 {k : zK} {m : Nat → Nat → Int32} {j : Nat} {v : Int32} (hj : j < 256) : zaS 0 103 (nI j) v (Z k m) = some (Z k (mu m 103 j v)) := Zst (a := 103) j (by decide) (by decide) rfl hj
theorem Ml_34 {k : zK} {m : Nat → Nat → Int32} {j : Nat} (hj : j < 6) : zaI 0 34 (nI j) (Z k m) = some (m 34 j) := Zld (a := 34) j (by decide) (by decide) rfl hj
theorem Ms_34 {k : zK} {m : Nat → Nat → Int32} {j : Nat} {v : Int32} (hj : j < 6) : zaS 0 34 (nI j) v (Z k m) = some (Z k (mu m 34 j v)) := Zst (a := 34) j (by decide) (by decide) rfl hj
theorem Ml_35 {k : zK} {m : Nat → Nat → Int32} {j : Nat} (hj : j < 5) : zaI 0 35 (nI j) (Z k m) = some (m 35 j) := Zld (a := 35) j (by decide) (by decide) rfl hj
theorem Ms_35 {k : zK} {m : Nat → Nat → Int32} {j : Nat} {v : Int32} (hj : j < 5) : zaS 0 35 (nI j) v (Z k m) = some (Z k (mu m 35 j v)) := Zst (a := 35) j (by decide) (by decide) rfl hj
theorem Ml_36 {k : zK} {m : Nat → Nat → Int32} {j : Nat} (hj : j < 5) : zaI 0 36 (nI j) (Z k m) = some (m 36 j) := Zld (a := 36) j (by decide) (by decide) rfl hj
theorem Ms_36 {k : zK} {m : Nat → Nat → Int32} {j : Nat} {v : Int32} (hj : j < 5) : zaS 0 36 (nI j) v (Z k m) = some (Z k (mu m 36 j v)) := Zst (a := 36) j (by decide) (by decide) rfl hj
theorem Ml_37 {k : zK} {m : Nat → Nat → Int32} {j : Nat} (hj : j < 5) : zaI 0 37 (nI j) (Z k m) = some (m 37 j) := Zld (a := 37) j (by decide) (by decide) rfl hj
theorem Ms_37 {k : zK} {m : Nat → Nat → Int32} {j : Nat} {v : Int32} (hj : j < 5) : zaS 0 37 (nI j) v (Z k m) = some (Z k (mu m 37 j v)) := Zst (a := 37) j (by decide) (by decide) rfl hj
theorem Ml_38 {k : zK} {m : Nat → Nat → Int32} {j : Nat} (hj : j < 5) : zaI 0 38 (nI j) (Z k m) = some (m 38 j) := Zld (a := 38) j (by decide) (by decide) rfl hj
theorem Ms_38 {k : zK} {m : Nat → Nat → Int32} {j : Nat} {v : Int32} (hj : j < 5) : zaS 0 38 (nI j) v (Z k m) = some (Z k (mu m 38 j v)) := Zst (a := 38) j (by decide) (by decide) rfl hj
theorem Ml_39 {k : zK} {m : Nat → Nat → Int32} {j : Nat} (hj : j < 256) : zaI 0 39 (nI j) (Z k m) = some (m 39 j) := Zld (a := 39) j (by decide) (by decide) rfl hj
theorem Ms_39 {k : zK} {m : Nat → Nat → Int32} {j : Nat} {v : Int32} (hj : j < 256) : zaS 0 39 (nI j) v (Z k m) = some (Z k (mu m 39 j v)) := Zst (a := 39) j (by decide) (by decide) rfl hj

section
variable {k : zK} {m : Nat → Nat → Int32} {q : Nat} {H : zHD} {R : zRS}
theorem va_up_id {α : Type} (f : Nat → α) (x : Nat) : va_up f x (f x) = f := by funext j; by_cases hj : j = x <;> simp [va_up, hj]
theorem M_lesN {a b : Nat} {h : zAH} (ha : a < 2 ^ 31) (hb : b < 2 ^ 31) : dn_X5_lesser (nI a) (nI b) h = some (nI (min a b), h) := by
  unfold dn_X5_lesser jn_X5_lesser_10
  simp only [nL ha hb]
  by_cases hl : a < b
  · rw [if_pos hl, Nat.min_eq_left (by omega)]
  · rw [if_neg hl, Nat.min_eq_right (by omega)]
theorem M_greN {a b : Nat} {h : zAH} (ha : a < 2 ^ 31) (hb : b < 2 ^ 31) : dn_X5_greater (nI a) (nI b) h = some (nI (max a b), h) := by
  unfold dn_X5_greater jn_X5_greater_10
  simp only [nL hb ha]
  by_cases hl : b < a
  · rw [if_pos hl, Nat.max_eq_left (by omega)]
  · rw [if_neg hl, Nat.max_eq_right (by omega)]
theorem M_goesOn {x lw w : Nat} (hO : okH H) (hG : encG H m) (hM : zMq q lw m) (hlw : lw ≤ 2) (hE : encM q H R m) (hok : okR H R) (hx : x < hN H) (hdn : rDn R x = -9) (hw : w ≤ 3) (hwant : dn_X5_wanted 81 (nI x) (Z k m) = some (nI w, Z k m)) : ∃ m', dn_X5_goesOn 81 (nI x) (Z k m) = some ((), Z k m') ∧ encM q H (goS H lw R x w) m' ∧ zFm q m m' := by
  have hN5 := hO.2.1
  have h40 := hO.1
  have hq := hE.1
  have hb := hM.1
  have hk5 := (hO.2.2.2 x hx).1
  obtain ⟨o1, o2, o3⟩ := id hok
  obtain ⟨d1, d2, d3, d4, d5, d6⟩ := o3 x hx
  have hy : rYd R x < hY H := d1.mp hdn
  obtain ⟨hs1, hs2⟩ := hO.2.2.1 _ hy
  have hh : rHd R < hN H := by rcases o2 with z | z <;> omega
  have hkd : m 89 x = nI (hK H x) := (hG.2.2.2 x hx).1
  have hp3 := paceS_le (H := H) (R := R) (x := x) hw
  have hf4 := farS_le (H := H) (R := R) (x := x) hw
  have hpo : 0 ≤ bAf H R x (paceS H R x w) := pcS_ok _
  have hbd := bAf_bd (p := paceS H R x w) hO hok hx hy
  have hloop : ∀ p, p ≤ 3 → lp_X5_goesOn_27 81 (nI x) (nI p) (Z k m) = jn_X5_goesOn_42 81 (nI x) (nI (pcS H R x p)) (Z k m) := fun p hp => M_go27 hO hG hb hE hok hx hy p 2000 hp (by omega)
  have hpre : dn_X5_goesOn 81 (nI x) (Z k m) = jn_X5_goesOn_42 81 (nI x) (nI (paceS H R x w)) (Z k m) := by
    unfold dn_X5_goesOn jn_X5_goesOn_25 jn_X5_goesOn_26 paceS
    (repeat (first | rw [Option.bind_some] | rw [zbd_s] | rw [hwant] | rw [hkd] | rw [ifb0] | rw [ifb1] | rw [ZO_5 s81] | rw [ZI_5_0 s81] | rw [ZI_5_2 s81] | rw [ZI_5_10 s81] | rw [ZI_5_12 s81] | rw [ZI_5_18 s81] | rw [ZI_5_19 s81] | rw [ZI_5_20 s81] | rw [ZI_5_21 s81] | rw [ZI_5_29 s81] | rw [ZI_5_30 s81] | rw [ZI_5_34 s81] | rw [ZI_5_35 s81] | rw [ZA_5_1 s81] | rw [ZA_5_5 s81] | rw [ZA_5_6 s81] | rw [ZA_5_7 s81] | rw [ZA_5_8 s81] | rw [ZA_5_9 s81] | rw [ZA_5_11 s81] | rw [ZA_5_13 s81] | rw [ZA_5_14 s81] | rw [ZA_5_15 s81] | rw [ZA_5_16 s81] | rw [ZA_5_17 s81] | rw [ZA_5_22 s81] | rw [ZA_5_23 s81] | rw [ZA_5_24 s81] | rw [ZA_5_25 s81] | rw [ZA_5_26 s81] | rw [ZA_5_27 s81] | rw [ZA_5_28 s81] | rw [ZA_5_31 s81] | rw [ZA_5_32 s81] | rw [ZA_5_33 s81] | rw [ZP_5_0 s81] | rw [ZP_5_2 s81] | rw [ZP_5_10 s81] | rw [ZP_5_12 s81] | rw [ZP_5_18 s81] | rw [ZP_5_19 s81] | rw [ZP_5_20 s81] | rw [ZP_5_21 s81] | rw [ZP_5_29 s81] | rw [ZP_5_30 s81] | rw [ZP_5_34 s81] | rw [ZP_5_35 s81] | rw [Ml_82 (by omega)] | rw [Ml_83 (by omega)] | rw [Ml_84 (by omega)] | rw [Ml_85 (by omega)] | rw [Ml_86 (by omega)] | rw [Ml_87 (by omega)] | rw [Ml_88 (by omega)] | rw [Ml_89 (by omega)] | rw [Ml_90 (by omega)] | rw [Ml_91 (by omega)] | rw [Ml_92 (by omega)] | rw [Ml_93 (by omega)] | rw [Ml_94 (by omega)] | rw [Ml_95 (by omega)] | rw [Ml_96 (by omega)] | rw [Ml_97 (by omega)] | rw [Ml_98 (by omega)] | rw [Ml_99 (by omega)] | rw [Ml_100 (by omega)] | rw [Ml_101 (by omega)] | rw [Ml_102 (by omega)] | rw [Ml_103 (by omega)] | rw [Ms_82 (by omega)] | rw [Ms_83 (by omega)] | rw [Ms_84 (by omega)] | rw [Ms_85 (by omega)] | rw [Ms_86 (by omega)] | rw [Ms_87 (by omega)] | rw [Ms_88 (by omega)] | rw [Ms_89 (by omega)] | rw [Ms_90 (by omega)] | rw [Ms_91 (by omega)] | rw [Ms_92 (by omega)] | rw [Ms_93 (by omega)] | rw [Ms_94 (by omega)] | rw [Ms_95 (by omega)] | rw [Ms_96 (by omega)] | rw [Ms_97 (by omega)] | rw [Ms_98 (by omega)] | rw [Ms_99 (by omega)] | rw [Ms_100 (by omega)] | rw [Ms_101 (by omega)] | rw [Ms_102 (by omega)] | rw [Ms_103 (by omega)]))
    by_cases h5 : hK H x = 5
    · rw [et_5 h5]
      by_cases h3 : w = 3
      · rw [et_3 h3, if_pos ⟨h5, h3⟩]
        exact hloop 2 (by omega)
      · rw [ef_3 h3 (by omega), if_neg (fun z => h3 z.2)]
        exact hloop w hw
    · rw [ef_5 h5 (by omega), if_neg (fun z => h5 z.1)]
      exact hloop w hw
  generalize hB : min (rMb R x) (bAf H R x (paceS H R x w)).toNat = B at *
  have hbB : dn_X5_breathBy 81 (nI x) (nI (paceS H R x w)) (Z k m) = some (nI B, Z k m) := by
    rw [M_breathBy hO hG hb hE hok hx hy hp3, iI_nI]
    congr 3
    omega
  have hB10 : B ≤ 10 := by omega
  have h69 : jn_X5_goesOn_42 81 (nI x) (nI (paceS H R x w)) (Z k m) = jn_X5_goesOn_69 81 (nI x) (nI B) (nI (farS H R x w)) (Z k m) := by
    unfold jn_X5_goesOn_42 jn_X5_goesOn_68 farS
    (repeat (first | rw [Option.bind_some] | rw [zbd_s] | rw [hbB] | rw [hkd] | rw [ifb0] | rw [ifb1] | rw [ZO_5 s81] | rw [ZI_5_0 s81] | rw [ZI_5_2 s81] | rw [ZI_5_10 s81] | rw [ZI_5_12 s81] | rw [ZI_5_18 s81] | rw [ZI_5_19 s81] | rw [ZI_5_20 s81] | rw [ZI_5_21 s81] | rw [ZI_5_29 s81] | rw [ZI_5_30 s81] | rw [ZI_5_34 s81] | rw [ZI_5_35 s81] | rw [ZA_5_1 s81] | rw [ZA_5_5 s81] | rw [ZA_5_6 s81] | rw [ZA_5_7 s81] | rw [ZA_5_8 s81] | rw [ZA_5_9 s81] | rw [ZA_5_11 s81] | rw [ZA_5_13 s81] | rw [ZA_5_14 s81] | rw [ZA_5_15 s81] | rw [ZA_5_16 s81] | rw [ZA_5_17 s81] | rw [ZA_5_22 s81] | rw [ZA_5_23 s81] | rw [ZA_5_24 s81] | rw [ZA_5_25 s81] | rw [ZA_5_26 s81] | rw [ZA_5_27 s81] | rw [ZA_5_28 s81] | rw [ZA_5_31 s81] | rw [ZA_5_32 s81] | rw [ZA_5_33 s81] | rw [ZP_5_0 s81] | rw [ZP_5_2 s81] | rw [ZP_5_10 s81] | rw [ZP_5_12 s81] | rw [ZP_5_18 s81] | rw [ZP_5_19 s81] | rw [ZP_5_20 s81] | rw [ZP_5_21 s81] | rw [ZP_5_29 s81] | rw [ZP_5_30 s81] | rw [ZP_5_34 s81] | rw [ZP_5_35 s81] | rw [Ml_82 (by omega)] | rw [Ml_83 (by omega)] | rw [Ml_84 (by omega)] | rw [Ml_85 (by omega)] | rw [Ml_86 (by omega)] | rw [Ml_87 (by omega)] | rw [Ml_88 (by omega)] | rw [Ml_89 (by omega)] | rw [Ml_90 (by omega)] | rw [Ml_91 (by omega)] | rw [Ml_92 (by omega)] | rw [Ml_93 (by omega)] | rw [Ml_94 (by omega)] | rw [Ml_95 (by omega)] | rw [Ml_96 (by omega)] | rw [Ml_97 (by omega)] | rw [Ml_98 (by omega)] | rw [Ml_99 (by omega)] | rw [Ml_100 (by omega)] | rw [Ml_101 (by omega)] | rw [Ml_102 (by omega)] | rw [Ml_103 (by omega)] | rw [Ms_82 (by omega)] | rw [Ms_83 (by omega)] | rw [Ms_84 (by omega)] | rw [Ms_85 (by omega)] | rw [Ms_86 (by omega)] | rw [Ms_87 (by omega)] | rw [Ms_88 (by omega)] | rw [Ms_89 (by omega)] | rw [Ms_90 (by omega)] | rw [Ms_91 (by omega)] | rw [Ms_92 (by omega)] | rw [Ms_93 (by omega)] | rw [Ms_94 (by omega)] | rw [Ms_95 (by omega)] | rw [Ms_96 (by omega)] | rw [Ms_97 (by omega)] | rw [Ms_98 (by omega)] | rw [Ms_99 (by omega)] | rw [Ms_100 (by omega)] | rw [Ms_101 (by omega)] | rw [Ms_102 (by omega)] | rw [Ms_103 (by omega)]))
    by_cases h3 : hK H x = 3
    · rw [et_3 h3]
      by_cases hp : paceS H R x w = 3
      · rw [et_3 hp, if_pos ⟨h3, hp⟩]
        rfl
      · rw [ef_3 hp (by omega), if_neg (fun z => hp z.2)]
    · rw [ef_3 h3 (by omega), if_neg (fun z => h3 z.1)]
  rw [hpre, h69]
  clear hpre h69 hbB hloop hwant
  have hyv : m 100 (q + (3 + x)) = nI (rYd R x) := (hE.2.2.2.2 x hx).1
  have hE1 := G_br x (by omega) B hN5 hE
  have hF1 : zFm q m (mu m 100 (q + (8 + x)) (nI B)) := zFm.mu (by omega)
  generalize hm1 : mu m 100 (q + (8 + x)) (nI B) = m1 at *
  have hM1 := hM.fr hF1
  have hG1 := encG_fr hG hF1
  have hcv : m1 100 (q + (18 + x)) = rCr R x := (hE1.2.2.2.2 x hx).2.2.2.1
  have hhv : m1 100 (q + 1) = nI (rHd R) := hE1.2.2.1
  have hE2 := G_cr x (by omega) (if rHd R = x then rCr R x + nI (min (rYd R x + farS H R x w) (hY H) - rYd R x) else rCr R x) hN5 hE1
  have hF2 : zFm q m1 (mu m1 100 (q + (18 + x)) (if rHd R = x then rCr R x + nI (min (rYd R x + farS H R x w) (hY H) - rYd R x) else rCr R x)) := zFm.mu (by omega)
  generalize hm2 : mu m1 100 (q + (18 + x)) (if rHd R = x then rCr R x + nI (min (rYd R x + farS H R x w) (hY H) - rYd R x) else rCr R x) = m2 at *
  have hM2 := hM1.fr hF2
  have hG2 := encG_fr hG1 hF2
  have h127 : jn_X5_goesOn_69 81 (nI x) (nI B) (nI (farS H R x w)) (Z k m) = lp_X5_goesOn_135 81 (nI x) (nI (farS H R x w)) (nI (rYd R x)) (nI (rYd R x)) (Z k m2) := by
    unfold jn_X5_goesOn_69 jn_X5_goesOn_127
    rw [nB_3, M_v hb (by omega), zbd_s, hyv, nB_8, M_put hb (by omega), zbd_s, hm1, nB_18, M_v hM1.1 (by omega), zbd_s, hcv, M_v1 hM1.1 hq, zbd_s, hhv]
    by_cases hhx : rHd R = x
    · have hY1 : m1 81 10 = nI (hY H) := hG1.1
      rw [ifEt hhx, ZI_5_10 s81, Option.bind_some, hY1, pk_sub (by omega), M_lesN (by omega) (by omega), zbd_s, M_put hM1.1 (by omega), zbd_s]
      rw [if_pos hhx] at hm2
      rw [← hm2, show min (farS H R x w) (hY H - rYd R x) = min (rYd R x + farS H R x w) (hY H) - rYd R x by omega]
    · rw [ifEf hhx (by omega) (by omega), M_put hM1.1 (by omega), zbd_s]
      rw [if_neg hhx] at hm2
      rw [← hm2, Int32.add_zero]
  rw [h127]
  clear h127
  have hsl : m2 88 (rYd R x) = iI (hS H (rYd R x)) := hG2.2.2.1 _ hy
  have hE2' : encM q H (setT (rSt R, rHd R, rPs R, rYd R, va_up (rBr R) x B, rMb R, rDn R, va_up (rCr R) x (if rHd R = x then rCr R x + nI (min (rYd R x + farS H R x w) (hY H) - rYd R x) else rCr R x), rPb R) x (psY (rYd R) (rDn R) lw x (hS H (rYd R x)) (hN H) (rYd R x) 0 (rPs R, rPb R x, rHd R))) m2 := by
    show encM q H (rSt R, rHd R, rPs R, rYd R, va_up (rBr R) x B, rMb R, rDn R, va_up (rCr R) x (if rHd R = x then rCr R x + nI (min (rYd R x + farS H R x w) (hY H) - rYd R x) else rCr R x), va_up (rPb R) x (rPb R x)) m2
    rw [va_up_id]
    exact hE2
  obtain ⟨m3, r1, r2, r3⟩ := M_go135 (k := k) (q := q) (R := (rSt R, rHd R, rPs R, rYd R, va_up (rBr R) x B, rMb R, rDn R, va_up (rCr R) x (if rHd R = x then rCr R x + nI (min (rYd R x + farS H R x w) (hY H) - rYd R x) else rCr R x), rPb R)) (far := farS H R x w) (fr := rYd R x) (lw := lw) (sl := hS H (rYd R x)) (t0 := (rPs R, rPb R x, rHd R)) hN5 h40 hx hlw hs1 hs2 hy hf4 hh (fun o ho => (o3 o ho).2.2.1) (farS H R x w) 0 m2 2000 (by omega) (by omega) hG2 hsl hM2 hE2'
  have r1' : lp_X5_goesOn_135 81 (nI x) (nI (farS H R x w)) (nI (rYd R x)) (nI (rYd R x)) (Z k m2) = jn_X5_goesOn_206 81 (nI x) (nI (farS H R x w)) (nI (rYd R x)) (Z k m3) := r1
  rw [r1']
  have hM3 := hM2.fr r3
  have hG3 := encG_fr hG2 r3
  have hE4 := G_yd x (by omega) (rYd R x + farS H R x w) hN5 r2
  have hF4 : zFm q m3 (mu m3 100 (q + (3 + x)) (nI (rYd R x + farS H R x w))) := zFm.mu (by omega)
  generalize hm4 : mu m3 100 (q + (3 + x)) (nI (rYd R x + farS H R x w)) = m4 at *
  have hM4 := hM3.fr hF4
  have hG4 := encG_fr hG3 hF4
  have hY4 : m4 81 10 = nI (hY H) := hG4.1
  have hst : m4 100 (q + 0) = nI (rSt R) := hE4.2.1
  have hE5 := G_dn x (by omega) (if rYd R x + farS H R x w < hY H then -9 else nI (rSt R)) hN5 hE4
  have hF5 : zFm q m4 (mu m4 100 (q + (13 + x)) (if rYd R x + farS H R x w < hY H then -9 else nI (rSt R))) := zFm.mu (by omega)
  refine ⟨mu m4 100 (q + (13 + x)) (if rYd R x + farS H R x w < hY H then -9 else nI (rSt R)), ?_, (by unfold goS; rw [hB]; exact hE5), zFm.tr hF1 (zFm.tr hF2 (zFm.tr r3 (zFm.tr hF4 hF5)))⟩
  unfold jn_X5_goesOn_206 jn_X5_goesOn_245
  rw [nI_add, nB_3, M_put hM3.1 (by omega), zbd_s, hm4, ZI_5_10 s81, Option.bind_some, hY4]
  by_cases hlt : rYd R x + farS H R x w < hY H
  · rw [ifLt hlt (by omega), nB_13, M_put hM4.1 (by omega), zbd_s, if_pos hlt]
  · rw [ifLf (by omega) (by omega), M_v0 hM4.1 hq, zbd_s, hst, nB_13, M_put hM4.1 (by omega), zbd_s, if_neg hlt]
/-- which PACES the reference takes -/
def wfM (H : zHD) (st : Nat) (wf : Nat → Nat) (m : Nat → Nat → Int32) : Prop := ∀ x, x < hN H → (m 101 x = 0 ∧ wf x = hP H x (st % hZ H x)) ∨ ∃ cf kk, cf ≤ 60 ∧ kk ≤ 4 ∧ m 81 30 = nI cf ∧ m 101 x = nI kk ∧ ((¬ (cf ≤ st ∧ st < cf + kk) ∧ wf x = hP H x (st % hZ H x)) ∨ (cf ≤ st ∧ st < cf + kk ∧ wf x ≤ 3 ∧ m 102 (4 * x + (st - cf)) = nI (wf x)))
theorem wfM.fr {st : Nat} {wf : Nat → Nat} {m' : Nat → Nat → Int32} (h : wfM H st wf m) (hf : zFm q m m') : wfM H st wf m' := by
  unfold wfM
  rw [hf.1 81 (by decide), hf.1 101 (by decide), hf.1 102 (by decide)]
  exact h
theorem M_in {a b c : Nat} {h : zAH} (ha : a < 2 ^ 31) (hb : b < 2 ^ 31) (hc : c < 2 ^ 31) : dn_X5_in (nI a) (nI b) (nI c) h = some (if b ≤ a ∧ a ≤ c then 1 else 0, h) := by
  unfold dn_X5_in jn_X5_in_14
  simp only [nL ha hb, nL hc ha]
  have e0 : jn_X5_in_15 0 h = some (0, h) := rfl
  have e1 : jn_X5_in_15 1 h = some (1, h) := rfl
  by_cases h1 : a < b
  · rw [if_pos h1, e0, if_neg (fun z => by omega)]
  · rw [if_neg h1]
    by_cases h2 : c < a
    · rw [if_pos h2, e0, if_neg (fun z => by omega)]
    · rw [if_neg h2, e1, if_pos ⟨by omega, by omega⟩]
theorem M_inI {a b c : Int} {h : zAH} (a1 : -2 ^ 31 ≤ a) (a2 : a < 2 ^ 31) (b1 : -2 ^ 31 ≤ b) (b2 : b < 2 ^ 31) (c1 : -2 ^ 31 ≤ c) (c2 : c < 2 ^ 31) : dn_X5_in (iI a) (iI b) (iI c) h = some (if b ≤ a ∧ a ≤ c then 1 else 0, h) := by
  unfold dn_X5_in jn_X5_in_14
  simp only [iI_lt a1 a2 b1 b2, iI_lt c1 c2 a1 a2]
  have e0 : jn_X5_in_15 0 h = some (0, h) := rfl
  have e1 : jn_X5_in_15 1 h = some (1, h) := rfl
  by_cases h1 : a < b
  · rw [if_pos h1, e0, if_neg (fun z => by omega)]
  · rw [if_neg h1]
    by_cases h2 : c < a
    · rw [if_pos h2, e0, if_neg (fun z => by omega)]
    · rw [if_neg h2, e1, if_pos ⟨by omega, by omega⟩]
theorem M_wanted {x : Nat} {wf : Nat → Nat} (hO : okH H) (hG : encG H m) (hb : m 81 29 = nI q) (hE : encM q H R m) (hok : okR H R) (hx : x < hN H) (hwf : wfM H (rSt R) wf m) : dn_X5_wanted 81 (nI x) (Z k m) = some (nI (wf x), Z k m) := by
  have hN5 := hO.2.1
  have hq := hE.1
  have hst := hok.1
  obtain ⟨-, z1, z2, z3⟩ := hO.2.2.2 x hx
  obtain ⟨-, g1, g2⟩ := hG.2.2.2 x hx
  have v0 : dn_X5_v 81 0 (Z k m) = some (nI (rSt R), Z k m) := by rw [M_v0 hb hq, hE.2.1]
  rcases hwf x hx with ⟨e101, h2⟩ | ⟨cf, kk, hcf, hkk, e30, e101, hw⟩
  · have h9 := M_inI (a := (nI (rSt R) - m 81 30).toInt) (b := 0) (c := -1) (h := Z k m) (Int32.le_toInt _) (by have := Int32.toInt_lt (nI (rSt R) - m 81 30); omega) (by omega) (by omega) (by omega) (by omega)
    rw [show iI (nI (rSt R) - m 81 30).toInt = nI (rSt R) - m 81 30 by rw [← Int32.toInt_inj, iI_toInt (Int32.le_toInt _) (by have := Int32.toInt_lt (nI (rSt R) - m 81 30); omega)], if_neg (by omega)] at h9
    have hin : dn_X5_in (nI (rSt R) - m 81 30) 0 ((0 : Int32) - 1) (Z k m) = some (0, Z k m) := h9
    have hm := Nat.mod_lt (rSt R) (show 0 < hZ H x by omega)
    unfold dn_X5_wanted jn_X5_wanted_62
    rw [ZO_5 s81, Option.bind_some, v0, zbd_s, ZI_5_30 s81, Option.bind_some, ZA_5_31 s81, Option.bind_some, Ml_101 (by omega), Option.bind_some, e101, hin, zbd_s, ifb0, ZA_5_17 s81, Option.bind_some, v0, zbd_s, ZA_5_16 s81, Option.bind_some, Ml_92 (by omega), Option.bind_some, g1, ef_0 (by omega) (by omega), nMod (by omega) (by omega) (by omega), nM_8, nI_add, Ml_93 (by omega), Option.bind_some, g2 _ hm, h2]
  have hin : dn_X5_in (nI (rSt R) - nI cf) 0 (nI kk - 1) (Z k m) = some (if cf ≤ rSt R ∧ rSt R < cf + kk then 1 else 0, Z k m) := by
    have h9 := M_inI (a := (rSt R : Int) - cf) (b := 0) (c := (kk : Int) - 1) (h := Z k m) (by omega) (by omega) (by omega) (by omega) (by omega) (by omega)
    rw [← iI_sub, ← iI_sub, ← iI_nI, ← iI_nI, ← iI_nI] at h9
    refine Eq.trans h9 ?_
    congr 3
    exact propext ⟨fun z => by omega, fun z => by omega⟩
  unfold dn_X5_wanted jn_X5_wanted_62
  rw [ZO_5 s81, Option.bind_some, v0, zbd_s, ZI_5_30 s81, Option.bind_some, e30, ZA_5_31 s81, Option.bind_some, Ml_101 (by omega), Option.bind_some, e101, hin, zbd_s]
  rcases hw with ⟨h1, h2⟩ | ⟨h1, h1', h2, h3⟩
  · have hm := Nat.mod_lt (rSt R) (show 0 < hZ H x by omega)
    rw [if_neg h1, ifb0, ZA_5_17 s81, Option.bind_some, v0, zbd_s, ZA_5_16 s81, Option.bind_some, Ml_92 (by omega), Option.bind_some, g1, ef_0 (by omega) (by omega), nMod (by omega) (by omega) (by omega), nM_8, nI_add, Ml_93 (by omega), Option.bind_some, g2 _ hm, h2]
  · rw [if_pos (show cf ≤ rSt R ∧ rSt R < cf + kk from ⟨h1, h1'⟩), ifb1, ZA_5_32 s81, Option.bind_some, pk_sub (by omega), nM_4, nI_add, Ml_102 (by omega), Option.bind_some, h3]
theorem wfM_le {st : Nat} {wf : Nat → Nat} (hO : okH H) (h : wfM H st wf m) : ∀ x, x < hN H → wf x ≤ 3 := by
  intro x hx
  obtain ⟨-, z1, -, z3⟩ := hO.2.2.2 x hx
  have hp : hP H x (st % hZ H x) ≤ 3 := z3 _ (Nat.mod_lt _ (by omega))
  rcases h x hx with ⟨-, e⟩ | ⟨cf, kk, -, -, -, -, ⟨-, e⟩ | ⟨-, -, e, -⟩⟩
  · omega
  · omega
  · exact e
end
