theorem nE_0 {a : Nat} (ha : a < 2 ^ 31) : nI a = 0 ↔ a = 0 := nI_eq ha (by decide)
theorem nL_0 {a : Nat} (ha : a < 2 ^ 31) : nI a < 0 ↔ a < 0 := nI_ltI ha (by decide)
theorem lL_0 {a : Nat} (ha : a < 2 ^ 31) : 0 < nI a ↔ 0 < a := nI_ltI (by decide) ha
theorem nA_0 (a : Nat) : nI a + 0 = nI (a + 0) := nI_add a 0
theorem nB_0 (a : Nat) : 0 + nI a = nI (0 + a) := nI_add 0 a
theorem nM_0 (a : Nat) : 0 * nI a = nI (0 * a) := pk_mul 0 a
theorem iL_0 {a : Int} (a1 : -2 ^ 31 ≤ a) (a2 : a < 2 ^ 31) : iI a < 0 ↔ a < 0 := iI_lt (b := 0) a1 a2 (by decide) (by decide)
theorem jL_0 {a : Int} (a1 : -2 ^ 31 ≤ a) (a2 : a < 2 ^ 31) : 0 < iI a ↔ 0 < a := iI_lt (a := 0) (by decide) (by decide) a1 a2
theorem iE_0 {a : Int} (a1 : -2 ^ 31 ≤ a) (a2 : a < 2 ^ 31) : iI a = 0 ↔ a = 0 := iI_eq (b := 0) a1 a2 (by decide) (by decide)
theorem iA_0 (a : Int) : iI a + 0 = iI (a + 0) := iI_add a 0
theorem nE_1 {a : Nat} (ha : a < 2 ^ 31) : nI a = 1 ↔ a = 1 := nI_eq ha (by decide)
theorem nL_1 {a : Nat} (ha : a < 2 ^ 31) : nI a < 1 ↔ a < 1 := nI_ltI ha (by decide)
theorem lL_1 {a : Nat} (ha : a < 2 ^ 31) : 1 < nI a ↔ 1 < a := nI_ltI (by decide) ha
theorem nA_1 (a : Nat) : nI a + 1 = nI (a + 1) := nI_add a 1
theorem nB_1 (a : Nat) : 1 + nI a = nI (1 + a) := nI_add 1 a
theorem nM_1 (a : Nat) : 1 * nI a = nI (1 * a) := pk_mul 1 a
theorem iL_1 {a : Int} (a1 : -2 ^ 31 ≤ a) (a2 : a < 2 ^ 31) : iI a < 1 ↔ a < 1 := iI_lt (b := 1) a1 a2 (by decide) (by decide)
theorem jL_1 {a : Int} (a1 : -2 ^ 31 ≤ a) (a2 : a < 2 ^ 31) : 1 < iI a ↔ 1 < a := iI_lt (a := 1) (by decide) (by decide) a1 a2
theorem iE_1 {a : Int} (a1 : -2 ^ 31 ≤ a) (a2 : a < 2 ^ 31) : iI a = 1 ↔ a = 1 := iI_eq (b := 1) a1 a2 (by decide) (by decide)
theorem iA_1 (a : Int) : iI a + 1 = iI (a + 1) := iI_add a 1
theorem nE_2 {a : Nat} (ha : a < 2 ^ 31) : nI a = 2 ↔ a = 2 := nI_eq ha (by decide)
theorem nL_2 {a : Nat} (ha : a < 2 ^ 31) : nI a < 2 ↔ a < 2 := nI_ltI ha (by decide)
theorem lL_2 {a : Nat} (ha : a < 2 ^ 31) : 2 < nI a ↔ 2 < a := nI_ltI (by decide) ha
theorem nA_2 (a : Nat) : nI a + 2 = nI (a + 2) := nI_add a 2
theorem nB_2 (a : Nat) : 2 + nI a = nI (2 + a) := nI_add 2 a
theorem nM_2 (a : Nat) : 2 * nI a = nI (2 * a) := pk_mul 2 a
theorem iL_2 {a : Int} (a1 : -2 ^ 31 ≤ a) (a2 : a < 2 ^ 31) : iI a < 2 ↔ a < 2 := iI_lt (b := 2) a1 a2 (by decide) (by decide)
theorem jL_2 {a : Int} (a1 : -2 ^ 31 ≤ a) (a2 : a < 2 ^ 31) : 2 < iI a ↔ 2 < a := iI_lt (a := 2) (by decide) (by decide) a1 a2
theorem iE_2 {a : Int} (a1 : -2 ^ 31 ≤ a) (a2 : a < 2 ^ 31) : iI a = 2 ↔ a = 2 := iI_eq (b := 2) a1 a2 (by decide) (by decide)
theorem iA_2 (a : Int) : iI a + 2 = iI (a + 2) := iI_add a 2
theorem nE_3 {a : Nat} (ha : a < 2 ^ 31) : nI a = 3 ↔ a = 3 := nI_eq ha (by decide)
theorem nL_3 {a : Nat} (ha : a < 2 ^ 31) : nI a < 3 ↔ a < 3 := nI_ltI ha (by decide)
theorem lL_3 {a : Nat} (ha : a < 2 ^ 31) : 3 < nI a ↔ 3 < a := nI_ltI (by decide) ha
theorem nA_3 (a : Nat) : nI a + 3 = nI (a + 3) := nI_add a 3
theorem nB_3 (a : Nat) : 3 + nI a = nI (3 + a) := nI_add 3 a
theorem nM_3 (a : Nat) : 3 * nI a = nI (3 * a) := pk_mul 3 a
theorem iL_3 {a : Int} (a1 : -2 ^ 31 ≤ a) (a2 : a < 2 ^ 31) : iI a < 3 ↔ a < 3 := iI_lt (b := 3) a1 a2 (by decide) (by decide)
theorem jL_3 {a : Int} (a1 : -2 ^ 31 ≤ a) (a2 : a < 2 ^ 31) : 3 < iI a ↔ 3 < a := iI_lt (a := 3) (by decide) (by decide) a1 a2
theorem iE_3 {a : Int} (a1 : -2 ^ 31 ≤ a) (a2 : a < 2 ^ 31) : iI a = 3 ↔ a = 3 := iI_eq (b := 3) a1 a2 (by decide) (by decide)
theorem iA_3 (a : Int) : iI a + 3 = iI (a + 3) := iI_add a 3
theorem nE_4 {a : Nat} (ha : a < 2 ^ 31) : nI a = 4 ↔ a = 4 := nI_eq ha (by decide)
theorem nL_4 {a : Nat} (ha : a < 2 ^ 31) : nI a < 4 ↔ a < 4 := nI_ltI ha (by decide)
theorem lL_4 {a : Nat} (ha : a < 2 ^ 31) : 4 < nI a ↔ 4 < a := nI_ltI (by decide) ha
theorem nA_4 (a : Nat) : nI a + 4 = nI (a + 4) := nI_add a 4
theorem nB_4 (a : Nat) : 4 + nI a = nI (4 + a) := nI_add 4 a
theorem nM_4 (a : Nat) : 4 * nI a = nI (4 * a) := pk_mul 4 a
theorem iL_4 {a : Int} (a1 : -2 ^ 31 ≤ a) (a2 : a < 2 ^ 31) : iI a < 4 ↔ a < 4 := iI_lt (b := 4) a1 a2 (by decide) (by decide)
theorem jL_4 {a : Int} (a1 : -2 ^ 31 ≤ a) (a2 : a < 2 ^ 31) : 4 < iI a ↔ 4 < a := iI_lt (a := 4) (by decide) (by decide) a1 a2
theorem iE_4 {a : Int} (a1 : -2 ^ 31 ≤ a) (a2 : a < 2 ^ 31) : iI a = 4 ↔ a = 4 := iI_eq (b := 4) a1 a2 (by decide) (by decide)
theorem iA_4 (a : Int) : iI a + 4 = iI (a + 4) := iI_add a 4
theorem nE_5 {a : Nat} (ha : a < 2 ^ 31) : nI a = 5 ↔ a = 5 := nI_eq ha (by decide)
theorem nL_5 {a : Nat} (ha : a < 2 ^ 31) : nI a < 5 ↔ a < 5 := nI_ltI ha (by decide)
theorem lL_5 {a : Nat} (ha : a < 2 ^ 31) : 5 < nI a ↔ 5 < a := nI_ltI (by decide) ha
theorem nA_5 (a : Nat) : nI a + 5 = nI (a + 5) := nI_add a 5
theorem nB_5 (a : Nat) : 5 + nI a = nI (5 + a) := nI_add 5 a
theorem nM_5 (a : Nat) : 5 * nI a = nI (5 * a) := pk_mul 5 a
theorem iL_5 {a : Int} (a1 : -2 ^ 31 ≤ a) (a2 : a < 2 ^ 31) : iI a < 5 ↔ a < 5 := iI_lt (b := 5) a1 a2 (by decide) (by decide)
theorem jL_5 {a : Int} (a1 : -2 ^ 31 ≤ a) (a2 : a < 2 ^ 31) : 5 < iI a ↔ 5 < a := iI_lt (a := 5) (by decide) (by decide) a1 a2
theorem iE_5 {a : Int} (a1 : -2 ^ 31 ≤ a) (a2 : a < 2 ^ 31) : iI a = 5 ↔ a = 5 := iI_eq (b := 5) a1 a2 (by decide) (by decide)
theorem iA_5 (a : Int) : iI a + 5 = iI (a + 5) := iI_add a 5
theorem nE_6 {a : Nat} (ha : a < 2 ^ 31) : nI a = 6 ↔ a = 6 := nI_eq ha (by decide)
theorem nL_6 {a : Nat} (ha : a < 2 ^ 31) : nI a < 6 ↔ a < 6 := nI_ltI ha (by decide)
theorem lL_6 {a : Nat} (ha : a < 2 ^ 31) : 6 < nI a ↔ 6 < a := nI_ltI (by decide) ha
theorem nA_6 (a : Nat) : nI a + 6 = nI (a + 6) := nI_add a 6
theorem nB_6 (a : Nat) : 6 + nI a = nI (6 + a) := nI_add 6 a
theorem nM_6 (a : Nat) : 6 * nI a = nI (6 * a) := pk_mul 6 a
theorem iL_6 {a : Int} (a1 : -2 ^ 31 ≤ a) (a2 : a < 2 ^ 31) : iI a < 6 ↔ a < 6 := iI_lt (b := 6) a1 a2 (by decide) (by decide)
theorem jL_6 {a : Int} (a1 : -2 ^ 31 ≤ a) (a2 : a < 2 ^ 31) : 6 < iI a ↔ 6 < a := iI_lt (a := 6) (by decide) (by decide) a1 a2
theorem iE_6 {a : Int} (a1 : -2 ^ 31 ≤ a) (a2 : a < 2 ^ 31) : iI a = 6 ↔ a = 6 := iI_eq (b := 6) a1 a2 (by decide) (by decide)
theorem iA_6 (a : Int) : iI a + 6 = iI (a + 6) := iI_add a 6
theorem nE_7 {a : Nat} (ha : a < 2 ^ 31) : nI a = 7 ↔ a = 7 := nI_eq ha (by decide)
theorem nL_7 {a : Nat} (ha : a < 2 ^ 31) : nI a < 7 ↔ a < 7 := nI_ltI ha (by decide)
theorem lL_7 {a : Nat} (ha : a < 2 ^ 31) : 7 < nI a ↔ 7 < a := nI_ltI (by decide) ha
theorem nA_7 (a : Nat) : nI a + 7 = nI (a + 7) := nI_add a 7
theorem nB_7 (a : Nat) : 7 + nI a = nI (7 + a) := nI_add 7 a
theorem nM_7 (a : Nat) : 7 * nI a = nI (7 * a) := pk_mul 7 a
theorem iL_7 {a : Int} (a1 : -2 ^ 31 ≤ a) (a2 : a < 2 ^ 31) : iI a < 7 ↔ a < 7 := iI_lt (b := 7) a1 a2 (by decide) (by decide)
theorem jL_7 {a : Int} (a1 : -2 ^ 31 ≤ a) (a2 : a < 2 ^ 31) : 7 < iI a ↔ 7 < a := iI_lt (a := 7) (by decide) (by decide) a1 a2
theorem iE_7 {a : Int} (a1 : -2 ^ 31 ≤ a) (a2 : a < 2 ^ 31) : iI a = 7 ↔ a = 7 := iI_eq (b := 7) a1 a2 (by decide) (by decide)
theorem iA_7 (a : Int) : iI a + 7 = iI (a + 7) := iI_add a 7
theorem nE_8 {a : Nat} (ha : a < 2 ^ 31) : nI a = 8 ↔ a = 8 := nI_eq ha (by decide)
theorem nL_8 {a : Nat} (ha : a < 2 ^ 31) : nI a < 8 ↔ a < 8 := nI_ltI ha (by decide)
theorem lL_8 {a : Nat} (ha : a < 2 ^ 31) : 8 < nI a ↔ 8 < a := nI_ltI (by decide) ha
theorem nA_8 (a : Nat) : nI a + 8 = nI (a + 8) := nI_add a 8
theorem nB_8 (a : Nat) : 8 + nI a = nI (8 + a) := nI_add 8 a
theorem nM_8 (a : Nat) : 8 * nI a = nI (8 * a) := pk_mul 8 a
theorem iL_8 {a : Int} (a1 : -2 ^ 31 ≤ a) (a2 : a < 2 ^ 31) : iI a < 8 ↔ a < 8 := iI_lt (b := 8) a1 a2 (by decide) (by decide)
theorem jL_8 {a : Int} (a1 : -2 ^ 31 ≤ a) (a2 : a < 2 ^ 31) : 8 < iI a ↔ 8 < a := iI_lt (a := 8) (by decide) (by decide) a1 a2
theorem iE_8 {a : Int} (a1 : -2 ^ 31 ≤ a) (a2 : a < 2 ^ 31) : iI a = 8 ↔ a = 8 := iI_eq (b := 8) a1 a2 (by decide) (by decide)
theorem iA_8 (a : Int) : iI a + 8 = iI (a + 8) := iI_add a 8
theorem nE_9 {a : Nat} (ha : a < 2 ^ 31) : nI a = 9 ↔ a = 9 := nI_eq ha (by decide)
theorem nL_9 {a : Nat} (ha : a < 2 ^ 31) : nI a < 9 ↔ a < 9 := nI_ltI ha (by decide)
theorem lL_9 {a : Nat} (ha : a < 2 ^ 31) : 9 < nI a ↔ 9 < a := nI_ltI (by decide) ha
theorem nA_9 (a : Nat) : nI a + 9 = nI (a + 9) := nI_add a 9
theorem nB_9 (a : Nat) : 9 + nI a = nI (9 + a) := nI_add 9 a
theorem nM_9 (a : Nat) : 9 * nI a = nI (9 * a) := pk_mul 9 a
theorem iL_9 {a : Int} (a1 : -2 ^ 31 ≤ a) (a2 : a < 2 ^ 31) : iI a < 9 ↔ a < 9 := iI_lt (b := 9) a1 a2 (by decide) (by decide)
theorem jL_9 {a : Int} (a1 : -2 ^ 31 ≤ a) (a2 : a < 2 ^ 31) : 9 < iI a ↔ 9 < a := iI_lt (a := 9) (by decide) (by decide) a1 a2
theorem iE_9 {a : Int} (a1 : -2 ^ 31 ≤ a) (a2 : a < 2 ^ 31) : iI a = 9 ↔ a = 9 := iI_eq (b := 9) a1 a2 (by decide) (by decide)
theorem iA_9 (a : Int) : iI a + 9 = iI (a + 9) := iI_add a 9
theorem nE_10 {a : Nat} (ha : a < 2 ^ 31) : nI a = 10 ↔ a = 10 := nI_eq ha (by decide)
theorem nL_10 {a : Nat} (ha : a < 2 ^ 31) : nI a < 10 ↔ a < 10 := nI_ltI ha (by decide)
theorem lL_10 {a : Nat} (ha : a < 2 ^ 31) : 10 < nI a ↔ 10 < a := nI_ltI (by decide) ha
theorem nA_10 (a : Nat) : nI a + 10 = nI (a + 10) := nI_add a 10
theorem nB_10 (a : Nat) : 10 + nI a = nI (10 + a) := nI_add 10 a
theorem nM_10 (a : Nat) : 10 * nI a = nI (10 * a) := pk_mul 10 a
theorem iL_10 {a : Int} (a1 : -2 ^ 31 ≤ a) (a2 : a < 2 ^ 31) : iI a < 10 ↔ a < 10 := iI_lt (b := 10) a1 a2 (by decide) (by decide)
theorem jL_10 {a : Int} (a1 : -2 ^ 31 ≤ a) (a2 : a < 2 ^ 31) : 10 < iI a ↔ 10 < a := iI_lt (a := 10) (by decide) (by decide) a1 a2
theorem iE_10 {a : Int} (a1 : -2 ^ 31 ≤ a) (a2 : a < 2 ^ 31) : iI a = 10 ↔ a = 10 := iI_eq (b := 10) a1 a2 (by decide) (by decide)
theorem iA_10 (a : Int) : iI a + 10 = iI (a + 10) := iI_add a 10
theorem nE_13 {a : Nat} (ha : a < 2 ^ 31) : nI a = 13 ↔ a = 13 := nI_eq ha (by decide)
theorem nL_13 {a : Nat} (ha : a < 2 ^ 31) : nI a < 13 ↔ a < 13 := nI_ltI ha (by decide)
theorem lL_13 {a : Nat} (ha : a < 2 ^ 31) : 13 < nI a ↔ 13 < a := nI_ltI (by decide) ha
theorem nA_13 (a : Nat) : nI a + 13 = nI (a + 13) := nI_add a 13
theorem nB_13 (a : Nat) : 13 + nI a = nI (13 + a) := nI_add 13 a
theorem nM_13 (a : Nat) : 13 * nI a = nI (13 * a) := pk_mul 13 a
theorem iL_13 {a : Int} (a1 : -2 ^ 31 ≤ a) (a2 : a < 2 ^ 31) : iI a < 13 ↔ a < 13 := iI_lt (b := 13) a1 a2 (by decide) (by decide)
theorem jL_13 {a : Int} (a1 : -2 ^ 31 ≤ a) (a2 : a < 2 ^ 31) : 13 < iI a ↔ 13 < a := iI_lt (a := 13) (by decide) (by decide) a1 a2
theorem iE_13 {a : Int} (a1 : -2 ^ 31 ≤ a) (a2 : a < 2 ^ 31) : iI a = 13 ↔ a = 13 := iI_eq (b := 13) a1 a2 (by decide) (by decide)
theorem iA_13 (a : Int) : iI a + 13 = iI (a + 13) := iI_add a 13
theorem nE_18 {a : Nat} (ha : a < 2 ^ 31) : nI a = 18 ↔ a = 18 := nI_eq ha (by decide)
theorem nL_18 {a : Nat} (ha : a < 2 ^ 31) : nI a < 18 ↔ a < 18 := nI_ltI ha (by decide)
theorem lL_18 {a : Nat} (ha : a < 2 ^ 31) : 18 < nI a ↔ 18 < a := nI_ltI (by decide) ha
theorem nA_18 (a : Nat) : nI a + 18 = nI (a + 18) := nI_add a 18
theorem nB_18 (a : Nat) : 18 + nI a = nI (18 + a) := nI_add 18 a
theorem nM_18 (a : Nat) : 18 * nI a = nI (18 * a) := pk_mul 18 a
theorem iL_18 {a : Int} (a1 : -2 ^ 31 ≤ a) (a2 : a < 2 ^ 31) : iI a < 18 ↔ a < 18 := iI_lt (b := 18) a1 a2 (by decide) (by decide)
theorem jL_18 {a : Int} (a1 : -2 ^ 31 ≤ a) (a2 : a < 2 ^ 31) : 18 < iI a ↔ 18 < a := iI_lt (a := 18) (by decide) (by decide) a1 a2
theorem iE_18 {a : Int} (a1 : -2 ^ 31 ≤ a) (a2 : a < 2 ^ 31) : iI a = 18 ↔ a = 18 := iI_eq (b := 18) a1 a2 (by decide) (by decide)
theorem iA_18 (a : Int) : iI a + 18 = iI (a + 18) := iI_add a 18
theorem nE_23 {a : Nat} (ha : a < 2 ^ 31) : nI a = 23 ↔ a = 23 := nI_eq ha (by decide)
theorem nL_23 {a : Nat} (ha : a < 2 ^ 31) : nI a < 23 ↔ a < 23 := nI_ltI ha (by decide)
theorem lL_23 {a : Nat} (ha : a < 2 ^ 31) : 23 < nI a ↔ 23 < a := nI_ltI (by decide) ha
theorem nA_23 (a : Nat) : nI a + 23 = nI (a + 23) := nI_add a 23
theorem nB_23 (a : Nat) : 23 + nI a = nI (23 + a) := nI_add 23 a
theorem nM_23 (a : Nat) : 23 * nI a = nI (23 * a) := pk_mul 23 a
theorem iL_23 {a : Int} (a1 : -2 ^ 31 ≤ a) (a2 : a < 2 ^ 31) : iI a < 23 ↔ a < 23 := iI_lt (b := 23) a1 a2 (by decide) (by decide)
theorem jL_23 {a : Int} (a1 : -2 ^ 31 ≤ a) (a2 : a < 2 ^ 31) : 23 < iI a ↔ 23 < a := iI_lt (a := 23) (by decide) (by decide) a1 a2
theorem iE_23 {a : Int} (a1 : -2 ^ 31 ≤ a) (a2 : a < 2 ^ 31) : iI a = 23 ↔ a = 23 := iI_eq (b := 23) a1 a2 (by decide) (by decide)
theorem iA_23 (a : Int) : iI a + 23 = iI (a + 23) := iI_add a 23
theorem nE_28 {a : Nat} (ha : a < 2 ^ 31) : nI a = 28 ↔ a = 28 := nI_eq ha (by decide)
theorem nL_28 {a : Nat} (ha : a < 2 ^ 31) : nI a < 28 ↔ a < 28 := nI_ltI ha (by decide)
theorem lL_28 {a : Nat} (ha : a < 2 ^ 31) : 28 < nI a ↔ 28 < a := nI_ltI (by decide) ha
theorem nA_28 (a : Nat) : nI a + 28 = nI (a + 28) := nI_add a 28
theorem nB_28 (a : Nat) : 28 + nI a = nI (28 + a) := nI_add 28 a
theorem nM_28 (a : Nat) : 28 * nI a = nI (28 * a) := pk_mul 28 a
theorem iL_28 {a : Int} (a1 : -2 ^ 31 ≤ a) (a2 : a < 2 ^ 31) : iI a < 28 ↔ a < 28 := iI_lt (b := 28) a1 a2 (by decide) (by decide)
theorem jL_28 {a : Int} (a1 : -2 ^ 31 ≤ a) (a2 : a < 2 ^ 31) : 28 < iI a ↔ 28 < a := iI_lt (a := 28) (by decide) (by decide) a1 a2
theorem iE_28 {a : Int} (a1 : -2 ^ 31 ≤ a) (a2 : a < 2 ^ 31) : iI a = 28 ↔ a = 28 := iI_eq (b := 28) a1 a2 (by decide) (by decide)
theorem iA_28 (a : Int) : iI a + 28 = iI (a + 28) := iI_add a 28
theorem nE_32 {a : Nat} (ha : a < 2 ^ 31) : nI a = 32 ↔ a = 32 := nI_eq ha (by decide)
theorem nL_32 {a : Nat} (ha : a < 2 ^ 31) : nI a < 32 ↔ a < 32 := nI_ltI ha (by decide)
theorem lL_32 {a : Nat} (ha : a < 2 ^ 31) : 32 < nI a ↔ 32 < a := nI_ltI (by decide) ha
theorem nA_32 (a : Nat) : nI a + 32 = nI (a + 32) := nI_add a 32
theorem nB_32 (a : Nat) : 32 + nI a = nI (32 + a) := nI_add 32 a
theorem nM_32 (a : Nat) : 32 * nI a = nI (32 * a) := pk_mul 32 a
theorem iL_32 {a : Int} (a1 : -2 ^ 31 ≤ a) (a2 : a < 2 ^ 31) : iI a < 32 ↔ a < 32 := iI_lt (b := 32) a1 a2 (by decide) (by decide)
theorem jL_32 {a : Int} (a1 : -2 ^ 31 ≤ a) (a2 : a < 2 ^ 31) : 32 < iI a ↔ 32 < a := iI_lt (a := 32) (by decide) (by decide) a1 a2
theorem iE_32 {a : Int} (a1 : -2 ^ 31 ≤ a) (a2 : a < 2 ^ 31) : iI a = 32 ↔ a = 32 := iI_eq (b := 32) a1 a2 (by decide) (by decide)
theorem iA_32 (a : Int) : iI a + 32 = iI (a + 32) := iI_add a 32
theorem nE_33 {a : Nat} (ha : a < 2 ^ 31) : nI a = 33 ↔ a = 33 := nI_eq ha (by decide)
theorem nL_33 {a : Nat} (ha : a < 2 ^ 31) : nI a < 33 ↔ a < 33 := nI_ltI ha (by decide)
theorem lL_33 {a : Nat} (ha : a < 2 ^ 31) : 33 < nI a ↔ 33 < a := nI_ltI (by decide) ha
theorem nA_33 (a : Nat) : nI a + 33 = nI (a + 33) := nI_add a 33
theorem nB_33 (a : Nat) : 33 + nI a = nI (33 + a) := nI_add 33 a
theorem nM_33 (a : Nat) : 33 * nI a = nI (33 * a) := pk_mul 33 a
theorem iL_33 {a : Int} (a1 : -2 ^ 31 ≤ a) (a2 : a < 2 ^ 31) : iI a < 33 ↔ a < 33 := iI_lt (b := 33) a1 a2 (by decide) (by decide)
theorem jL_33 {a : Int} (a1 : -2 ^ 31 ≤ a) (a2 : a < 2 ^ 31) : 33 < iI a ↔ 33 < a := iI_lt (a := 33) (by decide) (by decide) a1 a2
theorem iE_33 {a : Int} (a1 : -2 ^ 31 ≤ a) (a2 : a < 2 ^ 31) : iI a = 33 ↔ a = 33 := iI_eq (b := 33) a1 a2 (by decide) (by decide)
theorem iA_33 (a : Int) : iI a + 33 = iI (a + 33) := iI_add a 33
theorem nE_39 {a : Nat} (ha : a < 2 ^ 31) : nI a = 39 ↔ a = 39 := nI_eq ha (by decide)
theorem nL_39 {a : Nat} (ha : a < 2 ^ 31) : nI a < 39 ↔ a < 39 := nI_ltI ha (by decide)
theorem lL_39 {a : Nat} (ha : a < 2 ^ 31) : 39 < nI a ↔ 39 < a := nI_ltI (by decide) ha
theorem nA_39 (a : Nat) : nI a + 39 = nI (a + 39) := nI_add a 39
theorem nB_39 (a : Nat) : 39 + nI a = nI (39 + a) := nI_add 39 a
theorem nM_39 (a : Nat) : 39 * nI a = nI (39 * a) := pk_mul 39 a
theorem iL_39 {a : Int} (a1 : -2 ^ 31 ≤ a) (a2 : a < 2 ^ 31) : iI a < 39 ↔ a < 39 := iI_lt (b := 39) a1 a2 (by decide) (by decide)
theorem jL_39 {a : Int} (a1 : -2 ^ 31 ≤ a) (a2 : a < 2 ^ 31) : 39 < iI a ↔ 39 < a := iI_lt (a := 39) (by decide) (by decide) a1 a2
theorem iE_39 {a : Int} (a1 : -2 ^ 31 ≤ a) (a2 : a < 2 ^ 31) : iI a = 39 ↔ a = 39 := iI_eq (b := 39) a1 a2 (by decide) (by decide)
theorem iA_39 (a : Int) : iI a + 39 = iI (a + 39) := iI_add a 39
theorem nE_40 {a : Nat} (ha : a < 2 ^ 31) : nI a = 40 ↔ a = 40 := nI_eq ha (by decide)
theorem nL_40 {a : Nat} (ha : a < 2 ^ 31) : nI a < 40 ↔ a < 40 := nI_ltI ha (by decide)
theorem lL_40 {a : Nat} (ha : a < 2 ^ 31) : 40 < nI a ↔ 40 < a := nI_ltI (by decide) ha
theorem nA_40 (a : Nat) : nI a + 40 = nI (a + 40) := nI_add a 40
theorem nB_40 (a : Nat) : 40 + nI a = nI (40 + a) := nI_add 40 a
theorem nM_40 (a : Nat) : 40 * nI a = nI (40 * a) := pk_mul 40 a
theorem iL_40 {a : Int} (a1 : -2 ^ 31 ≤ a) (a2 : a < 2 ^ 31) : iI a < 40 ↔ a < 40 := iI_lt (b := 40) a1 a2 (by decide) (by decide)
theorem jL_40 {a : Int} (a1 : -2 ^ 31 ≤ a) (a2 : a < 2 ^ 31) : 40 < iI a ↔ 40 < a := iI_lt (a := 40) (by decide) (by decide) a1 a2
theorem iE_40 {a : Int} (a1 : -2 ^ 31 ≤ a) (a2 : a < 2 ^ 31) : iI a = 40 ↔ a = 40 := iI_eq (b := 40) a1 a2 (by decide) (by decide)
theorem iA_40 (a : Int) : iI a + 40 = iI (a + 40) := iI_add a 40
theorem nE_60 {a : Nat} (ha : a < 2 ^ 31) : nI a = 60 ↔ a = 60 := nI_eq ha (by decide)
theorem nL_60 {a : Nat} (ha : a < 2 ^ 31) : nI a < 60 ↔ a < 60 := nI_ltI ha (by decide)
theorem lL_60 {a : Nat} (ha : a < 2 ^ 31) : 60 < nI a ↔ 60 < a := nI_ltI (by decide) ha
theorem nA_60 (a : Nat) : nI a + 60 = nI (a + 60) := nI_add a 60
theorem nB_60 (a : Nat) : 60 + nI a = nI (60 + a) := nI_add 60 a
theorem nM_60 (a : Nat) : 60 * nI a = nI (60 * a) := pk_mul 60 a
theorem iL_60 {a : Int} (a1 : -2 ^ 31 ≤ a) (a2 : a < 2 ^ 31) : iI a < 60 ↔ a < 60 := iI_lt (b := 60) a1 a2 (by decide) (by decide)
theorem jL_60 {a : Int} (a1 : -2 ^ 31 ≤ a) (a2 : a < 2 ^ 31) : 60 < iI a ↔ 60 < a := iI_lt (a := 60) (by decide) (by decide) a1 a2
theorem iE_60 {a : Int} (a1 : -2 ^ 31 ≤ a) (a2 : a < 2 ^ 31) : iI a = 60 ↔ a = 60 := iI_eq (b := 60) a1 a2 (by decide) (by decide)
theorem iA_60 (a : Int) : iI a + 60 = iI (a + 60) := iI_add a 60
theorem nE_100 {a : Nat} (ha : a < 2 ^ 31) : nI a = 100 ↔ a = 100 := nI_eq ha (by decide)
theorem nL_100 {a : Nat} (ha : a < 2 ^ 31) : nI a < 100 ↔ a < 100 := nI_ltI ha (by decide)
theorem lL_100 {a : Nat} (ha : a < 2 ^ 31) : 100 < nI a ↔ 100 < a := nI_ltI (by decide) ha
theorem nA_100 (a : Nat) : nI a + 100 = nI (a + 100) := nI_add a 100
theorem nB_100 (a : Nat) : 100 + nI a = nI (100 + a) := nI_add 100 a
theorem nM_100 (a : Nat) : 100 * nI a = nI (100 * a) := pk_mul 100 a
theorem iL_100 {a : Int} (a1 : -2 ^ 31 ≤ a) (a2 : a < 2 ^ 31) : iI a < 100 ↔ a < 100 := iI_lt (b := 100) a1 a2 (by decide) (by decide)
theorem jL_100 {a : Int} (a1 : -2 ^ 31 ≤ a) (a2 : a < 2 ^ 31) : 100 < iI a ↔ 100 < a := iI_lt (a := 100) (by decide) (by decide) a1 a2
theorem iE_100 {a : Int} (a1 : -2 ^ 31 ≤ a) (a2 : a < 2 ^ 31) : iI a = 100 ↔ a = 100 := iI_eq (b := 100) a1 a2 (by decide) (by decide)
theorem iA_100 (a : Int) : iI a + 100 = iI (a + 100) := iI_add a 100

theorem nE {a b : Nat} (ha : a < 2 ^ 31) (hb : b < 2 ^ 31) : nI a = nI b ↔ a = b := nI_eq ha hb
theorem nL {a b : Nat} (ha : a < 2 ^ 31) (hb : b < 2 ^ 31) : nI a < nI b ↔ a < b := nI_ltI ha hb
theorem n9 {a : Nat} (ha : a < 2 ^ 31) : nI a = (-9 : Int32) ↔ False := ⟨nI_ne9 ha, False.elim⟩
theorem nm1 {a : Nat} (ha : a < 2 ^ 31) : nI a = (-1 : Int32) ↔ False := by
  rw [iI_nI, iI_m1, iI_eq (by omega) (by omega) (by omega) (by omega)]
  constructor <;> intro h <;> first | omega | exact h.elim
theorem nDec {a : Nat} : nI (a + 1) + (-1) = nI a := pk_m1 a
theorem nMod {a d : Nat} (ha : a < 2 ^ 31) (h0 : 0 < d) (hd : d < 2 ^ 31) : nI a % nI d = nI (a % d) := by
  rw [← irem_eq_mod]
  exact pk_rem ha h0 hd
theorem nDiv {a d : Nat} (ha : a < 2 ^ 31) (h0 : 0 < d) (hd : d < 2 ^ 31) : nI a / nI d = nI (a / d) := pk_div ha h0 hd
theorem zmn_n {a b : Nat} (ha : a < 2 ^ 31) (hb : b < 2 ^ 31) : zmn (nI a) (nI b) = nI (min a b) := by
  unfold zmn
  simp only [nL hb ha]
  by_cases h : b < a
  · rw [if_pos h, Nat.min_eq_right (by omega)]
  · rw [if_neg h, Nat.min_eq_left (by omega)]
theorem zmx_n {a b : Nat} (ha : a < 2 ^ 31) (hb : b < 2 ^ 31) : zmx (nI a) (nI b) = nI (max a b) := by
  unfold zmx
  simp only [nL ha hb]
  by_cases h : a < b
  · rw [if_pos h, Nat.max_eq_right (by omega)]
  · rw [if_neg h, Nat.max_eq_left (by omega)]
theorem ifLt {α : Type} {a b : Nat} {A B : α} (h : a < b) (hb : b < 2 ^ 31) : (if nI a < nI b then A else B) = A := if_pos (nI_lt h hb)
theorem ifLf {α : Type} {a b : Nat} {A B : α} (h : b ≤ a) (ha : a < 2 ^ 31) : (if nI a < nI b then A else B) = B := if_neg (nI_nlt h ha)
theorem ifEt {α : Type} {a b : Nat} {A B : α} (h : a = b) : (if nI a = nI b then A else B) = A := if_pos (by rw [h])
theorem ifEf {α : Type} {a b : Nat} {A B : α} (h : a ≠ b) (ha : a < 2 ^ 31) (hb : b < 2 ^ 31) : (if nI a = nI b then A else B) = B := if_neg (fun z => h ((nI_eq ha hb).mp z))
theorem ifb1 {α : Type} {A B : α} : (if (1 : Int32) = 0 then A else B) = B := if_neg (by decide)
theorem ifb0 {α : Type} {A B : α} : (if (0 : Int32) = 0 then A else B) = A := if_pos rfl
