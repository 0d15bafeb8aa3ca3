def jn_L_law_255 : zAH → Option (Int32 × zAH) := fun h => if (0 : Int32) = 0 ∨ (0 : Int32) = 1 then some (0, h) else none
theorem sj_L_law_255 (g : zG) (l : Launch) : zSm g l cL_law 4 RL "law" (some .boolean) 9 205 zrI 255 [] [] (jn_L_law_255) := by
  unfold jn_L_law_255
  refine z_iconst (n := 0) (v := 0) (q := 256) (by decide +kernel) rfl (by decide) ?_
  exact z_zret (by decide +kernel)
def jn_L_law_1459 (kc18 : Int32 → zAH → Option (Int32 × zAH)) (v0 : Nat) (v1 : Nat) (v2 : Nat) (v3 : Int32) : zAH → Option (Int32 × zAH) := fun h => kc18 (v3 + 6) h
theorem sj_L_law_1459 (g : zG) (l : Launch) (kc18 : Int32 → zAH → Option (Int32 × zAH)) (v0 : Nat) (v1 : Nat) (v2 : Nat) (v3 : Int32) (hkc18 : ∀ s, zSm g l cL_law 4 RL "law" (some .boolean) 9 205 zrI 18 [(0, .ref v0), (1, .ref v1), (2, .ref v2), (3, .int s)] [] (kc18 s)) : zSm g l cL_law 4 RL "law" (some .boolean) 9 205 zrI 1459 [(0, .ref v0), (1, .ref v1), (2, .ref v2), (3, .int v3)] [] (jn_L_law_1459 kc18 v0 v1 v2 v3) := by
  unfold jn_L_law_1459
  refine z_iinc (j := 3) (n := 6) (v := 6) (q := 1462) (by decide +kernel) rfl 3 rfl (by decide) (by decide) rfl ?_
  refine z_goto (off := (-1444)) (t := 18) (by decide +kernel) (by decide) ?_
  refine zsub [1, 2, 3, 0] rfl ?_
  exact hkc18 (v3 + 6)
def jn_L_law_298 : zAH → Option (Int32 × zAH) := fun h => if (0 : Int32) = 0 ∨ (0 : Int32) = 1 then some (0, h) else none
theorem sj_L_law_298 (g : zG) (l : Launch) : zSm g l cL_law 4 RL "law" (some .boolean) 9 205 zrI 298 [] [] (jn_L_law_298) := by
  unfold jn_L_law_298
  refine z_iconst (n := 0) (v := 0) (q := 299) (by decide +kernel) rfl (by decide) ?_
  exact z_zret (by decide +kernel)
def jn_L_law_331 : zAH → Option (Int32 × zAH) := fun h => if (0 : Int32) = 0 ∨ (0 : Int32) = 1 then some (0, h) else none
theorem sj_L_law_331 (g : zG) (l : Launch) : zSm g l cL_law 4 RL "law" (some .boolean) 9 205 zrI 331 [] [] (jn_L_law_331) := by
  unfold jn_L_law_331
  refine z_iconst (n := 0) (v := 0) (q := 332) (by decide +kernel) rfl (by decide) ?_
  exact z_zret (by decide +kernel)
def jn_L_law_354 : zAH → Option (Int32 × zAH) := fun h => if (0 : Int32) = 0 ∨ (0 : Int32) = 1 then some (0, h) else none
theorem sj_L_law_354 (g : zG) (l : Launch) : zSm g l cL_law 4 RL "law" (some .boolean) 9 205 zrI 354 [] [] (jn_L_law_354) := by
  unfold jn_L_law_354
  refine z_iconst (n := 0) (v := 0) (q := 355) (by decide +kernel) rfl (by decide) ?_
  exact z_zret (by decide +kernel)
def jn_L_law_417 : zAH → Option (Int32 × zAH) := fun h => if (0 : Int32) = 0 ∨ (0 : Int32) = 1 then some (0, h) else none
theorem sj_L_law_417 (g : zG) (l : Launch) : zSm g l cL_law 4 RL "law" (some .boolean) 9 205 zrI 417 [] [] (jn_L_law_417) := by
  unfold jn_L_law_417
  refine z_iconst (n := 0) (v := 0) (q := 418) (by decide +kernel) rfl (by decide) ?_
  exact z_zret (by decide +kernel)
def jn_L_law_440 : zAH → Option (Int32 × zAH) := fun h => if (0 : Int32) = 0 ∨ (0 : Int32) = 1 then some (0, h) else none
theorem sj_L_law_440 (g : zG) (l : Launch) : zSm g l cL_law 4 RL "law" (some .boolean) 9 205 zrI 440 [] [] (jn_L_law_440) := by
  unfold jn_L_law_440
  refine z_iconst (n := 0) (v := 0) (q := 441) (by decide +kernel) rfl (by decide) ?_
  exact z_zret (by decide +kernel)
def jn_L_law_473 : zAH → Option (Int32 × zAH) := fun h => if (0 : Int32) = 0 ∨ (0 : Int32) = 1 then some (0, h) else none
theorem sj_L_law_473 (g : zG) (l : Launch) : zSm g l cL_law 4 RL "law" (some .boolean) 9 205 zrI 473 [] [] (jn_L_law_473) := by
  unfold jn_L_law_473
  refine z_iconst (n := 0) (v := 0) (q := 474) (by decide +kernel) rfl (by decide) ?_
  exact z_zret (by decide +kernel)
def jn_L_law_516 : zAH → Option (Int32 × zAH) := fun h => if (0 : Int32) = 0 ∨ (0 : Int32) = 1 then some (0, h) else none
theorem sj_L_law_516 (g : zG) (l : Launch) : zSm g l cL_law 4 RL "law" (some .boolean) 9 205 zrI 516 [] [] (jn_L_law_516) := by
  unfold jn_L_law_516
  refine z_iconst (n := 0) (v := 0) (q := 517) (by decide +kernel) rfl (by decide) ?_
  exact z_zret (by decide +kernel)
def jn_L_law_539 : zAH → Option (Int32 × zAH) := fun h => if (0 : Int32) = 0 ∨ (0 : Int32) = 1 then some (0, h) else none
theorem sj_L_law_539 (g : zG) (l : Launch) : zSm g l cL_law 4 RL "law" (some .boolean) 9 205 zrI 539 [] [] (jn_L_law_539) := by
  unfold jn_L_law_539
  refine z_iconst (n := 0) (v := 0) (q := 540) (by decide +kernel) rfl (by decide) ?_
  exact z_zret (by decide +kernel)
def jn_L_law_562 : zAH → Option (Int32 × zAH) := fun h => if (0 : Int32) = 0 ∨ (0 : Int32) = 1 then some (0, h) else none
theorem sj_L_law_562 (g : zG) (l : Launch) : zSm g l cL_law 4 RL "law" (some .boolean) 9 205 zrI 562 [] [] (jn_L_law_562) := by
  unfold jn_L_law_562
  refine z_iconst (n := 0) (v := 0) (q := 563) (by decide +kernel) rfl (by decide) ?_
  exact z_zret (by decide +kernel)
def jn_L_law_585 : zAH → Option (Int32 × zAH) := fun h => if (0 : Int32) = 0 ∨ (0 : Int32) = 1 then some (0, h) else none
theorem sj_L_law_585 (g : zG) (l : Launch) : zSm g l cL_law 4 RL "law" (some .boolean) 9 205 zrI 585 [] [] (jn_L_law_585) := by
  unfold jn_L_law_585
  refine z_iconst (n := 0) (v := 0) (q := 586) (by decide +kernel) rfl (by decide) ?_
  exact z_zret (by decide +kernel)
def jn_L_law_618 : zAH → Option (Int32 × zAH) := fun h => if (0 : Int32) = 0 ∨ (0 : Int32) = 1 then some (0, h) else none
theorem sj_L_law_618 (g : zG) (l : Launch) : zSm g l cL_law 4 RL "law" (some .boolean) 9 205 zrI 618 [] [] (jn_L_law_618) := by
  unfold jn_L_law_618
  refine z_iconst (n := 0) (v := 0) (q := 619) (by decide +kernel) rfl (by decide) ?_
  exact z_zret (by decide +kernel)
def jn_L_law_651 : zAH → Option (Int32 × zAH) := fun h => if (0 : Int32) = 0 ∨ (0 : Int32) = 1 then some (0, h) else none
theorem sj_L_law_651 (g : zG) (l : Launch) : zSm g l cL_law 4 RL "law" (some .boolean) 9 205 zrI 651 [] [] (jn_L_law_651) := by
  unfold jn_L_law_651
  refine z_iconst (n := 0) (v := 0) (q := 652) (by decide +kernel) rfl (by decide) ?_
  exact z_zret (by decide +kernel)
def jn_L_law_684 : zAH → Option (Int32 × zAH) := fun h => if (0 : Int32) = 0 ∨ (0 : Int32) = 1 then some (0, h) else none
theorem sj_L_law_684 (g : zG) (l : Launch) : zSm g l cL_law 4 RL "law" (some .boolean) 9 205 zrI 684 [] [] (jn_L_law_684) := by
  unfold jn_L_law_684
  refine z_iconst (n := 0) (v := 0) (q := 685) (by decide +kernel) rfl (by decide) ?_
  exact z_zret (by decide +kernel)
def jn_L_law_717 : zAH → Option (Int32 × zAH) := fun h => if (0 : Int32) = 0 ∨ (0 : Int32) = 1 then some (0, h) else none
theorem sj_L_law_717 (g : zG) (l : Launch) : zSm g l cL_law 4 RL "law" (some .boolean) 9 205 zrI 717 [] [] (jn_L_law_717) := by
  unfold jn_L_law_717
  refine z_iconst (n := 0) (v := 0) (q := 718) (by decide +kernel) rfl (by decide) ?_
  exact z_zret (by decide +kernel)
def jn_L_law_740 : zAH → Option (Int32 × zAH) := fun h => if (0 : Int32) = 0 ∨ (0 : Int32) = 1 then some (0, h) else none
theorem sj_L_law_740 (g : zG) (l : Launch) : zSm g l cL_law 4 RL "law" (some .boolean) 9 205 zrI 740 [] [] (jn_L_law_740) := by
  unfold jn_L_law_740
  refine z_iconst (n := 0) (v := 0) (q := 741) (by decide +kernel) rfl (by decide) ?_
  exact z_zret (by decide +kernel)
def jn_L_law_753 : zAH → Option (Int32 × zAH) := fun h => if (0 : Int32) = 0 ∨ (0 : Int32) = 1 then some (0, h) else none
theorem sj_L_law_753 (g : zG) (l : Launch) : zSm g l cL_law 4 RL "law" (some .boolean) 9 205 zrI 753 [] [] (jn_L_law_753) := by
  unfold jn_L_law_753
  refine z_iconst (n := 0) (v := 0) (q := 754) (by decide +kernel) rfl (by decide) ?_
  exact z_zret (by decide +kernel)
def jn_L_law_776 : zAH → Option (Int32 × zAH) := fun h => if (0 : Int32) = 0 ∨ (0 : Int32) = 1 then some (0, h) else none
theorem sj_L_law_776 (g : zG) (l : Launch) : zSm g l cL_law 4 RL "law" (some .boolean) 9 205 zrI 776 [] [] (jn_L_law_776) := by
  unfold jn_L_law_776
  refine z_iconst (n := 0) (v := 0) (q := 777) (by decide +kernel) rfl (by decide) ?_
  exact z_zret (by decide +kernel)
def jn_L_law_809 : zAH → Option (Int32 × zAH) := fun h => if (0 : Int32) = 0 ∨ (0 : Int32) = 1 then some (0, h) else none
theorem sj_L_law_809 (g : zG) (l : Launch) : zSm g l cL_law 4 RL "law" (some .boolean) 9 205 zrI 809 [] [] (jn_L_law_809) := by
  unfold jn_L_law_809
  refine z_iconst (n := 0) (v := 0) (q := 810) (by decide +kernel) rfl (by decide) ?_
  exact z_zret (by decide +kernel)
def jn_L_law_822 : zAH → Option (Int32 × zAH) := fun h => if (0 : Int32) = 0 ∨ (0 : Int32) = 1 then some (0, h) else none
theorem sj_L_law_822 (g : zG) (l : Launch) : zSm g l cL_law 4 RL "law" (some .boolean) 9 205 zrI 822 [] [] (jn_L_law_822) := by
  unfold jn_L_law_822
  refine z_iconst (n := 0) (v := 0) (q := 823) (by decide +kernel) rfl (by decide) ?_
  exact z_zret (by decide +kernel)
def jn_L_law_845 : zAH → Option (Int32 × zAH) := fun h => if (0 : Int32) = 0 ∨ (0 : Int32) = 1 then some (0, h) else none
theorem sj_L_law_845 (g : zG) (l : Launch) : zSm g l cL_law 4 RL "law" (some .boolean) 9 205 zrI 845 [] [] (jn_L_law_845) := by
  unfold jn_L_law_845
  refine z_iconst (n := 0) (v := 0) (q := 846) (by decide +kernel) rfl (by decide) ?_
  exact z_zret (by decide +kernel)
def jn_L_law_868 : zAH → Option (Int32 × zAH) := fun h => if (0 : Int32) = 0 ∨ (0 : Int32) = 1 then some (0, h) else none
theorem sj_L_law_868 (g : zG) (l : Launch) : zSm g l cL_law 4 RL "law" (some .boolean) 9 205 zrI 868 [] [] (jn_L_law_868) := by
  unfold jn_L_law_868
  refine z_iconst (n := 0) (v := 0) (q := 869) (by decide +kernel) rfl (by decide) ?_
  exact z_zret (by decide +kernel)
def jn_L_law_891 : zAH → Option (Int32 × zAH) := fun h => if (0 : Int32) = 0 ∨ (0 : Int32) = 1 then some (0, h) else none
theorem sj_L_law_891 (g : zG) (l : Launch) : zSm g l cL_law 4 RL "law" (some .boolean) 9 205 zrI 891 [] [] (jn_L_law_891) := by
  unfold jn_L_law_891
  refine z_iconst (n := 0) (v := 0) (q := 892) (by decide +kernel) rfl (by decide) ?_
  exact z_zret (by decide +kernel)
def jn_L_law_904 : zAH → Option (Int32 × zAH) := fun h => if (0 : Int32) = 0 ∨ (0 : Int32) = 1 then some (0, h) else none
theorem sj_L_law_904 (g : zG) (l : Launch) : zSm g l cL_law 4 RL "law" (some .boolean) 9 205 zrI 904 [] [] (jn_L_law_904) := by
  unfold jn_L_law_904
  refine z_iconst (n := 0) (v := 0) (q := 905) (by decide +kernel) rfl (by decide) ?_
  exact z_zret (by decide +kernel)
def jn_L_law_927 : zAH → Option (Int32 × zAH) := fun h => if (0 : Int32) = 0 ∨ (0 : Int32) = 1 then some (0, h) else none
theorem sj_L_law_927 (g : zG) (l : Launch) : zSm g l cL_law 4 RL "law" (some .boolean) 9 205 zrI 927 [] [] (jn_L_law_927) := by
  unfold jn_L_law_927
  refine z_iconst (n := 0) (v := 0) (q := 928) (by decide +kernel) rfl (by decide) ?_
  exact z_zret (by decide +kernel)
def jn_L_law_950 : zAH → Option (Int32 × zAH) := fun h => if (0 : Int32) = 0 ∨ (0 : Int32) = 1 then some (0, h) else none
theorem sj_L_law_950 (g : zG) (l : Launch) : zSm g l cL_law 4 RL "law" (some .boolean) 9 205 zrI 950 [] [] (jn_L_law_950) := by
  unfold jn_L_law_950
  refine z_iconst (n := 0) (v := 0) (q := 951) (by decide +kernel) rfl (by decide) ?_
  exact z_zret (by decide +kernel)
def jn_L_law_983 : zAH → Option (Int32 × zAH) := fun h => if (0 : Int32) = 0 ∨ (0 : Int32) = 1 then some (0, h) else none
theorem sj_L_law_983 (g : zG) (l : Launch) : zSm g l cL_law 4 RL "law" (some .boolean) 9 205 zrI 983 [] [] (jn_L_law_983) := by
  unfold jn_L_law_983
  refine z_iconst (n := 0) (v := 0) (q := 984) (by decide +kernel) rfl (by decide) ?_
  exact z_zret (by decide +kernel)
def jn_L_law_1016 : zAH → Option (Int32 × zAH) := fun h => if (0 : Int32) = 0 ∨ (0 : Int32) = 1 then some (0, h) else none
theorem sj_L_law_1016 (g : zG) (l : Launch) : zSm g l cL_law 4 RL "law" (some .boolean) 9 205 zrI 1016 [] [] (jn_L_law_1016) := by
  unfold jn_L_law_1016
  refine z_iconst (n := 0) (v := 0) (q := 1017) (by decide +kernel) rfl (by decide) ?_
  exact z_zret (by decide +kernel)
def jn_L_law_1059 : zAH → Option (Int32 × zAH) := fun h => if (0 : Int32) = 0 ∨ (0 : Int32) = 1 then some (0, h) else none
theorem sj_L_law_1059 (g : zG) (l : Launch) : zSm g l cL_law 4 RL "law" (some .boolean) 9 205 zrI 1059 [] [] (jn_L_law_1059) := by
  unfold jn_L_law_1059
  refine z_iconst (n := 0) (v := 0) (q := 1060) (by decide +kernel) rfl (by decide) ?_
  exact z_zret (by decide +kernel)
def jn_L_law_1112 : zAH → Option (Int32 × zAH) := fun h => if (0 : Int32) = 0 ∨ (0 : Int32) = 1 then some (0, h) else none
theorem sj_L_law_1112 (g : zG) (l : Launch) : zSm g l cL_law 4 RL "law" (some .boolean) 9 205 zrI 1112 [] [] (jn_L_law_1112) := by
  unfold jn_L_law_1112
  refine z_iconst (n := 0) (v := 0) (q := 1113) (by decide +kernel) rfl (by decide) ?_
  exact z_zret (by decide +kernel)
def jn_L_law_1155 : zAH → Option (Int32 × zAH) := fun h => if (0 : Int32) = 0 ∨ (0 : Int32) = 1 then some (0, h) else none
theorem sj_L_law_1155 (g : zG) (l : Launch) : zSm g l cL_law 4 RL "law" (some .boolean) 9 205 zrI 1155 [] [] (jn_L_law_1155) := by
  unfold jn_L_law_1155
  refine z_iconst (n := 0) (v := 0) (q := 1156) (by decide +kernel) rfl (by decide) ?_
  exact z_zret (by decide +kernel)
def jn_L_law_1178 : zAH → Option (Int32 × zAH) := fun h => if (0 : Int32) = 0 ∨ (0 : Int32) = 1 then some (0, h) else none
theorem sj_L_law_1178 (g : zG) (l : Launch) : zSm g l cL_law 4 RL "law" (some .boolean) 9 205 zrI 1178 [] [] (jn_L_law_1178) := by
  unfold jn_L_law_1178
  refine z_iconst (n := 0) (v := 0) (q := 1179) (by decide +kernel) rfl (by decide) ?_
  exact z_zret (by decide +kernel)
def jn_L_law_1201 : zAH → Option (Int32 × zAH) := fun h => if (0 : Int32) = 0 ∨ (0 : Int32) = 1 then some (0, h) else none
theorem sj_L_law_1201 (g : zG) (l : Launch) : zSm g l cL_law 4 RL "law" (some .boolean) 9 205 zrI 1201 [] [] (jn_L_law_1201) := by
  unfold jn_L_law_1201
  refine z_iconst (n := 0) (v := 0) (q := 1202) (by decide +kernel) rfl (by decide) ?_
  exact z_zret (by decide +kernel)
def jn_L_law_1234 : zAH → Option (Int32 × zAH) := fun h => if (0 : Int32) = 0 ∨ (0 : Int32) = 1 then some (0, h) else none
theorem sj_L_law_1234 (g : zG) (l : Launch) : zSm g l cL_law 4 RL "law" (some .boolean) 9 205 zrI 1234 [] [] (jn_L_law_1234) := by
  unfold jn_L_law_1234
  refine z_iconst (n := 0) (v := 0) (q := 1235) (by decide +kernel) rfl (by decide) ?_
  exact z_zret (by decide +kernel)
def jn_L_law_1277 : zAH → Option (Int32 × zAH) := fun h => if (0 : Int32) = 0 ∨ (0 : Int32) = 1 then some (0, h) else none
theorem sj_L_law_1277 (g : zG) (l : Launch) : zSm g l cL_law 4 RL "law" (some .boolean) 9 205 zrI 1277 [] [] (jn_L_law_1277) := by
  unfold jn_L_law_1277
  refine z_iconst (n := 0) (v := 0) (q := 1278) (by decide +kernel) rfl (by decide) ?_
  exact z_zret (by decide +kernel)
def jn_L_law_1300 : zAH → Option (Int32 × zAH) := fun h => if (0 : Int32) = 0 ∨ (0 : Int32) = 1 then some (0, h) else none
theorem sj_L_law_1300 (g : zG) (l : Launch) : zSm g l cL_law 4 RL "law" (some .boolean) 9 205 zrI 1300 [] [] (jn_L_law_1300) := by
  unfold jn_L_law_1300
  refine z_iconst (n := 0) (v := 0) (q := 1301) (by decide +kernel) rfl (by decide) ?_
  exact z_zret (by decide +kernel)
def jn_L_law_1343 : zAH → Option (Int32 × zAH) := fun h => if (0 : Int32) = 0 ∨ (0 : Int32) = 1 then some (0, h) else none
theorem sj_L_law_1343 (g : zG) (l : Launch) : zSm g l cL_law 4 RL "law" (some .boolean) 9 205 zrI 1343 [] [] (jn_L_law_1343) := by
  unfold jn_L_law_1343
  refine z_iconst (n := 0) (v := 0) (q := 1344) (by decide +kernel) rfl (by decide) ?_
  exact z_zret (by decide +kernel)
def jn_L_law_1356 : zAH → Option (Int32 × zAH) := fun h => if (0 : Int32) = 0 ∨ (0 : Int32) = 1 then some (0, h) else none
theorem sj_L_law_1356 (g : zG) (l : Launch) : zSm g l cL_law 4 RL "law" (some .boolean) 9 205 zrI 1356 [] [] (jn_L_law_1356) := by
  unfold jn_L_law_1356
  refine z_iconst (n := 0) (v := 0) (q := 1357) (by decide +kernel) rfl (by decide) ?_
  exact z_zret (by decide +kernel)
def jn_L_law_1370 : zAH → Option (Int32 × zAH) := fun h => if (0 : Int32) = 0 ∨ (0 : Int32) = 1 then some (0, h) else none
theorem sj_L_law_1370 (g : zG) (l : Launch) : zSm g l cL_law 4 RL "law" (some .boolean) 9 205 zrI 1370 [] [] (jn_L_law_1370) := by
  unfold jn_L_law_1370
  refine z_iconst (n := 0) (v := 0) (q := 1371) (by decide +kernel) rfl (by decide) ?_
  exact z_zret (by decide +kernel)
def jn_L_law_1384 : zAH → Option (Int32 × zAH) := fun h => if (0 : Int32) = 0 ∨ (0 : Int32) = 1 then some (0, h) else none
theorem sj_L_law_1384 (g : zG) (l : Launch) : zSm g l cL_law 4 RL "law" (some .boolean) 9 205 zrI 1384 [] [] (jn_L_law_1384) := by
  unfold jn_L_law_1384
  refine z_iconst (n := 0) (v := 0) (q := 1385) (by decide +kernel) rfl (by decide) ?_
  exact z_zret (by decide +kernel)
def jn_L_law_1407 : zAH → Option (Int32 × zAH) := fun h => if (0 : Int32) = 0 ∨ (0 : Int32) = 1 then some (0, h) else none
theorem sj_L_law_1407 (g : zG) (l : Launch) : zSm g l cL_law 4 RL "law" (some .boolean) 9 205 zrI 1407 [] [] (jn_L_law_1407) := by
  unfold jn_L_law_1407
  refine z_iconst (n := 0) (v := 0) (q := 1408) (by decide +kernel) rfl (by decide) ?_
  exact z_zret (by decide +kernel)
def jn_L_law_1420 : zAH → Option (Int32 × zAH) := fun h => if (0 : Int32) = 0 ∨ (0 : Int32) = 1 then some (0, h) else none
theorem sj_L_law_1420 (g : zG) (l : Launch) : zSm g l cL_law 4 RL "law" (some .boolean) 9 205 zrI 1420 [] [] (jn_L_law_1420) := by
  unfold jn_L_law_1420
  refine z_iconst (n := 0) (v := 0) (q := 1421) (by decide +kernel) rfl (by decide) ?_
  exact z_zret (by decide +kernel)
def jn_L_law_1443 : zAH → Option (Int32 × zAH) := fun h => if (0 : Int32) = 0 ∨ (0 : Int32) = 1 then some (0, h) else none
theorem sj_L_law_1443 (g : zG) (l : Launch) : zSm g l cL_law 4 RL "law" (some .boolean) 9 205 zrI 1443 [] [] (jn_L_law_1443) := by
  unfold jn_L_law_1443
  refine z_iconst (n := 0) (v := 0) (q := 1444) (by decide +kernel) rfl (by decide) ?_
  exact z_zret (by decide +kernel)
def jn_L_law_1457 : zAH → Option (Int32 × zAH) := fun h => if (0 : Int32) = 0 ∨ (0 : Int32) = 1 then some (0, h) else none
theorem sj_L_law_1457 (g : zG) (l : Launch) : zSm g l cL_law 4 RL "law" (some .boolean) 9 205 zrI 1457 [] [] (jn_L_law_1457) := by
  unfold jn_L_law_1457
  refine z_iconst (n := 0) (v := 0) (q := 1458) (by decide +kernel) rfl (by decide) ?_
  exact z_zret (by decide +kernel)
def jn_L_law_1465 : zAH → Option (Int32 × zAH) := fun h => if (1 : Int32) = 0 ∨ (1 : Int32) = 1 then some (1, h) else none
theorem sj_L_law_1465 (g : zG) (l : Launch) : zSm g l cL_law 4 RL "law" (some .boolean) 9 205 zrI 1465 [] [] (jn_L_law_1465) := by
  unfold jn_L_law_1465
  refine z_iconst (n := 1) (v := 1) (q := 1466) (by decide +kernel) rfl (by decide) ?_
  exact z_zret (by decide +kernel)
def lb_L_law_18 (v0 : Nat) (v1 : Nat) (v2 : Nat) (rec : (Int32) → zAH → Option (Int32 × zAH)) (s : Int32) : zAH → Option (Int32 × zAH) := fun h => (zaN v0 h).bind fun x1 => if (x1 - 6) < s then jn_L_law_1465 h else (zaI 0 v0 s h).bind fun x2 => if (x2 &&& 63) = 0 then (zaI 0 v0 (s + 1) h).bind fun x3 => (zaI 0 v0 (s + 2) h).bind fun x4 => zbd (dn_X4_row v1 x3 x4 h) fun x5 h6 => (zaI 0 v0 (s + 1) h6).bind fun x7 => (zaI 0 v0 (s + 2) h6).bind fun x8 => zbd (dn_X5_row v2 x7 x8 h6) fun x9 h10 => if x5 = x9 then jn_L_law_1459 rec v0 v1 v2 s h10 else jn_L_law_255 h10 else if (x2 &&& 63) = 1 then (zaI 0 v0 (s + 1) h).bind fun x12 => (zaI 0 v0 (s + 2) h).bind fun x13 => (zaI 0 v0 (s + 3) h).bind fun x14 => zbd (dn_X4_lay v1 x12 x13 x14 h) fun x15 h16 => (zaI 0 v0 (s + 1) h16).bind fun x17 => (zaI 0 v0 (s + 2) h16).bind fun x18 => (zaI 0 v0 (s + 3) h16).bind fun x19 => zbd (dn_X5_lay v2 x17 x18 x19 h16) fun x20 h21 => if x15 = x20 then jn_L_law_1459 rec v0 v1 v2 s h21 else jn_L_law_298 h21 else if (x2 &&& 63) = 2 then (zaI 0 v0 (s + 1) h).bind fun x23 => (zaI 0 v0 (s + 2) h).bind fun x24 => zbd (dn_X4_at v1 x23 x24 h) fun x25 h26 => (zaI 0 v0 (s + 1) h26).bind fun x27 => (zaI 0 v0 (s + 2) h26).bind fun x28 => zbd (dn_X5_at v2 x27 x28 h26) fun x29 h30 => if x25 = x29 then jn_L_law_1459 rec v0 v1 v2 s h30 else jn_L_law_331 h30 else if (x2 &&& 63) = 3 then (zaI 0 v0 (s + 1) h).bind fun x32 => zbd (dn_X4_tear v1 x32 h) fun x33 h34 => (zaI 0 v0 (s + 1) h34).bind fun x35 => zbd (dn_X5_tear v2 x35 h34) fun x36 h37 => if x33 = x36 then jn_L_law_1459 rec v0 v1 v2 s h37 else jn_L_law_354 h37 else if (x2 &&& 63) = 4 then (zaI 0 v0 (s + 1) h).bind fun x39 => (zaI 0 v0 (s + 2) h).bind fun x40 => (zaI 0 v0 (s + 3) h).bind fun x41 => (zaI 0 v0 (s + 4) h).bind fun x42 => (zaI 0 v0 (s + 5) h).bind fun x43 => zbd (dn_X4_copy v1 x39 x40 x41 x42 x43 h) fun x44 h45 => (zaI 0 v0 (s + 1) h45).bind fun x46 => (zaI 0 v0 (s + 2) h45).bind fun x47 => (zaI 0 v0 (s + 3) h45).bind fun x48 => (zaI 0 v0 (s + 4) h45).bind fun x49 => (zaI 0 v0 (s + 5) h45).bind fun x50 => zbd (dn_X5_copy v2 x46 x47 x48 x49 x50 h45) fun x51 h52 => if x44 = x51 then jn_L_law_1459 rec v0 v1 v2 s h52 else jn_L_law_417 h52 else if (x2 &&& 63) = 5 then (zaI 0 v0 (s + 1) h).bind fun x54 => zbd (dn_X4_mean v1 x54 h) fun x55 h56 => (zaI 0 v0 (s + 1) h56).bind fun x57 => zbd (dn_X5_mean v2 x57 h56) fun x58 h59 => if x55 = x58 then jn_L_law_1459 rec v0 v1 v2 s h59 else jn_L_law_440 h59 else if (x2 &&& 63) = 6 then (zaI 0 v0 (s + 1) h).bind fun x61 => (zaI 0 v0 (s + 2) h).bind fun x62 => zbd (dn_X4_text v1 x61 x62 h) fun x63 h64 => (zaI 0 v0 (s + 1) h64).bind fun x65 => (zaI 0 v0 (s + 2) h64).bind fun x66 => zbd (dn_X5_text v2 x65 x66 h64) fun x67 h68 => if x63 = x67 then jn_L_law_1459 rec v0 v1 v2 s h68 else jn_L_law_473 h68 else if (x2 &&& 63) = 7 then (zaI 0 v0 (s + 1) h).bind fun x70 => (zaI 0 v0 (s + 2) h).bind fun x71 => (zaI 0 v0 (s + 3) h).bind fun x72 => zbd (dn_X4_put v1 x70 x71 x72 h) fun x73 h74 => (zaI 0 v0 (s + 1) h74).bind fun x75 => (zaI 0 v0 (s + 2) h74).bind fun x76 => (zaI 0 v0 (s + 3) h74).bind fun x77 => zbd (dn_X5_put v2 x75 x76 x77 h74) fun x78 h79 => if x73 = x78 then jn_L_law_1459 rec v0 v1 v2 s h79 else jn_L_law_516 h79 else if (x2 &&& 63) = 8 then (zaI 0 v0 (s + 1) h).bind fun x81 => zbd (dn_X4_fault v1 x81 h) fun x82 h83 => (zaI 0 v0 (s + 1) h83).bind fun x84 => zbd (dn_X5_fault v2 x84 h83) fun x85 h86 => if x82 = x85 then jn_L_law_1459 rec v0 v1 v2 s h86 else jn_L_law_539 h86 else if (x2 &&& 63) = 9 then (zaI 0 v0 (s + 1) h).bind fun x88 => zbd (dn_X4_hill v1 x88 h) fun x89 h90 => (zaI 0 v0 (s + 1) h90).bind fun x91 => zbd (dn_X5_hill v2 x91 h90) fun x92 h93 => if x89 = x92 then jn_L_law_1459 rec v0 v1 v2 s h93 else jn_L_law_562 h93 else if (x2 &&& 63) = 10 then (zaI 0 v0 (s + 1) h).bind fun x95 => zbd (dn_X4_road v1 x95 h) fun x96 h97 => (zaI 0 v0 (s + 1) h97).bind fun x98 => zbd (dn_X5_road v2 x98 h97) fun x99 h100 => if x96 = x99 then jn_L_law_1459 rec v0 v1 v2 s h100 else jn_L_law_585 h100 else if (x2 &&& 63) = 11 then (zaI 0 v0 (s + 1) h).bind fun x102 => (zaI 0 v0 (s + 2) h).bind fun x103 => zbd (dn_X4_about v1 x102 x103 h) fun x104 h105 => (zaI 0 v0 (s + 1) h105).bind fun x106 => (zaI 0 v0 (s + 2) h105).bind fun x107 => zbd (dn_X5_about v2 x106 x107 h105) fun x108 h109 => if x104 = x108 then jn_L_law_1459 rec v0 v1 v2 s h109 else jn_L_law_618 h109 else if (x2 &&& 63) = 12 then (zaI 0 v0 (s + 1) h).bind fun x111 => (zaI 0 v0 (s + 2) h).bind fun x112 => zbd (dn_X4_pace v1 x111 x112 h) fun x113 h114 => (zaI 0 v0 (s + 1) h114).bind fun x115 => (zaI 0 v0 (s + 2) h114).bind fun x116 => zbd (dn_X5_pace v2 x115 x116 h114) fun x117 h118 => if x113 = x117 then jn_L_law_1459 rec v0 v1 v2 s h118 else jn_L_law_651 h118 else if (x2 &&& 63) = 13 then (zaI 0 v0 (s + 1) h).bind fun x120 => (zaI 0 v0 (s + 2) h).bind fun x121 => zbd (dn_X4_mark v1 x120 x121 h) fun x122 h123 => (zaI 0 v0 (s + 1) h123).bind fun x124 => (zaI 0 v0 (s + 2) h123).bind fun x125 => zbd (dn_X5_mark v2 x124 x125 h123) fun x126 h127 => if x122 = x126 then jn_L_law_1459 rec v0 v1 v2 s h127 else jn_L_law_684 h127 else if (x2 &&& 63) = 14 then (zaI 0 v0 (s + 1) h).bind fun x129 => (zaI 0 v0 (s + 2) h).bind fun x130 => zbd (dn_X4_head v1 x129 x130 h) fun x131 h132 => (zaI 0 v0 (s + 1) h132).bind fun x133 => (zaI 0 v0 (s + 2) h132).bind fun x134 => zbd (dn_X5_head v2 x133 x134 h132) fun x135 h136 => if x131 = x135 then jn_L_law_1459 rec v0 v1 v2 s h136 else jn_L_law_717 h136 else if (x2 &&& 63) = 15 then (zaI 0 v0 (s + 1) h).bind fun x138 => zbd (dn_X4_law v1 x138 h) fun x139 h140 => (zaI 0 v0 (s + 1) h140).bind fun x141 => zbd (dn_X5_law v2 x141 h140) fun x142 h143 => if x139 = x142 then jn_L_law_1459 rec v0 v1 v2 s h143 else jn_L_law_740 h143 else if (x2 &&& 63) = 16 then zbd (dn_X4_begin v1 h) fun x145 h146 => zbd (dn_X5_begin v2 h146) fun x147 h148 => if x145 = x147 then jn_L_law_1459 rec v0 v1 v2 s h148 else jn_L_law_753 h148 else if (x2 &&& 63) = 17 then (zaI 0 v0 (s + 1) h).bind fun x150 => zbd (dn_X4_go v1 x150 h) fun x151 h152 => (zaI 0 v0 (s + 1) h152).bind fun x153 => zbd (dn_X5_go v2 x153 h152) fun x154 h155 => if x151 = x154 then jn_L_law_1459 rec v0 v1 v2 s h155 else jn_L_law_776 h155 else if (x2 &&& 63) = 18 then (zaI 0 v0 (s + 1) h).bind fun x157 => (zaI 0 v0 (s + 2) h).bind fun x158 => zbd (dn_X4_told v1 x157 x158 h) fun x159 h160 => (zaI 0 v0 (s + 1) h160).bind fun x161 => (zaI 0 v0 (s + 2) h160).bind fun x162 => zbd (dn_X5_told v2 x161 x162 h160) fun x163 h164 => if x159 = x163 then jn_L_law_1459 rec v0 v1 v2 s h164 else jn_L_law_809 h164 else if (x2 &&& 63) = 19 then zbd (dn_X4_sack v1 h) fun x166 h167 => zbd (dn_X5_sack v2 h167) fun x168 h169 => if x166 = x168 then jn_L_law_1459 rec v0 v1 v2 s h169 else jn_L_law_822 h169 else if (x2 &&& 63) = 20 then (zaI 0 v0 (s + 1) h).bind fun x171 => zbd (dn_X4_passed v1 x171 h) fun x172 h173 => (zaI 0 v0 (s + 1) h173).bind fun x174 => zbd (dn_X5_passed v2 x174 h173) fun x175 h176 => if x172 = x175 then jn_L_law_1459 rec v0 v1 v2 s h176 else jn_L_law_845 h176 else if (x2 &&& 63) = 21 then (zaI 0 v0 (s + 1) h).bind fun x178 => zbd (dn_X4_keep v1 x178 h) fun x179 h180 => (zaI 0 v0 (s + 1) h180).bind fun x181 => zbd (dn_X5_keep v2 x181 h180) fun x182 h183 => if x179 = x182 then jn_L_law_1459 rec v0 v1 v2 s h183 else jn_L_law_868 h183 else if (x2 &&& 63) = 22 then (zaI 0 v0 (s + 1) h).bind fun x185 => zbd (dn_X4_on v1 x185 h) fun x186 h187 => (zaI 0 v0 (s + 1) h187).bind fun x188 => zbd (dn_X5_on v2 x188 h187) fun x189 h190 => if x186 = x189 then jn_L_law_1459 rec v0 v1 v2 s h190 else jn_L_law_891 h190 else if (x2 &&& 63) = 23 then zbd (dn_X4_pays v1 h) fun x192 h193 => zbd (dn_X5_pays v2 h193) fun x194 h195 => if x192 = x194 then jn_L_law_1459 rec v0 v1 v2 s h195 else jn_L_law_904 h195 else if (x2 &&& 63) = 24 then (zaI 0 v0 (s + 1) h).bind fun x197 => zbd (dn_X4_ranks v1 x197 h) fun x198 h199 => (zaI 0 v0 (s + 1) h199).bind fun x200 => zbd (dn_X5_ranks v2 x200 h199) fun x201 h202 => if x198 = x201 then jn_L_law_1459 rec v0 v1 v2 s h202 else jn_L_law_927 h202 else if (x2 &&& 63) = 25 then (zaI 0 v0 (s + 1) h).bind fun x204 => zbd (dn_X4_laws v1 x204 h) fun x205 h206 => (zaI 0 v0 (s + 1) h206).bind fun x207 => zbd (dn_X5_laws v2 x207 h206) fun x208 h209 => if x205 = x208 then jn_L_law_1459 rec v0 v1 v2 s h209 else jn_L_law_950 h209 else if (x2 &&& 63) = 26 then (zaI 0 v0 (s + 1) h).bind fun x211 => (zaI 0 v0 (s + 2) h).bind fun x212 => zbd (dn_X4_best v1 x211 x212 h) fun x213 h214 => (zaI 0 v0 (s + 1) h214).bind fun x215 => (zaI 0 v0 (s + 2) h214).bind fun x216 => zbd (dn_X5_best v2 x215 x216 h214) fun x217 h218 => if x213 = x217 then jn_L_law_1459 rec v0 v1 v2 s h218 else jn_L_law_983 h218 else if (x2 &&& 63) = 27 then (zaI 0 v0 (s + 1) h).bind fun x220 => (zaI 0 v0 (s + 2) h).bind fun x221 => zbd (dn_X4_free v1 x220 x221 h) fun x222 h223 => (zaI 0 v0 (s + 1) h223).bind fun x224 => (zaI 0 v0 (s + 2) h223).bind fun x225 => zbd (dn_X5_free v2 x224 x225 h223) fun x226 h227 => if x222 = x226 then jn_L_law_1459 rec v0 v1 v2 s h227 else jn_L_law_1016 h227 else if (x2 &&& 63) = 28 then (zaI 0 v0 (s + 1) h).bind fun x229 => (zaI 0 v0 (s + 2) h).bind fun x230 => (zaI 0 v0 (s + 3) h).bind fun x231 => zbd (dn_X4_duel v1 x229 x230 x231 h) fun x232 h233 => (zaI 0 v0 (s + 1) h233).bind fun x234 => (zaI 0 v0 (s + 2) h233).bind fun x235 => (zaI 0 v0 (s + 3) h233).bind fun x236 => zbd (dn_X5_duel v2 x234 x235 x236 h233) fun x237 h238 => if x232 = x237 then jn_L_law_1459 rec v0 v1 v2 s h238 else jn_L_law_1059 h238 else if (x2 &&& 63) = 29 then (zaI 0 v0 (s + 1) h).bind fun x240 => (zaI 0 v0 (s + 2) h).bind fun x241 => (zaI 0 v0 (s + 3) h).bind fun x242 => (zaI 0 v0 (s + 4) h).bind fun x243 => zbd (dn_X4_pact v1 x240 x241 x242 x243 h) fun x244 h245 => (zaI 0 v0 (s + 1) h245).bind fun x246 => (zaI 0 v0 (s + 2) h245).bind fun x247 => (zaI 0 v0 (s + 3) h245).bind fun x248 => (zaI 0 v0 (s + 4) h245).bind fun x249 => zbd (dn_X5_pact v2 x246 x247 x248 x249 h245) fun x250 h251 => if x244 = x250 then jn_L_law_1459 rec v0 v1 v2 s h251 else jn_L_law_1112 h251 else if (x2 &&& 63) = 30 then (zaI 0 v0 (s + 1) h).bind fun x253 => (zaI 0 v0 (s + 2) h).bind fun x254 => (zaI 0 v0 (s + 3) h).bind fun x255 => zbd (dn_X4_worth v1 x253 x254 x255 h) fun x256 h257 => (zaI 0 v0 (s + 1) h257).bind fun x258 => (zaI 0 v0 (s + 2) h257).bind fun x259 => (zaI 0 v0 (s + 3) h257).bind fun x260 => zbd (dn_X5_worth v2 x258 x259 x260 h257) fun x261 h262 => if x256 = x261 then jn_L_law_1459 rec v0 v1 v2 s h262 else jn_L_law_1155 h262 else if (x2 &&& 63) = 31 then (zaI 0 v0 (s + 1) h).bind fun x264 => zbd (dn_X4_start v1 x264 h) fun x265 h266 => (zaI 0 v0 (s + 1) h266).bind fun x267 => zbd (dn_X5_start v2 x267 h266) fun x268 h269 => if x265 = x268 then jn_L_law_1459 rec v0 v1 v2 s h269 else jn_L_law_1178 h269 else if (x2 &&& 63) = 32 then (zaI 0 v0 (s + 1) h).bind fun x271 => zbd (dn_X4_fair v1 x271 h) fun x272 h273 => (zaI 0 v0 (s + 1) h273).bind fun x274 => zbd (dn_X5_fair v2 x274 h273) fun x275 h276 => if x272 = x275 then jn_L_law_1459 rec v0 v1 v2 s h276 else jn_L_law_1201 h276 else if (x2 &&& 63) = 33 then (zaI 0 v0 (s + 1) h).bind fun x278 => (zaI 0 v0 (s + 2) h).bind fun x279 => zbd (dn_X4_post v1 x278 x279 h) fun x280 h281 => (zaI 0 v0 (s + 1) h281).bind fun x282 => (zaI 0 v0 (s + 2) h281).bind fun x283 => zbd (dn_X5_post v2 x282 x283 h281) fun x284 h285 => if x280 = x284 then jn_L_law_1459 rec v0 v1 v2 s h285 else jn_L_law_1234 h285 else if (x2 &&& 63) = 34 then (zaI 0 v0 (s + 1) h).bind fun x287 => (zaI 0 v0 (s + 2) h).bind fun x288 => (zaI 0 v0 (s + 3) h).bind fun x289 => zbd (dn_X4_could v1 x287 x288 x289 h) fun x290 h291 => (zaI 0 v0 (s + 1) h291).bind fun x292 => (zaI 0 v0 (s + 2) h291).bind fun x293 => (zaI 0 v0 (s + 3) h291).bind fun x294 => zbd (dn_X5_could v2 x292 x293 x294 h291) fun x295 h296 => if x290 = x295 then jn_L_law_1459 rec v0 v1 v2 s h296 else jn_L_law_1277 h296 else if (x2 &&& 63) = 35 then (zaI 0 v0 (s + 1) h).bind fun x298 => zbd (dn_X4_odds v1 x298 h) fun x299 h300 => (zaI 0 v0 (s + 1) h300).bind fun x301 => zbd (dn_X5_odds v2 x301 h300) fun x302 h303 => if x299 = x302 then jn_L_law_1459 rec v0 v1 v2 s h303 else jn_L_law_1300 h303 else if (x2 &&& 63) = 36 then (zaI 0 v0 (s + 1) h).bind fun x305 => (zaI 0 v0 (s + 2) h).bind fun x306 => (zaI 0 v0 (s + 3) h).bind fun x307 => zbd (dn_X4_season v1 x305 x306 x307 h) fun x308 h309 => (zaI 0 v0 (s + 1) h309).bind fun x310 => (zaI 0 v0 (s + 2) h309).bind fun x311 => (zaI 0 v0 (s + 3) h309).bind fun x312 => zbd (dn_X5_season v2 x310 x311 x312 h309) fun x313 h314 => if x308 = x313 then jn_L_law_1459 rec v0 v1 v2 s h314 else jn_L_law_1343 h314 else if (x2 &&& 63) = 37 then zbd (dn_X4_asked v1 h) fun x316 h317 => zbd (dn_X5_asked v2 h317) fun x318 h319 => if x316 = x318 then jn_L_law_1459 rec v0 v1 v2 s h319 else jn_L_law_1356 h319 else if (x2 &&& 63) = 38 then zbd (dn_X4_upper v1 h) fun x321 h322 => zbd (dn_X5_upper v2 h322) fun x323 h324 => if (lg_cmp x321 x323) = 0 then jn_L_law_1459 rec v0 v1 v2 s h324 else jn_L_law_1370 h324 else if (x2 &&& 63) = 39 then zbd (dn_X4_lower v1 h) fun x326 h327 => zbd (dn_X5_lower v2 h327) fun x328 h329 => if (lg_cmp x326 x328) = 0 then jn_L_law_1459 rec v0 v1 v2 s h329 else jn_L_law_1384 h329 else if (x2 &&& 63) = 40 then (zaI 0 v0 (s + 1) h).bind fun x331 => zbd (dn_X4_count v1 x331 h) fun x332 h333 => (zaI 0 v0 (s + 1) h333).bind fun x334 => zbd (dn_X5_count v2 x334 h333) fun x335 h336 => if x332 = x335 then jn_L_law_1459 rec v0 v1 v2 s h336 else jn_L_law_1407 h336 else if (x2 &&& 63) = 41 then zbd (dn_X4_finding v1 h) fun x338 h339 => zbd (dn_X5_finding v2 h339) fun x340 h341 => if x338 = x340 then jn_L_law_1459 rec v0 v1 v2 s h341 else jn_L_law_1420 h341 else if (x2 &&& 63) = 42 then (zaI 0 v0 (s + 1) h).bind fun x343 => zbd (dn_X4_findings v1 x343 h) fun x344 h345 => (zaI 0 v0 (s + 1) h345).bind fun x346 => zbd (dn_X5_findings v2 x346 h345) fun x347 h348 => if x344 = x347 then jn_L_law_1459 rec v0 v1 v2 s h348 else jn_L_law_1443 h348 else if (x2 &&& 63) = 43 then zbd (dn_X4_digest v1 h) fun x350 h351 => zbd (dn_X5_digest v2 h351) fun x352 h353 => if (lg_cmp x350 x352) = 0 then jn_L_law_1459 rec v0 v1 v2 s h353 else jn_L_law_1457 h353 else jn_L_law_1459 rec v0 v1 v2 s h
def lp_L_law_18 (v0 : Nat) (v1 : Nat) (v2 : Nat) (s : Int32) : zAH → Option (Int32 × zAH) := zlp (lb_L_law_18 v0 v1 v2) 2000 s
theorem sl_L_law_18 (g : zG) (l : Launch) (v0 : Nat) (v1 : Nat) (v2 : Nat) (s : Int32) : zSm g l cL_law 4 RL "law" (some .boolean) 9 205 zrI 18 [(0, .ref v0), (1, .ref v1), (2, .ref v2), (3, .int s)] [] (lp_L_law_18 v0 v1 v2 s) := by
  unfold lp_L_law_18
  refine z_loop (lvf := fun s => [(0, .ref v0), (1, .ref v1), (2, .ref v2), (3, .int s)]) (fun rec hrec s => ?_) 2000 s
  unfold lb_L_law_18
  refine z_iload_n (j := 3) (q := 19) (by decide +kernel) rfl 3 rfl ?_
  refine z_aload_n (j := 0) (q := 20) (by decide +kernel) rfl 0 rfl ?_
  refine z_alen (q := 21) (by decide +kernel) rfl fun x1 => ?_
  refine z_bipush (n := 6) (v := 6) (q := 23) (by decide +kernel) rfl (by decide) ?_
  refine z_isub (q := 24) (by decide +kernel) rfl ?_
  refine z_icmp_gt (off := 1441) (t := 1465) (q := 27) (by decide +kernel) (by decide) rfl ?_ ?_
  · refine zsub [] rfl ?_
    exact sj_L_law_1465 g l 
  · refine z_aload_n (j := 0) (q := 28) (by decide +kernel) rfl 0 rfl ?_
    refine z_iload_n (j := 3) (q := 29) (by decide +kernel) rfl 3 rfl ?_
    refine z_iald (q := 30) (Or.inl ⟨rfl, rfl⟩) (by decide +kernel) rfl fun x2 => ?_
    refine z_bipush (n := 63) (v := 63) (q := 32) (by decide +kernel) rfl (by decide) ?_
    refine z_iand (q := 33) (by decide +kernel) rfl ?_
    refine z_case (fun c11 => ?_) (fun c11 => ?_)
    · refine z_tabIn (v := 0) (off := 191) (t := 224) c11 (by decide +kernel : decode cL_law 33 = .ok (.tableswitch 1426 0 43 #[191, 224, 267, 300, 323, 386, 409, 442, 485, 508, 531, 554, 587, 620, 653, 686, 709, 722, 745, 778, 791, 814, 837, 860, 873, 896, 919, 952, 985, 1028, 1081, 1124, 1147, 1170, 1203, 1246, 1269, 1312, 1325, 1339, 1353, 1376, 1389, 1412], 191)) (by decide) (by decide) (by decide) (by decide) ?_
      refine z_aload_n (j := 1) (q := 225) (by decide +kernel) rfl 1 rfl ?_
      refine z_aload_n (j := 0) (q := 226) (by decide +kernel) rfl 0 rfl ?_
      refine z_iload_n (j := 3) (q := 227) (by decide +kernel) rfl 3 rfl ?_
      refine z_iconst (n := 1) (v := 1) (q := 228) (by decide +kernel) rfl (by decide) ?_
      refine z_iadd (q := 229) (by decide +kernel) rfl ?_
      refine z_iald (q := 230) (Or.inl ⟨rfl, rfl⟩) (by decide +kernel) rfl fun x3 => ?_
      refine z_aload_n (j := 0) (q := 231) (by decide +kernel) rfl 0 rfl ?_
      refine z_iload_n (j := 3) (q := 232) (by decide +kernel) rfl 3 rfl ?_
      refine z_iconst (n := 2) (v := 2) (q := 233) (by decide +kernel) rfl (by decide) ?_
      refine z_iadd (q := 234) (by decide +kernel) rfl ?_
      refine z_iald (q := 235) (Or.inl ⟨rfl, rfl⟩) (by decide +kernel) rfl fun x4 => ?_
      refine z_callVI (As := [.int x3, .int x4]) (st := []) (q := 238) (ct_X4_row g l v1 x3 x4) zm_RL_13 (rc_X4_row v1 x3 x4) rfl (by decide) (by decide) (Nat.le_of_ble_eq_true rfl) rfl (by decide +kernel) rfl fun x5 => ?_
      refine z_aload_n (j := 2) (q := 239) (by decide +kernel) rfl 2 rfl ?_
      refine z_aload_n (j := 0) (q := 240) (by decide +kernel) rfl 0 rfl ?_
      refine z_iload_n (j := 3) (q := 241) (by decide +kernel) rfl 3 rfl ?_
      refine z_iconst (n := 1) (v := 1) (q := 242) (by decide +kernel) rfl (by decide) ?_
      refine z_iadd (q := 243) (by decide +kernel) rfl ?_
      refine z_iald (q := 244) (Or.inl ⟨rfl, rfl⟩) (by decide +kernel) rfl fun x7 => ?_
      refine z_aload_n (j := 0) (q := 245) (by decide +kernel) rfl 0 rfl ?_
      refine z_iload_n (j := 3) (q := 246) (by decide +kernel) rfl 3 rfl ?_
      refine z_iconst (n := 2) (v := 2) (q := 247) (by decide +kernel) rfl (by decide) ?_
      refine z_iadd (q := 248) (by decide +kernel) rfl ?_
      refine z_iald (q := 249) (Or.inl ⟨rfl, rfl⟩) (by decide +kernel) rfl fun x8 => ?_
      refine z_callVI (As := [.int x7, .int x8]) (st := [.int x5]) (q := 252) (ct_X5_row g l v2 x7 x8) zm_RL_17 (rc_X5_row v2 x7 x8) rfl (by decide) (by decide) (Nat.le_of_ble_eq_true rfl) rfl (by decide +kernel) rfl fun x9 => ?_
      refine z_icmp_eq (off := 1207) (t := 1459) (q := 255) (by decide +kernel) (by decide) rfl ?_ ?_
      · refine zsub [0, 1, 2, 3] rfl ?_
        exact sj_L_law_1459 g l rec v0 v1 v2 s hrec
      · refine zsub [] rfl ?_
        exact sj_L_law_255 g l 
    · skip
      refine z_case (fun c22 => ?_) (fun c22 => ?_)
      · refine z_tabIn (v := 1) (off := 224) (t := 257) c22 (by decide +kernel : decode cL_law 33 = .ok (.tableswitch 1426 0 43 #[191, 224, 267, 300, 323, 386, 409, 442, 485, 508, 531, 554, 587, 620, 653, 686, 709, 722, 745, 778, 791, 814, 837, 860, 873, 896, 919, 952, 985, 1028, 1081, 1124, 1147, 1170, 1203, 1246, 1269, 1312, 1325, 1339, 1353, 1376, 1389, 1412], 191)) (by decide) (by decide) (by decide) (by decide) ?_
        refine z_aload_n (j := 1) (q := 258) (by decide +kernel) rfl 1 rfl ?_
        refine z_aload_n (j := 0) (q := 259) (by decide +kernel) rfl 0 rfl ?_
        refine z_iload_n (j := 3) (q := 260) (by decide +kernel) rfl 3 rfl ?_
        refine z_iconst (n := 1) (v := 1) (q := 261) (by decide +kernel) rfl (by decide) ?_
        refine z_iadd (q := 262) (by decide +kernel) rfl ?_
        refine z_iald (q := 263) (Or.inl ⟨rfl, rfl⟩) (by decide +kernel) rfl fun x12 => ?_
        refine z_aload_n (j := 0) (q := 264) (by decide +kernel) rfl 0 rfl ?_
        refine z_iload_n (j := 3) (q := 265) (by decide +kernel) rfl 3 rfl ?_
        refine z_iconst (n := 2) (v := 2) (q := 266) (by decide +kernel) rfl (by decide) ?_
        refine z_iadd (q := 267) (by decide +kernel) rfl ?_
        refine z_iald (q := 268) (Or.inl ⟨rfl, rfl⟩) (by decide +kernel) rfl fun x13 => ?_
        refine z_aload_n (j := 0) (q := 269) (by decide +kernel) rfl 0 rfl ?_
        refine z_iload_n (j := 3) (q := 270) (by decide +kernel) rfl 3 rfl ?_
        refine z_iconst (n := 3) (v := 3) (q := 271) (by decide +kernel) rfl (by decide) ?_
        refine z_iadd (q := 272) (by decide +kernel) rfl ?_
        refine z_iald (q := 273) (Or.inl ⟨rfl, rfl⟩) (by decide +kernel) rfl fun x14 => ?_
        refine z_callVI (As := [.int x12, .int x13, .int x14]) (st := []) (q := 276) (ct_X4_lay g l v1 x12 x13 x14) zm_RL_18 (rc_X4_lay v1 x12 x13 x14) rfl (by decide) (by decide) (Nat.le_of_ble_eq_true rfl) rfl (by decide +kernel) rfl fun x15 => ?_
        refine z_aload_n (j := 2) (q := 277) (by decide +kernel) rfl 2 rfl ?_
        refine z_aload_n (j := 0) (q := 278) (by decide +kernel) rfl 0 rfl ?_
        refine z_iload_n (j := 3) (q := 279) (by decide +kernel) rfl 3 rfl ?_
        refine z_iconst (n := 1) (v := 1) (q := 280) (by decide +kernel) rfl (by decide) ?_
        refine z_iadd (q := 281) (by decide +kernel) rfl ?_
        refine z_iald (q := 282) (Or.inl ⟨rfl, rfl⟩) (by decide +kernel) rfl fun x17 => ?_
        refine z_aload_n (j := 0) (q := 283) (by decide +kernel) rfl 0 rfl ?_
        refine z_iload_n (j := 3) (q := 284) (by decide +kernel) rfl 3 rfl ?_
        refine z_iconst (n := 2) (v := 2) (q := 285) (by decide +kernel) rfl (by decide) ?_
        refine z_iadd (q := 286) (by decide +kernel) rfl ?_
        refine z_iald (q := 287) (Or.inl ⟨rfl, rfl⟩) (by decide +kernel) rfl fun x18 => ?_
        refine z_aload_n (j := 0) (q := 288) (by decide +kernel) rfl 0 rfl ?_
        refine z_iload_n (j := 3) (q := 289) (by decide +kernel) rfl 3 rfl ?_
        refine z_iconst (n := 3) (v := 3) (q := 290) (by decide +kernel) rfl (by decide) ?_
        refine z_iadd (q := 291) (by decide +kernel) rfl ?_
        refine z_iald (q := 292) (Or.inl ⟨rfl, rfl⟩) (by decide +kernel) rfl fun x19 => ?_
        refine z_callVI (As := [.int x17, .int x18, .int x19]) (st := [.int x15]) (q := 295) (ct_X5_lay g l v2 x17 x18 x19) zm_RL_22 (rc_X5_lay v2 x17 x18 x19) rfl (by decide) (by decide) (Nat.le_of_ble_eq_true rfl) rfl (by decide +kernel) rfl fun x20 => ?_
        refine z_icmp_eq (off := 1164) (t := 1459) (q := 298) (by decide +kernel) (by decide) rfl ?_ ?_
        · refine zsub [0, 1, 2, 3] rfl ?_
          exact sj_L_law_1459 g l rec v0 v1 v2 s hrec
        · refine zsub [] rfl ?_
          exact sj_L_law_298 g l 
      · skip
        refine z_case (fun c31 => ?_) (fun c31 => ?_)
        · refine z_tabIn (v := 2) (off := 267) (t := 300) c31 (by decide +kernel : decode cL_law 33 = .ok (.tableswitch 1426 0 43 #[191, 224, 267, 300, 323, 386, 409, 442, 485, 508, 531, 554, 587, 620, 653, 686, 709, 722, 745, 778, 791, 814, 837, 860, 873, 896, 919, 952, 985, 1028, 1081, 1124, 1147, 1170, 1203, 1246, 1269, 1312, 1325, 1339, 1353, 1376, 1389, 1412], 191)) (by decide) (by decide) (by decide) (by decide) ?_
          refine z_aload_n (j := 1) (q := 301) (by decide +kernel) rfl 1 rfl ?_
          refine z_aload_n (j := 0) (q := 302) (by decide +kernel) rfl 0 rfl ?_
          refine z_iload_n (j := 3) (q := 303) (by decide +kernel) rfl 3 rfl ?_
          refine z_iconst (n := 1) (v := 1) (q := 304) (by decide +kernel) rfl (by decide) ?_
          refine z_iadd (q := 305) (by decide +kernel) rfl ?_
          refine z_iald (q := 306) (Or.inl ⟨rfl, rfl⟩) (by decide +kernel) rfl fun x23 => ?_
          refine z_aload_n (j := 0) (q := 307) (by decide +kernel) rfl 0 rfl ?_
          refine z_iload_n (j := 3) (q := 308) (by decide +kernel) rfl 3 rfl ?_
          refine z_iconst (n := 2) (v := 2) (q := 309) (by decide +kernel) rfl (by decide) ?_
          refine z_iadd (q := 310) (by decide +kernel) rfl ?_
          refine z_iald (q := 311) (Or.inl ⟨rfl, rfl⟩) (by decide +kernel) rfl fun x24 => ?_
          refine z_callVI (As := [.int x23, .int x24]) (st := []) (q := 314) (ct_X4_at g l v1 x23 x24) zm_RL_23 (rc_X4_at v1 x23 x24) rfl (by decide) (by decide) (Nat.le_of_ble_eq_true rfl) rfl (by decide +kernel) rfl fun x25 => ?_
          refine z_aload_n (j := 2) (q := 315) (by decide +kernel) rfl 2 rfl ?_
          refine z_aload_n (j := 0) (q := 316) (by decide +kernel) rfl 0 rfl ?_
          refine z_iload_n (j := 3) (q := 317) (by decide +kernel) rfl 3 rfl ?_
          refine z_iconst (n := 1) (v := 1) (q := 318) (by decide +kernel) rfl (by decide) ?_
          refine z_iadd (q := 319) (by decide +kernel) rfl ?_
          refine z_iald (q := 320) (Or.inl ⟨rfl, rfl⟩) (by decide +kernel) rfl fun x27 => ?_
          refine z_aload_n (j := 0) (q := 321) (by decide +kernel) rfl 0 rfl ?_
          refine z_iload_n (j := 3) (q := 322) (by decide +kernel) rfl 3 rfl ?_
          refine z_iconst (n := 2) (v := 2) (q := 323) (by decide +kernel) rfl (by decide) ?_
          refine z_iadd (q := 324) (by decide +kernel) rfl ?_
          refine z_iald (q := 325) (Or.inl ⟨rfl, rfl⟩) (by decide +kernel) rfl fun x28 => ?_
          refine z_callVI (As := [.int x27, .int x28]) (st := [.int x25]) (q := 328) (ct_X5_at g l v2 x27 x28) zm_RL_26 (rc_X5_at v2 x27 x28) rfl (by decide) (by decide) (Nat.le_of_ble_eq_true rfl) rfl (by decide +kernel) rfl fun x29 => ?_
          refine z_icmp_eq (off := 1131) (t := 1459) (q := 331) (by decide +kernel) (by decide) rfl ?_ ?_
          · refine zsub [0, 1, 2, 3] rfl ?_
            exact sj_L_law_1459 g l rec v0 v1 v2 s hrec
          · refine zsub [] rfl ?_
            exact sj_L_law_331 g l 
        · skip
          refine z_case (fun c38 => ?_) (fun c38 => ?_)
          · refine z_tabIn (v := 3) (off := 300) (t := 333) c38 (by decide +kernel : decode cL_law 33 = .ok (.tableswitch 1426 0 43 #[191, 224, 267, 300, 323, 386, 409, 442, 485, 508, 531, 554, 587, 620, 653, 686, 709, 722, 745, 778, 791, 814, 837, 860, 873, 896, 919, 952, 985, 1028, 1081, 1124, 1147, 1170, 1203, 1246, 1269, 1312, 1325, 1339, 1353, 1376, 1389, 1412], 191)) (by decide) (by decide) (by decide) (by decide) ?_
            refine z_aload_n (j := 1) (q := 334) (by decide +kernel) rfl 1 rfl ?_
            refine z_aload_n (j := 0) (q := 335) (by decide +kernel) rfl 0 rfl ?_
            refine z_iload_n (j := 3) (q := 336) (by decide +kernel) rfl 3 rfl ?_
            refine z_iconst (n := 1) (v := 1) (q := 337) (by decide +kernel) rfl (by decide) ?_
            refine z_iadd (q := 338) (by decide +kernel) rfl ?_
            refine z_iald (q := 339) (Or.inl ⟨rfl, rfl⟩) (by decide +kernel) rfl fun x32 => ?_
            refine z_callVI (As := [.int x32]) (st := []) (q := 342) (ct_X4_tear g l v1 x32) zm_RL_27 (rc_X4_tear v1 x32) rfl (by decide) (by decide) (Nat.le_of_ble_eq_true rfl) rfl (by decide +kernel) rfl fun x33 => ?_
            refine z_aload_n (j := 2) (q := 343) (by decide +kernel) rfl 2 rfl ?_
            refine z_aload_n (j := 0) (q := 344) (by decide +kernel) rfl 0 rfl ?_
            refine z_iload_n (j := 3) (q := 345) (by decide +kernel) rfl 3 rfl ?_
            refine z_iconst (n := 1) (v := 1) (q := 346) (by decide +kernel) rfl (by decide) ?_
            refine z_iadd (q := 347) (by decide +kernel) rfl ?_
            refine z_iald (q := 348) (Or.inl ⟨rfl, rfl⟩) (by decide +kernel) rfl fun x35 => ?_
            refine z_callVI (As := [.int x35]) (st := [.int x33]) (q := 351) (ct_X5_tear g l v2 x35) zm_RL_31 (rc_X5_tear v2 x35) rfl (by decide) (by decide) (Nat.le_of_ble_eq_true rfl) rfl (by decide +kernel) rfl fun x36 => ?_
            refine z_icmp_eq (off := 1108) (t := 1459) (q := 354) (by decide +kernel) (by decide) rfl ?_ ?_
            · refine zsub [0, 1, 2, 3] rfl ?_
              exact sj_L_law_1459 g l rec v0 v1 v2 s hrec
            · refine zsub [] rfl ?_
              exact sj_L_law_354 g l 
          · skip
            refine z_case (fun c53 => ?_) (fun c53 => ?_)
            · refine z_tabIn (v := 4) (off := 323) (t := 356) c53 (by decide +kernel : decode cL_law 33 = .ok (.tableswitch 1426 0 43 #[191, 224, 267, 300, 323, 386, 409, 442, 485, 508, 531, 554, 587, 620, 653, 686, 709, 722, 745, 778, 791, 814, 837, 860, 873, 896, 919, 952, 985, 1028, 1081, 1124, 1147, 1170, 1203, 1246, 1269, 1312, 1325, 1339, 1353, 1376, 1389, 1412], 191)) (by decide) (by decide) (by decide) (by decide) ?_
              refine z_aload_n (j := 1) (q := 357) (by decide +kernel) rfl 1 rfl ?_
              refine z_aload_n (j := 0) (q := 358) (by decide +kernel) rfl 0 rfl ?_
              refine z_iload_n (j := 3) (q := 359) (by decide +kernel) rfl 3 rfl ?_
              refine z_iconst (n := 1) (v := 1) (q := 360) (by decide +kernel) rfl (by decide) ?_
              refine z_iadd (q := 361) (by decide +kernel) rfl ?_
              refine z_iald (q := 362) (Or.inl ⟨rfl, rfl⟩) (by decide +kernel) rfl fun x39 => ?_
              refine z_aload_n (j := 0) (q := 363) (by decide +kernel) rfl 0 rfl ?_
              refine z_iload_n (j := 3) (q := 364) (by decide +kernel) rfl 3 rfl ?_
              refine z_iconst (n := 2) (v := 2) (q := 365) (by decide +kernel) rfl (by decide) ?_
              refine z_iadd (q := 366) (by decide +kernel) rfl ?_
              refine z_iald (q := 367) (Or.inl ⟨rfl, rfl⟩) (by decide +kernel) rfl fun x40 => ?_
              refine z_aload_n (j := 0) (q := 368) (by decide +kernel) rfl 0 rfl ?_
              refine z_iload_n (j := 3) (q := 369) (by decide +kernel) rfl 3 rfl ?_
              refine z_iconst (n := 3) (v := 3) (q := 370) (by decide +kernel) rfl (by decide) ?_
              refine z_iadd (q := 371) (by decide +kernel) rfl ?_
              refine z_iald (q := 372) (Or.inl ⟨rfl, rfl⟩) (by decide +kernel) rfl fun x41 => ?_
              refine z_aload_n (j := 0) (q := 373) (by decide +kernel) rfl 0 rfl ?_
              refine z_iload_n (j := 3) (q := 374) (by decide +kernel) rfl 3 rfl ?_
              refine z_iconst (n := 4) (v := 4) (q := 375) (by decide +kernel) rfl (by decide) ?_
              refine z_iadd (q := 376) (by decide +kernel) rfl ?_
              refine z_iald (q := 377) (Or.inl ⟨rfl, rfl⟩) (by decide +kernel) rfl fun x42 => ?_
              refine z_aload_n (j := 0) (q := 378) (by decide +kernel) rfl 0 rfl ?_
              refine z_iload_n (j := 3) (q := 379) (by decide +kernel) rfl 3 rfl ?_
              refine z_iconst (n := 5) (v := 5) (q := 380) (by decide +kernel) rfl (by decide) ?_
              refine z_iadd (q := 381) (by decide +kernel) rfl ?_
              refine z_iald (q := 382) (Or.inl ⟨rfl, rfl⟩) (by decide +kernel) rfl fun x43 => ?_
              refine z_callVI (As := [.int x39, .int x40, .int x41, .int x42, .int x43]) (st := []) (q := 385) (ct_X4_copy g l v1 x39 x40 x41 x42 x43) zm_RL_32 (rc_X4_copy v1 x39 x40 x41 x42 x43) rfl (by decide) (by decide) (Nat.le_of_ble_eq_true rfl) rfl (by decide +kernel) rfl fun x44 => ?_
              refine z_aload_n (j := 2) (q := 386) (by decide +kernel) rfl 2 rfl ?_
              refine z_aload_n (j := 0) (q := 387) (by decide +kernel) rfl 0 rfl ?_
              refine z_iload_n (j := 3) (q := 388) (by decide +kernel) rfl 3 rfl ?_
              refine z_iconst (n := 1) (v := 1) (q := 389) (by decide +kernel) rfl (by decide) ?_
              refine z_iadd (q := 390) (by decide +kernel) rfl ?_
              refine z_iald (q := 391) (Or.inl ⟨rfl, rfl⟩) (by decide +kernel) rfl fun x46 => ?_
              refine z_aload_n (j := 0) (q := 392) (by decide +kernel) rfl 0 rfl ?_
              refine z_iload_n (j := 3) (q := 393) (by decide +kernel) rfl 3 rfl ?_
              refine z_iconst (n := 2) (v := 2) (q := 394) (by decide +kernel) rfl (by decide) ?_
              refine z_iadd (q := 395) (by decide +kernel) rfl ?_
              refine z_iald (q := 396) (Or.inl ⟨rfl, rfl⟩) (by decide +kernel) rfl fun x47 => ?_
              refine z_aload_n (j := 0) (q := 397) (by decide +kernel) rfl 0 rfl ?_
              refine z_iload_n (j := 3) (q := 398) (by decide +kernel) rfl 3 rfl ?_
              refine z_iconst (n := 3) (v := 3) (q := 399) (by decide +kernel) rfl (by decide) ?_
              refine z_iadd (q := 400) (by decide +kernel) rfl ?_
              refine z_iald (q := 401) (Or.inl ⟨rfl, rfl⟩) (by decide +kernel) rfl fun x48 => ?_
              refine z_aload_n (j := 0) (q := 402) (by decide +kernel) rfl 0 rfl ?_
              refine z_iload_n (j := 3) (q := 403) (by decide +kernel) rfl 3 rfl ?_
              refine z_iconst (n := 4) (v := 4) (q := 404) (by decide +kernel) rfl (by decide) ?_
              refine z_iadd (q := 405) (by decide +kernel) rfl ?_
              refine z_iald (q := 406) (Or.inl ⟨rfl, rfl⟩) (by decide +kernel) rfl fun x49 => ?_
              refine z_aload_n (j := 0) (q := 407) (by decide +kernel) rfl 0 rfl ?_
              refine z_iload_n (j := 3) (q := 408) (by decide +kernel) rfl 3 rfl ?_
              refine z_iconst (n := 5) (v := 5) (q := 409) (by decide +kernel) rfl (by decide) ?_
              refine z_iadd (q := 410) (by decide +kernel) rfl ?_
              refine z_iald (q := 411) (Or.inl ⟨rfl, rfl⟩) (by decide +kernel) rfl fun x50 => ?_
              refine z_callVI (As := [.int x46, .int x47, .int x48, .int x49, .int x50]) (st := [.int x44]) (q := 414) (ct_X5_copy g l v2 x46 x47 x48 x49 x50) zm_RL_36 (rc_X5_copy v2 x46 x47 x48 x49 x50) rfl (by decide) (by decide) (Nat.le_of_ble_eq_true rfl) rfl (by decide +kernel) rfl fun x51 => ?_
              refine z_icmp_eq (off := 1045) (t := 1459) (q := 417) (by decide +kernel) (by decide) rfl ?_ ?_
              · refine zsub [0, 1, 2, 3] rfl ?_
                exact sj_L_law_1459 g l rec v0 v1 v2 s hrec
              · refine zsub [] rfl ?_
                exact sj_L_law_417 g l 
            · skip
              refine z_case (fun c60 => ?_) (fun c60 => ?_)
              · refine z_tabIn (v := 5) (off := 386) (t := 419) c60 (by decide +kernel : decode cL_law 33 = .ok (.tableswitch 1426 0 43 #[191, 224, 267, 300, 323, 386, 409, 442, 485, 508, 531, 554, 587, 620, 653, 686, 709, 722, 745, 778, 791, 814, 837, 860, 873, 896, 919, 952, 985, 1028, 1081, 1124, 1147, 1170, 1203, 1246, 1269, 1312, 1325, 1339, 1353, 1376, 1389, 1412], 191)) (by decide) (by decide) (by decide) (by decide) ?_
                refine z_aload_n (j := 1) (q := 420) (by decide +kernel) rfl 1 rfl ?_
                refine z_aload_n (j := 0) (q := 421) (by decide +kernel) rfl 0 rfl ?_
                refine z_iload_n (j := 3) (q := 422) (by decide +kernel) rfl 3 rfl ?_
                refine z_iconst (n := 1) (v := 1) (q := 423) (by decide +kernel) rfl (by decide) ?_
                refine z_iadd (q := 424) (by decide +kernel) rfl ?_
                refine z_iald (q := 425) (Or.inl ⟨rfl, rfl⟩) (by decide +kernel) rfl fun x54 => ?_
                refine z_callVI (As := [.int x54]) (st := []) (q := 428) (ct_X4_mean g l v1 x54) zm_RL_37 (rc_X4_mean v1 x54) rfl (by decide) (by decide) (Nat.le_of_ble_eq_true rfl) rfl (by decide +kernel) rfl fun x55 => ?_
                refine z_aload_n (j := 2) (q := 429) (by decide +kernel) rfl 2 rfl ?_
                refine z_aload_n (j := 0) (q := 430) (by decide +kernel) rfl 0 rfl ?_
                refine z_iload_n (j := 3) (q := 431) (by decide +kernel) rfl 3 rfl ?_
                refine z_iconst (n := 1) (v := 1) (q := 432) (by decide +kernel) rfl (by decide) ?_
                refine z_iadd (q := 433) (by decide +kernel) rfl ?_
                refine z_iald (q := 434) (Or.inl ⟨rfl, rfl⟩) (by decide +kernel) rfl fun x57 => ?_
                refine z_callVI (As := [.int x57]) (st := [.int x55]) (q := 437) (ct_X5_mean g l v2 x57) zm_RL_40 (rc_X5_mean v2 x57) rfl (by decide) (by decide) (Nat.le_of_ble_eq_true rfl) rfl (by decide +kernel) rfl fun x58 => ?_
                refine z_icmp_eq (off := 1022) (t := 1459) (q := 440) (by decide +kernel) (by decide) rfl ?_ ?_
                · refine zsub [0, 1, 2, 3] rfl ?_
                  exact sj_L_law_1459 g l rec v0 v1 v2 s hrec
                · refine zsub [] rfl ?_
                  exact sj_L_law_440 g l 
              · skip
                refine z_case (fun c69 => ?_) (fun c69 => ?_)
                · refine z_tabIn (v := 6) (off := 409) (t := 442) c69 (by decide +kernel : decode cL_law 33 = .ok (.tableswitch 1426 0 43 #[191, 224, 267, 300, 323, 386, 409, 442, 485, 508, 531, 554, 587, 620, 653, 686, 709, 722, 745, 778, 791, 814, 837, 860, 873, 896, 919, 952, 985, 1028, 1081, 1124, 1147, 1170, 1203, 1246, 1269, 1312, 1325, 1339, 1353, 1376, 1389, 1412], 191)) (by decide) (by decide) (by decide) (by decide) ?_
                  refine z_aload_n (j := 1) (q := 443) (by decide +kernel) rfl 1 rfl ?_
                  refine z_aload_n (j := 0) (q := 444) (by decide +kernel) rfl 0 rfl ?_
                  refine z_iload_n (j := 3) (q := 445) (by decide +kernel) rfl 3 rfl ?_
                  refine z_iconst (n := 1) (v := 1) (q := 446) (by decide +kernel) rfl (by decide) ?_
                  refine z_iadd (q := 447) (by decide +kernel) rfl ?_
                  refine z_iald (q := 448) (Or.inl ⟨rfl, rfl⟩) (by decide +kernel) rfl fun x61 => ?_
                  refine z_aload_n (j := 0) (q := 449) (by decide +kernel) rfl 0 rfl ?_
                  refine z_iload_n (j := 3) (q := 450) (by decide +kernel) rfl 3 rfl ?_
                  refine z_iconst (n := 2) (v := 2) (q := 451) (by decide +kernel) rfl (by decide) ?_
                  refine z_iadd (q := 452) (by decide +kernel) rfl ?_
                  refine z_iald (q := 453) (Or.inl ⟨rfl, rfl⟩) (by decide +kernel) rfl fun x62 => ?_
                  refine z_callVI (As := [.int x61, .int x62]) (st := []) (q := 456) (ct_X4_text g l v1 x61 x62) zm_RL_41 (rc_X4_text v1 x61 x62) rfl (by decide) (by decide) (Nat.le_of_ble_eq_true rfl) rfl (by decide +kernel) rfl fun x63 => ?_
                  refine z_aload_n (j := 2) (q := 457) (by decide +kernel) rfl 2 rfl ?_
                  refine z_aload_n (j := 0) (q := 458) (by decide +kernel) rfl 0 rfl ?_
                  refine z_iload_n (j := 3) (q := 459) (by decide +kernel) rfl 3 rfl ?_
                  refine z_iconst (n := 1) (v := 1) (q := 460) (by decide +kernel) rfl (by decide) ?_
                  refine z_iadd (q := 461) (by decide +kernel) rfl ?_
                  refine z_iald (q := 462) (Or.inl ⟨rfl, rfl⟩) (by decide +kernel) rfl fun x65 => ?_
                  refine z_aload_n (j := 0) (q := 463) (by decide +kernel) rfl 0 rfl ?_
                  refine z_iload_n (j := 3) (q := 464) (by decide +kernel) rfl 3 rfl ?_
                  refine z_iconst (n := 2) (v := 2) (q := 465) (by decide +kernel) rfl (by decide) ?_
                  refine z_iadd (q := 466) (by decide +kernel) rfl ?_
                  refine z_iald (q := 467) (Or.inl ⟨rfl, rfl⟩) (by decide +kernel) rfl fun x66 => ?_
                  refine z_callVI (As := [.int x65, .int x66]) (st := [.int x63]) (q := 470) (ct_X5_text g l v2 x65 x66) zm_RL_44 (rc_X5_text v2 x65 x66) rfl (by decide) (by decide) (Nat.le_of_ble_eq_true rfl) rfl (by decide +kernel) rfl fun x67 => ?_
                  refine z_icmp_eq (off := 989) (t := 1459) (q := 473) (by decide +kernel) (by decide) rfl ?_ ?_
                  · refine zsub [0, 1, 2, 3] rfl ?_
                    exact sj_L_law_1459 g l rec v0 v1 v2 s hrec
                  · refine zsub [] rfl ?_
                    exact sj_L_law_473 g l 
                · skip
                  refine z_case (fun c80 => ?_) (fun c80 => ?_)
                  · refine z_tabIn (v := 7) (off := 442) (t := 475) c80 (by decide +kernel : decode cL_law 33 = .ok (.tableswitch 1426 0 43 #[191, 224, 267, 300, 323, 386, 409, 442, 485, 508, 531, 554, 587, 620, 653, 686, 709, 722, 745, 778, 791, 814, 837, 860, 873, 896, 919, 952, 985, 1028, 1081, 1124, 1147, 1170, 1203, 1246, 1269, 1312, 1325, 1339, 1353, 1376, 1389, 1412], 191)) (by decide) (by decide) (by decide) (by decide) ?_
                    refine z_aload_n (j := 1) (q := 476) (by decide +kernel) rfl 1 rfl ?_
                    refine z_aload_n (j := 0) (q := 477) (by decide +kernel) rfl 0 rfl ?_
                    refine z_iload_n (j := 3) (q := 478) (by decide +kernel) rfl 3 rfl ?_
                    refine z_iconst (n := 1) (v := 1) (q := 479) (by decide +kernel) rfl (by decide) ?_
                    refine z_iadd (q := 480) (by decide +kernel) rfl ?_
                    refine z_iald (q := 481) (Or.inl ⟨rfl, rfl⟩) (by decide +kernel) rfl fun x70 => ?_
                    refine z_aload_n (j := 0) (q := 482) (by decide +kernel) rfl 0 rfl ?_
                    refine z_iload_n (j := 3) (q := 483) (by decide +kernel) rfl 3 rfl ?_
                    refine z_iconst (n := 2) (v := 2) (q := 484) (by decide +kernel) rfl (by decide) ?_
                    refine z_iadd (q := 485) (by decide +kernel) rfl ?_
                    refine z_iald (q := 486) (Or.inl ⟨rfl, rfl⟩) (by decide +kernel) rfl fun x71 => ?_
                    refine z_aload_n (j := 0) (q := 487) (by decide +kernel) rfl 0 rfl ?_
                    refine z_iload_n (j := 3) (q := 488) (by decide +kernel) rfl 3 rfl ?_
                    refine z_iconst (n := 3) (v := 3) (q := 489) (by decide +kernel) rfl (by decide) ?_
                    refine z_iadd (q := 490) (by decide +kernel) rfl ?_
                    refine z_iald (q := 491) (Or.inl ⟨rfl, rfl⟩) (by decide +kernel) rfl fun x72 => ?_
                    refine z_callVI (As := [.int x70, .int x71, .int x72]) (st := []) (q := 494) (ct_X4_put g l v1 x70 x71 x72) zm_RL_45 (rc_X4_put v1 x70 x71 x72) rfl (by decide) (by decide) (Nat.le_of_ble_eq_true rfl) rfl (by decide +kernel) rfl fun x73 => ?_
                    refine z_aload_n (j := 2) (q := 495) (by decide +kernel) rfl 2 rfl ?_
                    refine z_aload_n (j := 0) (q := 496) (by decide +kernel) rfl 0 rfl ?_
                    refine z_iload_n (j := 3) (q := 497) (by decide +kernel) rfl 3 rfl ?_
                    refine z_iconst (n := 1) (v := 1) (q := 498) (by decide +kernel) rfl (by decide) ?_
                    refine z_iadd (q := 499) (by decide +kernel) rfl ?_
                    refine z_iald (q := 500) (Or.inl ⟨rfl, rfl⟩) (by decide +kernel) rfl fun x75 => ?_
                    refine z_aload_n (j := 0) (q := 501) (by decide +kernel) rfl 0 rfl ?_
                    refine z_iload_n (j := 3) (q := 502) (by decide +kernel) rfl 3 rfl ?_
                    refine z_iconst (n := 2) (v := 2) (q := 503) (by decide +kernel) rfl (by decide) ?_
                    refine z_iadd (q := 504) (by decide +kernel) rfl ?_
                    refine z_iald (q := 505) (Or.inl ⟨rfl, rfl⟩) (by decide +kernel) rfl fun x76 => ?_
                    refine z_aload_n (j := 0) (q := 506) (by decide +kernel) rfl 0 rfl ?_
                    refine z_iload_n (j := 3) (q := 507) (by decide +kernel) rfl 3 rfl ?_
                    refine z_iconst (n := 3) (v := 3) (q := 508) (by decide +kernel) rfl (by decide) ?_
                    refine z_iadd (q := 509) (by decide +kernel) rfl ?_
                    refine z_iald (q := 510) (Or.inl ⟨rfl, rfl⟩) (by decide +kernel) rfl fun x77 => ?_
                    refine z_callVI (As := [.int x75, .int x76, .int x77]) (st := [.int x73]) (q := 513) (ct_X5_put g l v2 x75 x76 x77) zm_RL_48 (rc_X5_put v2 x75 x76 x77) rfl (by decide) (by decide) (Nat.le_of_ble_eq_true rfl) rfl (by decide +kernel) rfl fun x78 => ?_
                    refine z_icmp_eq (off := 946) (t := 1459) (q := 516) (by decide +kernel) (by decide) rfl ?_ ?_
                    · refine zsub [0, 1, 2, 3] rfl ?_
                      exact sj_L_law_1459 g l rec v0 v1 v2 s hrec
                    · refine zsub [] rfl ?_
                      exact sj_L_law_516 g l 
                  · skip
                    refine z_case (fun c87 => ?_) (fun c87 => ?_)
                    · refine z_tabIn (v := 8) (off := 485) (t := 518) c87 (by decide +kernel : decode cL_law 33 = .ok (.tableswitch 1426 0 43 #[191, 224, 267, 300, 323, 386, 409, 442, 485, 508, 531, 554, 587, 620, 653, 686, 709, 722, 745, 778, 791, 814, 837, 860, 873, 896, 919, 952, 985, 1028, 1081, 1124, 1147, 1170, 1203, 1246, 1269, 1312, 1325, 1339, 1353, 1376, 1389, 1412], 191)) (by decide) (by decide) (by decide) (by decide) ?_
                      refine z_aload_n (j := 1) (q := 519) (by decide +kernel) rfl 1 rfl ?_
                      refine z_aload_n (j := 0) (q := 520) (by decide +kernel) rfl 0 rfl ?_
                      refine z_iload_n (j := 3) (q := 521) (by decide +kernel) rfl 3 rfl ?_
                      refine z_iconst (n := 1) (v := 1) (q := 522) (by decide +kernel) rfl (by decide) ?_
                      refine z_iadd (q := 523) (by decide +kernel) rfl ?_
                      refine z_iald (q := 524) (Or.inl ⟨rfl, rfl⟩) (by decide +kernel) rfl fun x81 => ?_
                      refine z_callVI (As := [.int x81]) (st := []) (q := 527) (ct_X4_fault g l v1 x81) zm_RL_49 (rc_X4_fault v1 x81) rfl (by decide) (by decide) (Nat.le_of_ble_eq_true rfl) rfl (by decide +kernel) rfl fun x82 => ?_
                      refine z_aload_n (j := 2) (q := 528) (by decide +kernel) rfl 2 rfl ?_
                      refine z_aload_n (j := 0) (q := 529) (by decide +kernel) rfl 0 rfl ?_
                      refine z_iload_n (j := 3) (q := 530) (by decide +kernel) rfl 3 rfl ?_
                      refine z_iconst (n := 1) (v := 1) (q := 531) (by decide +kernel) rfl (by decide) ?_
                      refine z_iadd (q := 532) (by decide +kernel) rfl ?_
                      refine z_iald (q := 533) (Or.inl ⟨rfl, rfl⟩) (by decide +kernel) rfl fun x84 => ?_
                      refine z_callVI (As := [.int x84]) (st := [.int x82]) (q := 536) (ct_X5_fault g l v2 x84) zm_RL_52 (rc_X5_fault v2 x84) rfl (by decide) (by decide) (Nat.le_of_ble_eq_true rfl) rfl (by decide +kernel) rfl fun x85 => ?_
                      refine z_icmp_eq (off := 923) (t := 1459) (q := 539) (by decide +kernel) (by decide) rfl ?_ ?_
                      · refine zsub [0, 1, 2, 3] rfl ?_
                        exact sj_L_law_1459 g l rec v0 v1 v2 s hrec
                      · refine zsub [] rfl ?_
                        exact sj_L_law_539 g l 
                    · skip
                      refine z_case (fun c94 => ?_) (fun c94 => ?_)
                      · refine z_tabIn (v := 9) (off := 508) (t := 541) c94 (by decide +kernel : decode cL_law 33 = .ok (.tableswitch 1426 0 43 #[191, 224, 267, 300, 323, 386, 409, 442, 485, 508, 531, 554, 587, 620, 653, 686, 709, 722, 745, 778, 791, 814, 837, 860, 873, 896, 919, 952, 985, 1028, 1081, 1124, 1147, 1170, 1203, 1246, 1269, 1312, 1325, 1339, 1353, 1376, 1389, 1412], 191)) (by decide) (by decide) (by decide) (by decide) ?_
                        refine z_aload_n (j := 1) (q := 542) (by decide +kernel) rfl 1 rfl ?_
                        refine z_aload_n (j := 0) (q := 543) (by decide +kernel) rfl 0 rfl ?_
                        refine z_iload_n (j := 3) (q := 544) (by decide +kernel) rfl 3 rfl ?_
                        refine z_iconst (n := 1) (v := 1) (q := 545) (by decide +kernel) rfl (by decide) ?_
                        refine z_iadd (q := 546) (by decide +kernel) rfl ?_
                        refine z_iald (q := 547) (Or.inl ⟨rfl, rfl⟩) (by decide +kernel) rfl fun x88 => ?_
                        refine z_callVI (As := [.int x88]) (st := []) (q := 550) (ct_X4_hill g l v1 x88) zm_RL_53 (rc_X4_hill v1 x88) rfl (by decide) (by decide) (Nat.le_of_ble_eq_true rfl) rfl (by decide +kernel) rfl fun x89 => ?_
                        refine z_aload_n (j := 2) (q := 551) (by decide +kernel) rfl 2 rfl ?_
                        refine z_aload_n (j := 0) (q := 552) (by decide +kernel) rfl 0 rfl ?_
                        refine z_iload_n (j := 3) (q := 553) (by decide +kernel) rfl 3 rfl ?_
                        refine z_iconst (n := 1) (v := 1) (q := 554) (by decide +kernel) rfl (by decide) ?_
                        refine z_iadd (q := 555) (by decide +kernel) rfl ?_
                        refine z_iald (q := 556) (Or.inl ⟨rfl, rfl⟩) (by decide +kernel) rfl fun x91 => ?_
                        refine z_callVI (As := [.int x91]) (st := [.int x89]) (q := 559) (ct_X5_hill g l v2 x91) zm_RL_56 (rc_X5_hill v2 x91) rfl (by decide) (by decide) (Nat.le_of_ble_eq_true rfl) rfl (by decide +kernel) rfl fun x92 => ?_
                        refine z_icmp_eq (off := 900) (t := 1459) (q := 562) (by decide +kernel) (by decide) rfl ?_ ?_
                        · refine zsub [0, 1, 2, 3] rfl ?_
                          exact sj_L_law_1459 g l rec v0 v1 v2 s hrec
                        · refine zsub [] rfl ?_
                          exact sj_L_law_562 g l 
                      · skip
                        refine z_case (fun c101 => ?_) (fun c101 => ?_)
                        · refine z_tabIn (v := 10) (off := 531) (t := 564) c101 (by decide +kernel : decode cL_law 33 = .ok (.tableswitch 1426 0 43 #[191, 224, 267, 300, 323, 386, 409, 442, 485, 508, 531, 554, 587, 620, 653, 686, 709, 722, 745, 778, 791, 814, 837, 860, 873, 896, 919, 952, 985, 1028, 1081, 1124, 1147, 1170, 1203, 1246, 1269, 1312, 1325, 1339, 1353, 1376, 1389, 1412], 191)) (by decide) (by decide) (by decide) (by decide) ?_
                          refine z_aload_n (j := 1) (q := 565) (by decide +kernel) rfl 1 rfl ?_
                          refine z_aload_n (j := 0) (q := 566) (by decide +kernel) rfl 0 rfl ?_
                          refine z_iload_n (j := 3) (q := 567) (by decide +kernel) rfl 3 rfl ?_
                          refine z_iconst (n := 1) (v := 1) (q := 568) (by decide +kernel) rfl (by decide) ?_
                          refine z_iadd (q := 569) (by decide +kernel) rfl ?_
                          refine z_iald (q := 570) (Or.inl ⟨rfl, rfl⟩) (by decide +kernel) rfl fun x95 => ?_
                          refine z_callVI (As := [.int x95]) (st := []) (q := 573) (ct_X4_road g l v1 x95) zm_RL_57 (rc_X4_road v1 x95) rfl (by decide) (by decide) (Nat.le_of_ble_eq_true rfl) rfl (by decide +kernel) rfl fun x96 => ?_
                          refine z_aload_n (j := 2) (q := 574) (by decide +kernel) rfl 2 rfl ?_
                          refine z_aload_n (j := 0) (q := 575) (by decide +kernel) rfl 0 rfl ?_
                          refine z_iload_n (j := 3) (q := 576) (by decide +kernel) rfl 3 rfl ?_
                          refine z_iconst (n := 1) (v := 1) (q := 577) (by decide +kernel) rfl (by decide) ?_
                          refine z_iadd (q := 578) (by decide +kernel) rfl ?_
                          refine z_iald (q := 579) (Or.inl ⟨rfl, rfl⟩) (by decide +kernel) rfl fun x98 => ?_
                          refine z_callVI (As := [.int x98]) (st := [.int x96]) (q := 582) (ct_X5_road g l v2 x98) zm_RL_60 (rc_X5_road v2 x98) rfl (by decide) (by decide) (Nat.le_of_ble_eq_true rfl) rfl (by decide +kernel) rfl fun x99 => ?_
                          refine z_icmp_eq (off := 877) (t := 1459) (q := 585) (by decide +kernel) (by decide) rfl ?_ ?_
                          · refine zsub [0, 1, 2, 3] rfl ?_
                            exact sj_L_law_1459 g l rec v0 v1 v2 s hrec
                          · refine zsub [] rfl ?_
                            exact sj_L_law_585 g l 
                        · skip
                          refine z_case (fun c110 => ?_) (fun c110 => ?_)
                          · refine z_tabIn (v := 11) (off := 554) (t := 587) c110 (by decide +kernel : decode cL_law 33 = .ok (.tableswitch 1426 0 43 #[191, 224, 267, 300, 323, 386, 409, 442, 485, 508, 531, 554, 587, 620, 653, 686, 709, 722, 745, 778, 791, 814, 837, 860, 873, 896, 919, 952, 985, 1028, 1081, 1124, 1147, 1170, 1203, 1246, 1269, 1312, 1325, 1339, 1353, 1376, 1389, 1412], 191)) (by decide) (by decide) (by decide) (by decide) ?_
                            refine z_aload_n (j := 1) (q := 588) (by decide +kernel) rfl 1 rfl ?_
                            refine z_aload_n (j := 0) (q := 589) (by decide +kernel) rfl 0 rfl ?_
                            refine z_iload_n (j := 3) (q := 590) (by decide +kernel) rfl 3 rfl ?_
                            refine z_iconst (n := 1) (v := 1) (q := 591) (by decide +kernel) rfl (by decide) ?_
                            refine z_iadd (q := 592) (by decide +kernel) rfl ?_
                            refine z_iald (q := 593) (Or.inl ⟨rfl, rfl⟩) (by decide +kernel) rfl fun x102 => ?_
                            refine z_aload_n (j := 0) (q := 594) (by decide +kernel) rfl 0 rfl ?_
                            refine z_iload_n (j := 3) (q := 595) (by decide +kernel) rfl 3 rfl ?_
                            refine z_iconst (n := 2) (v := 2) (q := 596) (by decide +kernel) rfl (by decide) ?_
                            refine z_iadd (q := 597) (by decide +kernel) rfl ?_
                            refine z_iald (q := 598) (Or.inl ⟨rfl, rfl⟩) (by decide +kernel) rfl fun x103 => ?_
                            refine z_callVI (As := [.int x102, .int x103]) (st := []) (q := 601) (ct_X4_about g l v1 x102 x103) zm_RL_61 (rc_X4_about v1 x102 x103) rfl (by decide) (by decide) (Nat.le_of_ble_eq_true rfl) rfl (by decide +kernel) rfl fun x104 => ?_
                            refine z_aload_n (j := 2) (q := 602) (by decide +kernel) rfl 2 rfl ?_
                            refine z_aload_n (j := 0) (q := 603) (by decide +kernel) rfl 0 rfl ?_
                            refine z_iload_n (j := 3) (q := 604) (by decide +kernel) rfl 3 rfl ?_
                            refine z_iconst (n := 1) (v := 1) (q := 605) (by decide +kernel) rfl (by decide) ?_
                            refine z_iadd (q := 606) (by decide +kernel) rfl ?_
                            refine z_iald (q := 607) (Or.inl ⟨rfl, rfl⟩) (by decide +kernel) rfl fun x106 => ?_
                            refine z_aload_n (j := 0) (q := 608) (by decide +kernel) rfl 0 rfl ?_
                            refine z_iload_n (j := 3) (q := 609) (by decide +kernel) rfl 3 rfl ?_
                            refine z_iconst (n := 2) (v := 2) (q := 610) (by decide +kernel) rfl (by decide) ?_
                            refine z_iadd (q := 611) (by decide +kernel) rfl ?_
                            refine z_iald (q := 612) (Or.inl ⟨rfl, rfl⟩) (by decide +kernel) rfl fun x107 => ?_
                            refine z_callVI (As := [.int x106, .int x107]) (st := [.int x104]) (q := 615) (ct_X5_about g l v2 x106 x107) zm_RL_64 (rc_X5_about v2 x106 x107) rfl (by decide) (by decide) (Nat.le_of_ble_eq_true rfl) rfl (by decide +kernel) rfl fun x108 => ?_
                            refine z_icmp_eq (off := 844) (t := 1459) (q := 618) (by decide +kernel) (by decide) rfl ?_ ?_
                            · refine zsub [0, 1, 2, 3] rfl ?_
                              exact sj_L_law_1459 g l rec v0 v1 v2 s hrec
                            · refine zsub [] rfl ?_
                              exact sj_L_law_618 g l 
                          · skip
                            refine z_case (fun c119 => ?_) (fun c119 => ?_)
                            · refine z_tabIn (v := 12) (off := 587) (t := 620) c119 (by decide +kernel : decode cL_law 33 = .ok (.tableswitch 1426 0 43 #[191, 224, 267, 300, 323, 386, 409, 442, 485, 508, 531, 554, 587, 620, 653, 686, 709, 722, 745, 778, 791, 814, 837, 860, 873, 896, 919, 952, 985, 1028, 1081, 1124, 1147, 1170, 1203, 1246, 1269, 1312, 1325, 1339, 1353, 1376, 1389, 1412], 191)) (by decide) (by decide) (by decide) (by decide) ?_
                              refine z_aload_n (j := 1) (q := 621) (by decide +kernel) rfl 1 rfl ?_
                              refine z_aload_n (j := 0) (q := 622) (by decide +kernel) rfl 0 rfl ?_
                              refine z_iload_n (j := 3) (q := 623) (by decide +kernel) rfl 3 rfl ?_
                              refine z_iconst (n := 1) (v := 1) (q := 624) (by decide +kernel) rfl (by decide) ?_
                              refine z_iadd (q := 625) (by decide +kernel) rfl ?_
                              refine z_iald (q := 626) (Or.inl ⟨rfl, rfl⟩) (by decide +kernel) rfl fun x111 => ?_
                              refine z_aload_n (j := 0) (q := 627) (by decide +kernel) rfl 0 rfl ?_
                              refine z_iload_n (j := 3) (q := 628) (by decide +kernel) rfl 3 rfl ?_
                              refine z_iconst (n := 2) (v := 2) (q := 629) (by decide +kernel) rfl (by decide) ?_
                              refine z_iadd (q := 630) (by decide +kernel) rfl ?_
                              refine z_iald (q := 631) (Or.inl ⟨rfl, rfl⟩) (by decide +kernel) rfl fun x112 => ?_
                              refine z_callVI (As := [.int x111, .int x112]) (st := []) (q := 634) (ct_X4_pace g l v1 x111 x112) zm_RL_65 (rc_X4_pace v1 x111 x112) rfl (by decide) (by decide) (Nat.le_of_ble_eq_true rfl) rfl (by decide +kernel) rfl fun x113 => ?_
                              refine z_aload_n (j := 2) (q := 635) (by decide +kernel) rfl 2 rfl ?_
                              refine z_aload_n (j := 0) (q := 636) (by decide +kernel) rfl 0 rfl ?_
                              refine z_iload_n (j := 3) (q := 637) (by decide +kernel) rfl 3 rfl ?_
                              refine z_iconst (n := 1) (v := 1) (q := 638) (by decide +kernel) rfl (by decide) ?_
                              refine z_iadd (q := 639) (by decide +kernel) rfl ?_
                              refine z_iald (q := 640) (Or.inl ⟨rfl, rfl⟩) (by decide +kernel) rfl fun x115 => ?_
                              refine z_aload_n (j := 0) (q := 641) (by decide +kernel) rfl 0 rfl ?_
                              refine z_iload_n (j := 3) (q := 642) (by decide +kernel) rfl 3 rfl ?_
                              refine z_iconst (n := 2) (v := 2) (q := 643) (by decide +kernel) rfl (by decide) ?_
                              refine z_iadd (q := 644) (by decide +kernel) rfl ?_
                              refine z_iald (q := 645) (Or.inl ⟨rfl, rfl⟩) (by decide +kernel) rfl fun x116 => ?_
                              refine z_callVI (As := [.int x115, .int x116]) (st := [.int x113]) (q := 648) (ct_X5_pace g l v2 x115 x116) zm_RL_68 (rc_X5_pace v2 x115 x116) rfl (by decide) (by decide) (Nat.le_of_ble_eq_true rfl) rfl (by decide +kernel) rfl fun x117 => ?_
                              refine z_icmp_eq (off := 811) (t := 1459) (q := 651) (by decide +kernel) (by decide) rfl ?_ ?_
                              · refine zsub [0, 1, 2, 3] rfl ?_
                                exact sj_L_law_1459 g l rec v0 v1 v2 s hrec
                              · refine zsub [] rfl ?_
                                exact sj_L_law_651 g l 
                            · skip
                              refine z_case (fun c128 => ?_) (fun c128 => ?_)
                              · refine z_tabIn (v := 13) (off := 620) (t := 653) c128 (by decide +kernel : decode cL_law 33 = .ok (.tableswitch 1426 0 43 #[191, 224, 267, 300, 323, 386, 409, 442, 485, 508, 531, 554, 587, 620, 653, 686, 709, 722, 745, 778, 791, 814, 837, 860, 873, 896, 919, 952, 985, 1028, 1081, 1124, 1147, 1170, 1203, 1246, 1269, 1312, 1325, 1339, 1353, 1376, 1389, 1412], 191)) (by decide) (by decide) (by decide) (by decide) ?_
                                refine z_aload_n (j := 1) (q := 654) (by decide +kernel) rfl 1 rfl ?_
                                refine z_aload_n (j := 0) (q := 655) (by decide +kernel) rfl 0 rfl ?_
                                refine z_iload_n (j := 3) (q := 656) (by decide +kernel) rfl 3 rfl ?_
                                refine z_iconst (n := 1) (v := 1) (q := 657) (by decide +kernel) rfl (by decide) ?_
                                refine z_iadd (q := 658) (by decide +kernel) rfl ?_
                                refine z_iald (q := 659) (Or.inl ⟨rfl, rfl⟩) (by decide +kernel) rfl fun x120 => ?_
                                refine z_aload_n (j := 0) (q := 660) (by decide +kernel) rfl 0 rfl ?_
                                refine z_iload_n (j := 3) (q := 661) (by decide +kernel) rfl 3 rfl ?_
                                refine z_iconst (n := 2) (v := 2) (q := 662) (by decide +kernel) rfl (by decide) ?_
                                refine z_iadd (q := 663) (by decide +kernel) rfl ?_
                                refine z_iald (q := 664) (Or.inl ⟨rfl, rfl⟩) (by decide +kernel) rfl fun x121 => ?_
                                refine z_callVI (As := [.int x120, .int x121]) (st := []) (q := 667) (ct_X4_mark g l v1 x120 x121) zm_RL_69 (rc_X4_mark v1 x120 x121) rfl (by decide) (by decide) (Nat.le_of_ble_eq_true rfl) rfl (by decide +kernel) rfl fun x122 => ?_
                                refine z_aload_n (j := 2) (q := 668) (by decide +kernel) rfl 2 rfl ?_
                                refine z_aload_n (j := 0) (q := 669) (by decide +kernel) rfl 0 rfl ?_
                                refine z_iload_n (j := 3) (q := 670) (by decide +kernel) rfl 3 rfl ?_
                                refine z_iconst (n := 1) (v := 1) (q := 671) (by decide +kernel) rfl (by decide) ?_
                                refine z_iadd (q := 672) (by decide +kernel) rfl ?_
                                refine z_iald (q := 673) (Or.inl ⟨rfl, rfl⟩) (by decide +kernel) rfl fun x124 => ?_
                                refine z_aload_n (j := 0) (q := 674) (by decide +kernel) rfl 0 rfl ?_
                                refine z_iload_n (j := 3) (q := 675) (by decide +kernel) rfl 3 rfl ?_
                                refine z_iconst (n := 2) (v := 2) (q := 676) (by decide +kernel) rfl (by decide) ?_
                                refine z_iadd (q := 677) (by decide +kernel) rfl ?_
                                refine z_iald (q := 678) (Or.inl ⟨rfl, rfl⟩) (by decide +kernel) rfl fun x125 => ?_
                                refine z_callVI (As := [.int x124, .int x125]) (st := [.int x122]) (q := 681) (ct_X5_mark g l v2 x124 x125) zm_RL_72 (rc_X5_mark v2 x124 x125) rfl (by decide) (by decide) (Nat.le_of_ble_eq_true rfl) rfl (by decide +kernel) rfl fun x126 => ?_
                                refine z_icmp_eq (off := 778) (t := 1459) (q := 684) (by decide +kernel) (by decide) rfl ?_ ?_
                                · refine zsub [0, 1, 2, 3] rfl ?_
                                  exact sj_L_law_1459 g l rec v0 v1 v2 s hrec
                                · refine zsub [] rfl ?_
                                  exact sj_L_law_684 g l 
                              · skip
                                refine z_case (fun c137 => ?_) (fun c137 => ?_)
                                · refine z_tabIn (v := 14) (off := 653) (t := 686) c137 (by decide +kernel : decode cL_law 33 = .ok (.tableswitch 1426 0 43 #[191, 224, 267, 300, 323, 386, 409, 442, 485, 508, 531, 554, 587, 620, 653, 686, 709, 722, 745, 778, 791, 814, 837, 860, 873, 896, 919, 952, 985, 1028, 1081, 1124, 1147, 1170, 1203, 1246, 1269, 1312, 1325, 1339, 1353, 1376, 1389, 1412], 191)) (by decide) (by decide) (by decide) (by decide) ?_
                                  refine z_aload_n (j := 1) (q := 687) (by decide +kernel) rfl 1 rfl ?_
                                  refine z_aload_n (j := 0) (q := 688) (by decide +kernel) rfl 0 rfl ?_
                                  refine z_iload_n (j := 3) (q := 689) (by decide +kernel) rfl 3 rfl ?_
                                  refine z_iconst (n := 1) (v := 1) (q := 690) (by decide +kernel) rfl (by decide) ?_
                                  refine z_iadd (q := 691) (by decide +kernel) rfl ?_
                                  refine z_iald (q := 692) (Or.inl ⟨rfl, rfl⟩) (by decide +kernel) rfl fun x129 => ?_
                                  refine z_aload_n (j := 0) (q := 693) (by decide +kernel) rfl 0 rfl ?_
                                  refine z_iload_n (j := 3) (q := 694) (by decide +kernel) rfl 3 rfl ?_
                                  refine z_iconst (n := 2) (v := 2) (q := 695) (by decide +kernel) rfl (by decide) ?_
                                  refine z_iadd (q := 696) (by decide +kernel) rfl ?_
                                  refine z_iald (q := 697) (Or.inl ⟨rfl, rfl⟩) (by decide +kernel) rfl fun x130 => ?_
                                  refine z_callVI (As := [.int x129, .int x130]) (st := []) (q := 700) (ct_X4_head g l v1 x129 x130) zm_RL_73 (rc_X4_head v1 x129 x130) rfl (by decide) (by decide) (Nat.le_of_ble_eq_true rfl) rfl (by decide +kernel) rfl fun x131 => ?_
                                  refine z_aload_n (j := 2) (q := 701) (by decide +kernel) rfl 2 rfl ?_
                                  refine z_aload_n (j := 0) (q := 702) (by decide +kernel) rfl 0 rfl ?_
                                  refine z_iload_n (j := 3) (q := 703) (by decide +kernel) rfl 3 rfl ?_
                                  refine z_iconst (n := 1) (v := 1) (q := 704) (by decide +kernel) rfl (by decide) ?_
                                  refine z_iadd (q := 705) (by decide +kernel) rfl ?_
                                  refine z_iald (q := 706) (Or.inl ⟨rfl, rfl⟩) (by decide +kernel) rfl fun x133 => ?_
                                  refine z_aload_n (j := 0) (q := 707) (by decide +kernel) rfl 0 rfl ?_
                                  refine z_iload_n (j := 3) (q := 708) (by decide +kernel) rfl 3 rfl ?_
                                  refine z_iconst (n := 2) (v := 2) (q := 709) (by decide +kernel) rfl (by decide) ?_
                                  refine z_iadd (q := 710) (by decide +kernel) rfl ?_
                                  refine z_iald (q := 711) (Or.inl ⟨rfl, rfl⟩) (by decide +kernel) rfl fun x134 => ?_
                                  refine z_callVI (As := [.int x133, .int x134]) (st := [.int x131]) (q := 714) (ct_X5_head g l v2 x133 x134) zm_RL_76 (rc_X5_head v2 x133 x134) rfl (by decide) (by decide) (Nat.le_of_ble_eq_true rfl) rfl (by decide +kernel) rfl fun x135 => ?_
                                  refine z_icmp_eq (off := 745) (t := 1459) (q := 717) (by decide +kernel) (by decide) rfl ?_ ?_
                                  · refine zsub [0, 1, 2, 3] rfl ?_
                                    exact sj_L_law_1459 g l rec v0 v1 v2 s hrec
                                  · refine zsub [] rfl ?_
                                    exact sj_L_law_717 g l 
                                · skip
                                  refine z_case (fun c144 => ?_) (fun c144 => ?_)
                                  · refine z_tabIn (v := 15) (off := 686) (t := 719) c144 (by decide +kernel : decode cL_law 33 = .ok (.tableswitch 1426 0 43 #[191, 224, 267, 300, 323, 386, 409, 442, 485, 508, 531, 554, 587, 620, 653, 686, 709, 722, 745, 778, 791, 814, 837, 860, 873, 896, 919, 952, 985, 1028, 1081, 1124, 1147, 1170, 1203, 1246, 1269, 1312, 1325, 1339, 1353, 1376, 1389, 1412], 191)) (by decide) (by decide) (by decide) (by decide) ?_
                                    refine z_aload_n (j := 1) (q := 720) (by decide +kernel) rfl 1 rfl ?_
                                    refine z_aload_n (j := 0) (q := 721) (by decide +kernel) rfl 0 rfl ?_
                                    refine z_iload_n (j := 3) (q := 722) (by decide +kernel) rfl 3 rfl ?_
                                    refine z_iconst (n := 1) (v := 1) (q := 723) (by decide +kernel) rfl (by decide) ?_
                                    refine z_iadd (q := 724) (by decide +kernel) rfl ?_
                                    refine z_iald (q := 725) (Or.inl ⟨rfl, rfl⟩) (by decide +kernel) rfl fun x138 => ?_
                                    refine z_callVI (As := [.int x138]) (st := []) (q := 728) (ct_X4_law g l v1 x138) zm_RL_77 (rc_X4_law v1 x138) rfl (by decide) (by decide) (Nat.le_of_ble_eq_true rfl) rfl (by decide +kernel) rfl fun x139 => ?_
                                    refine z_aload_n (j := 2) (q := 729) (by decide +kernel) rfl 2 rfl ?_
                                    refine z_aload_n (j := 0) (q := 730) (by decide +kernel) rfl 0 rfl ?_
                                    refine z_iload_n (j := 3) (q := 731) (by decide +kernel) rfl 3 rfl ?_
                                    refine z_iconst (n := 1) (v := 1) (q := 732) (by decide +kernel) rfl (by decide) ?_
                                    refine z_iadd (q := 733) (by decide +kernel) rfl ?_
                                    refine z_iald (q := 734) (Or.inl ⟨rfl, rfl⟩) (by decide +kernel) rfl fun x141 => ?_
                                    refine z_callVI (As := [.int x141]) (st := [.int x139]) (q := 737) (ct_X5_law g l v2 x141) zm_RL_80 (rc_X5_law v2 x141) rfl (by decide) (by decide) (Nat.le_of_ble_eq_true rfl) rfl (by decide +kernel) rfl fun x142 => ?_
                                    refine z_icmp_eq (off := 722) (t := 1459) (q := 740) (by decide +kernel) (by decide) rfl ?_ ?_
                                    · refine zsub [0, 1, 2, 3] rfl ?_
                                      exact sj_L_law_1459 g l rec v0 v1 v2 s hrec
                                    · refine zsub [] rfl ?_
                                      exact sj_L_law_740 g l 
                                  · skip
                                    refine z_case (fun c149 => ?_) (fun c149 => ?_)
                                    · refine z_tabIn (v := 16) (off := 709) (t := 742) c149 (by decide +kernel : decode cL_law 33 = .ok (.tableswitch 1426 0 43 #[191, 224, 267, 300, 323, 386, 409, 442, 485, 508, 531, 554, 587, 620, 653, 686, 709, 722, 745, 778, 791, 814, 837, 860, 873, 896, 919, 952, 985, 1028, 1081, 1124, 1147, 1170, 1203, 1246, 1269, 1312, 1325, 1339, 1353, 1376, 1389, 1412], 191)) (by decide) (by decide) (by decide) (by decide) ?_
                                      refine z_aload_n (j := 1) (q := 743) (by decide +kernel) rfl 1 rfl ?_
                                      refine z_callVI (As := []) (st := []) (q := 746) (ct_X4_begin g l v1) zm_RL_81 (rc_X4_begin v1) rfl (by decide) (by decide) (Nat.le_of_ble_eq_true rfl) rfl (by decide +kernel) rfl fun x145 => ?_
                                      refine z_aload_n (j := 2) (q := 747) (by decide +kernel) rfl 2 rfl ?_
                                      refine z_callVI (As := []) (st := [.int x145]) (q := 750) (ct_X5_begin g l v2) zm_RL_85 (rc_X5_begin v2) rfl (by decide) (by decide) (Nat.le_of_ble_eq_true rfl) rfl (by decide +kernel) rfl fun x147 => ?_
                                      refine z_icmp_eq (off := 709) (t := 1459) (q := 753) (by decide +kernel) (by decide) rfl ?_ ?_
                                      · refine zsub [0, 1, 2, 3] rfl ?_
                                        exact sj_L_law_1459 g l rec v0 v1 v2 s hrec
                                      · refine zsub [] rfl ?_
                                        exact sj_L_law_753 g l 
                                    · skip
                                      refine z_case (fun c156 => ?_) (fun c156 => ?_)
                                      · refine z_tabIn (v := 17) (off := 722) (t := 755) c156 (by decide +kernel : decode cL_law 33 = .ok (.tableswitch 1426 0 43 #[191, 224, 267, 300, 323, 386, 409, 442, 485, 508, 531, 554, 587, 620, 653, 686, 709, 722, 745, 778, 791, 814, 837, 860, 873, 896, 919, 952, 985, 1028, 1081, 1124, 1147, 1170, 1203, 1246, 1269, 1312, 1325, 1339, 1353, 1376, 1389, 1412], 191)) (by decide) (by decide) (by decide) (by decide) ?_
                                        refine z_aload_n (j := 1) (q := 756) (by decide +kernel) rfl 1 rfl ?_
                                        refine z_aload_n (j := 0) (q := 757) (by decide +kernel) rfl 0 rfl ?_
                                        refine z_iload_n (j := 3) (q := 758) (by decide +kernel) rfl 3 rfl ?_
                                        refine z_iconst (n := 1) (v := 1) (q := 759) (by decide +kernel) rfl (by decide) ?_
                                        refine z_iadd (q := 760) (by decide +kernel) rfl ?_
                                        refine z_iald (q := 761) (Or.inl ⟨rfl, rfl⟩) (by decide +kernel) rfl fun x150 => ?_
                                        refine z_callVI (As := [.int x150]) (st := []) (q := 764) (ct_X4_go g l v1 x150) zm_RL_86 (rc_X4_go v1 x150) rfl (by decide) (by decide) (Nat.le_of_ble_eq_true rfl) rfl (by decide +kernel) rfl fun x151 => ?_
                                        refine z_aload_n (j := 2) (q := 765) (by decide +kernel) rfl 2 rfl ?_
                                        refine z_aload_n (j := 0) (q := 766) (by decide +kernel) rfl 0 rfl ?_
                                        refine z_iload_n (j := 3) (q := 767) (by decide +kernel) rfl 3 rfl ?_
                                        refine z_iconst (n := 1) (v := 1) (q := 768) (by decide +kernel) rfl (by decide) ?_
                                        refine z_iadd (q := 769) (by decide +kernel) rfl ?_
                                        refine z_iald (q := 770) (Or.inl ⟨rfl, rfl⟩) (by decide +kernel) rfl fun x153 => ?_
                                        refine z_callVI (As := [.int x153]) (st := [.int x151]) (q := 773) (ct_X5_go g l v2 x153) zm_RL_89 (rc_X5_go v2 x153) rfl (by decide) (by decide) (Nat.le_of_ble_eq_true rfl) rfl (by decide +kernel) rfl fun x154 => ?_
                                        refine z_icmp_eq (off := 686) (t := 1459) (q := 776) (by decide +kernel) (by decide) rfl ?_ ?_
                                        · refine zsub [0, 1, 2, 3] rfl ?_
                                          exact sj_L_law_1459 g l rec v0 v1 v2 s hrec
                                        · refine zsub [] rfl ?_
                                          exact sj_L_law_776 g l 
                                      · skip
                                        refine z_case (fun c165 => ?_) (fun c165 => ?_)
                                        · refine z_tabIn (v := 18) (off := 745) (t := 778) c165 (by decide +kernel : decode cL_law 33 = .ok (.tableswitch 1426 0 43 #[191, 224, 267, 300, 323, 386, 409, 442, 485, 508, 531, 554, 587, 620, 653, 686, 709, 722, 745, 778, 791, 814, 837, 860, 873, 896, 919, 952, 985, 1028, 1081, 1124, 1147, 1170, 1203, 1246, 1269, 1312, 1325, 1339, 1353, 1376, 1389, 1412], 191)) (by decide) (by decide) (by decide) (by decide) ?_
                                          refine z_aload_n (j := 1) (q := 779) (by decide +kernel) rfl 1 rfl ?_
                                          refine z_aload_n (j := 0) (q := 780) (by decide +kernel) rfl 0 rfl ?_
                                          refine z_iload_n (j := 3) (q := 781) (by decide +kernel) rfl 3 rfl ?_
                                          refine z_iconst (n := 1) (v := 1) (q := 782) (by decide +kernel) rfl (by decide) ?_
                                          refine z_iadd (q := 783) (by decide +kernel) rfl ?_
                                          refine z_iald (q := 784) (Or.inl ⟨rfl, rfl⟩) (by decide +kernel) rfl fun x157 => ?_
                                          refine z_aload_n (j := 0) (q := 785) (by decide +kernel) rfl 0 rfl ?_
                                          refine z_iload_n (j := 3) (q := 786) (by decide +kernel) rfl 3 rfl ?_
                                          refine z_iconst (n := 2) (v := 2) (q := 787) (by decide +kernel) rfl (by decide) ?_
                                          refine z_iadd (q := 788) (by decide +kernel) rfl ?_
                                          refine z_iald (q := 789) (Or.inl ⟨rfl, rfl⟩) (by decide +kernel) rfl fun x158 => ?_
                                          refine z_callVI (As := [.int x157, .int x158]) (st := []) (q := 792) (ct_X4_told g l v1 x157 x158) zm_RL_90 (rc_X4_told v1 x157 x158) rfl (by decide) (by decide) (Nat.le_of_ble_eq_true rfl) rfl (by decide +kernel) rfl fun x159 => ?_
                                          refine z_aload_n (j := 2) (q := 793) (by decide +kernel) rfl 2 rfl ?_
                                          refine z_aload_n (j := 0) (q := 794) (by decide +kernel) rfl 0 rfl ?_
                                          refine z_iload_n (j := 3) (q := 795) (by decide +kernel) rfl 3 rfl ?_
                                          refine z_iconst (n := 1) (v := 1) (q := 796) (by decide +kernel) rfl (by decide) ?_
                                          refine z_iadd (q := 797) (by decide +kernel) rfl ?_
                                          refine z_iald (q := 798) (Or.inl ⟨rfl, rfl⟩) (by decide +kernel) rfl fun x161 => ?_
                                          refine z_aload_n (j := 0) (q := 799) (by decide +kernel) rfl 0 rfl ?_
                                          refine z_iload_n (j := 3) (q := 800) (by decide +kernel) rfl 3 rfl ?_
                                          refine z_iconst (n := 2) (v := 2) (q := 801) (by decide +kernel) rfl (by decide) ?_
                                          refine z_iadd (q := 802) (by decide +kernel) rfl ?_
                                          refine z_iald (q := 803) (Or.inl ⟨rfl, rfl⟩) (by decide +kernel) rfl fun x162 => ?_
                                          refine z_callVI (As := [.int x161, .int x162]) (st := [.int x159]) (q := 806) (ct_X5_told g l v2 x161 x162) zm_RL_93 (rc_X5_told v2 x161 x162) rfl (by decide) (by decide) (Nat.le_of_ble_eq_true rfl) rfl (by decide +kernel) rfl fun x163 => ?_
                                          refine z_icmp_eq (off := 653) (t := 1459) (q := 809) (by decide +kernel) (by decide) rfl ?_ ?_
                                          · refine zsub [0, 1, 2, 3] rfl ?_
                                            exact sj_L_law_1459 g l rec v0 v1 v2 s hrec
                                          · refine zsub [] rfl ?_
                                            exact sj_L_law_809 g l 
                                        · skip
                                          refine z_case (fun c170 => ?_) (fun c170 => ?_)
                                          · refine z_tabIn (v := 19) (off := 778) (t := 811) c170 (by decide +kernel : decode cL_law 33 = .ok (.tableswitch 1426 0 43 #[191, 224, 267, 300, 323, 386, 409, 442, 485, 508, 531, 554, 587, 620, 653, 686, 709, 722, 745, 778, 791, 814, 837, 860, 873, 896, 919, 952, 985, 1028, 1081, 1124, 1147, 1170, 1203, 1246, 1269, 1312, 1325, 1339, 1353, 1376, 1389, 1412], 191)) (by decide) (by decide) (by decide) (by decide) ?_
                                            refine z_aload_n (j := 1) (q := 812) (by decide +kernel) rfl 1 rfl ?_
                                            refine z_callVI (As := []) (st := []) (q := 815) (ct_X4_sack g l v1) zm_RL_94 (rc_X4_sack v1) rfl (by decide) (by decide) (Nat.le_of_ble_eq_true rfl) rfl (by decide +kernel) rfl fun x166 => ?_
                                            refine z_aload_n (j := 2) (q := 816) (by decide +kernel) rfl 2 rfl ?_
                                            refine z_callVI (As := []) (st := [.int x166]) (q := 819) (ct_X5_sack g l v2) zm_RL_97 (rc_X5_sack v2) rfl (by decide) (by decide) (Nat.le_of_ble_eq_true rfl) rfl (by decide +kernel) rfl fun x168 => ?_
                                            refine z_icmp_eq (off := 640) (t := 1459) (q := 822) (by decide +kernel) (by decide) rfl ?_ ?_
                                            · refine zsub [0, 1, 2, 3] rfl ?_
                                              exact sj_L_law_1459 g l rec v0 v1 v2 s hrec
                                            · refine zsub [] rfl ?_
                                              exact sj_L_law_822 g l 
                                          · skip
                                            refine z_case (fun c177 => ?_) (fun c177 => ?_)
                                            · refine z_tabIn (v := 20) (off := 791) (t := 824) c177 (by decide +kernel : decode cL_law 33 = .ok (.tableswitch 1426 0 43 #[191, 224, 267, 300, 323, 386, 409, 442, 485, 508, 531, 554, 587, 620, 653, 686, 709, 722, 745, 778, 791, 814, 837, 860, 873, 896, 919, 952, 985, 1028, 1081, 1124, 1147, 1170, 1203, 1246, 1269, 1312, 1325, 1339, 1353, 1376, 1389, 1412], 191)) (by decide) (by decide) (by decide) (by decide) ?_
                                              refine z_aload_n (j := 1) (q := 825) (by decide +kernel) rfl 1 rfl ?_
                                              refine z_aload_n (j := 0) (q := 826) (by decide +kernel) rfl 0 rfl ?_
                                              refine z_iload_n (j := 3) (q := 827) (by decide +kernel) rfl 3 rfl ?_
                                              refine z_iconst (n := 1) (v := 1) (q := 828) (by decide +kernel) rfl (by decide) ?_
                                              refine z_iadd (q := 829) (by decide +kernel) rfl ?_
                                              refine z_iald (q := 830) (Or.inl ⟨rfl, rfl⟩) (by decide +kernel) rfl fun x171 => ?_
                                              refine z_callVI (As := [.int x171]) (st := []) (q := 833) (ct_X4_passed g l v1 x171) zm_RL_98 (rc_X4_passed v1 x171) rfl (by decide) (by decide) (Nat.le_of_ble_eq_true rfl) rfl (by decide +kernel) rfl fun x172 => ?_
                                              refine z_aload_n (j := 2) (q := 834) (by decide +kernel) rfl 2 rfl ?_
                                              refine z_aload_n (j := 0) (q := 835) (by decide +kernel) rfl 0 rfl ?_
                                              refine z_iload_n (j := 3) (q := 836) (by decide +kernel) rfl 3 rfl ?_
                                              refine z_iconst (n := 1) (v := 1) (q := 837) (by decide +kernel) rfl (by decide) ?_
                                              refine z_iadd (q := 838) (by decide +kernel) rfl ?_
                                              refine z_iald (q := 839) (Or.inl ⟨rfl, rfl⟩) (by decide +kernel) rfl fun x174 => ?_
                                              refine z_callVI (As := [.int x174]) (st := [.int x172]) (q := 842) (ct_X5_passed g l v2 x174) zm_RL_101 (rc_X5_passed v2 x174) rfl (by decide) (by decide) (Nat.le_of_ble_eq_true rfl) rfl (by decide +kernel) rfl fun x175 => ?_
                                              refine z_icmp_eq (off := 617) (t := 1459) (q := 845) (by decide +kernel) (by decide) rfl ?_ ?_
                                              · refine zsub [0, 1, 2, 3] rfl ?_
                                                exact sj_L_law_1459 g l rec v0 v1 v2 s hrec
                                              · refine zsub [] rfl ?_
                                                exact sj_L_law_845 g l 
                                            · skip
                                              refine z_case (fun c184 => ?_) (fun c184 => ?_)
                                              · refine z_tabIn (v := 21) (off := 814) (t := 847) c184 (by decide +kernel : decode cL_law 33 = .ok (.tableswitch 1426 0 43 #[191, 224, 267, 300, 323, 386, 409, 442, 485, 508, 531, 554, 587, 620, 653, 686, 709, 722, 745, 778, 791, 814, 837, 860, 873, 896, 919, 952, 985, 1028, 1081, 1124, 1147, 1170, 1203, 1246, 1269, 1312, 1325, 1339, 1353, 1376, 1389, 1412], 191)) (by decide) (by decide) (by decide) (by decide) ?_
                                                refine z_aload_n (j := 1) (q := 848) (by decide +kernel) rfl 1 rfl ?_
                                                refine z_aload_n (j := 0) (q := 849) (by decide +kernel) rfl 0 rfl ?_
                                                refine z_iload_n (j := 3) (q := 850) (by decide +kernel) rfl 3 rfl ?_
                                                refine z_iconst (n := 1) (v := 1) (q := 851) (by decide +kernel) rfl (by decide) ?_
                                                refine z_iadd (q := 852) (by decide +kernel) rfl ?_
                                                refine z_iald (q := 853) (Or.inl ⟨rfl, rfl⟩) (by decide +kernel) rfl fun x178 => ?_
                                                refine z_callVI (As := [.int x178]) (st := []) (q := 856) (ct_X4_keep g l v1 x178) zm_RL_102 (rc_X4_keep v1 x178) rfl (by decide) (by decide) (Nat.le_of_ble_eq_true rfl) rfl (by decide +kernel) rfl fun x179 => ?_
                                                refine z_aload_n (j := 2) (q := 857) (by decide +kernel) rfl 2 rfl ?_
                                                refine z_aload_n (j := 0) (q := 858) (by decide +kernel) rfl 0 rfl ?_
                                                refine z_iload_n (j := 3) (q := 859) (by decide +kernel) rfl 3 rfl ?_
                                                refine z_iconst (n := 1) (v := 1) (q := 860) (by decide +kernel) rfl (by decide) ?_
                                                refine z_iadd (q := 861) (by decide +kernel) rfl ?_
                                                refine z_iald (q := 862) (Or.inl ⟨rfl, rfl⟩) (by decide +kernel) rfl fun x181 => ?_
                                                refine z_callVI (As := [.int x181]) (st := [.int x179]) (q := 865) (ct_X5_keep g l v2 x181) zm_RL_105 (rc_X5_keep v2 x181) rfl (by decide) (by decide) (Nat.le_of_ble_eq_true rfl) rfl (by decide +kernel) rfl fun x182 => ?_
                                                refine z_icmp_eq (off := 594) (t := 1459) (q := 868) (by decide +kernel) (by decide) rfl ?_ ?_
                                                · refine zsub [0, 1, 2, 3] rfl ?_
                                                  exact sj_L_law_1459 g l rec v0 v1 v2 s hrec
                                                · refine zsub [] rfl ?_
                                                  exact sj_L_law_868 g l 
                                              · skip
                                                refine z_case (fun c191 => ?_) (fun c191 => ?_)
                                                · refine z_tabIn (v := 22) (off := 837) (t := 870) c191 (by decide +kernel : decode cL_law 33 = .ok (.tableswitch 1426 0 43 #[191, 224, 267, 300, 323, 386, 409, 442, 485, 508, 531, 554, 587, 620, 653, 686, 709, 722, 745, 778, 791, 814, 837, 860, 873, 896, 919, 952, 985, 1028, 1081, 1124, 1147, 1170, 1203, 1246, 1269, 1312, 1325, 1339, 1353, 1376, 1389, 1412], 191)) (by decide) (by decide) (by decide) (by decide) ?_
                                                  refine z_aload_n (j := 1) (q := 871) (by decide +kernel) rfl 1 rfl ?_
                                                  refine z_aload_n (j := 0) (q := 872) (by decide +kernel) rfl 0 rfl ?_
                                                  refine z_iload_n (j := 3) (q := 873) (by decide +kernel) rfl 3 rfl ?_
                                                  refine z_iconst (n := 1) (v := 1) (q := 874) (by decide +kernel) rfl (by decide) ?_
                                                  refine z_iadd (q := 875) (by decide +kernel) rfl ?_
                                                  refine z_iald (q := 876) (Or.inl ⟨rfl, rfl⟩) (by decide +kernel) rfl fun x185 => ?_
                                                  refine z_callVI (As := [.int x185]) (st := []) (q := 879) (ct_X4_on g l v1 x185) zm_RL_106 (rc_X4_on v1 x185) rfl (by decide) (by decide) (Nat.le_of_ble_eq_true rfl) rfl (by decide +kernel) rfl fun x186 => ?_
                                                  refine z_aload_n (j := 2) (q := 880) (by decide +kernel) rfl 2 rfl ?_
                                                  refine z_aload_n (j := 0) (q := 881) (by decide +kernel) rfl 0 rfl ?_
                                                  refine z_iload_n (j := 3) (q := 882) (by decide +kernel) rfl 3 rfl ?_
                                                  refine z_iconst (n := 1) (v := 1) (q := 883) (by decide +kernel) rfl (by decide) ?_
                                                  refine z_iadd (q := 884) (by decide +kernel) rfl ?_
                                                  refine z_iald (q := 885) (Or.inl ⟨rfl, rfl⟩) (by decide +kernel) rfl fun x188 => ?_
                                                  refine z_callVI (As := [.int x188]) (st := [.int x186]) (q := 888) (ct_X5_on g l v2 x188) zm_RL_109 (rc_X5_on v2 x188) rfl (by decide) (by decide) (Nat.le_of_ble_eq_true rfl) rfl (by decide +kernel) rfl fun x189 => ?_
                                                  refine z_icmp_eq (off := 571) (t := 1459) (q := 891) (by decide +kernel) (by decide) rfl ?_ ?_
                                                  · refine zsub [0, 1, 2, 3] rfl ?_
                                                    exact sj_L_law_1459 g l rec v0 v1 v2 s hrec
                                                  · refine zsub [] rfl ?_
                                                    exact sj_L_law_891 g l 
                                                · skip
                                                  refine z_case (fun c196 => ?_) (fun c196 => ?_)
                                                  · refine z_tabIn (v := 23) (off := 860) (t := 893) c196 (by decide +kernel : decode cL_law 33 = .ok (.tableswitch 1426 0 43 #[191, 224, 267, 300, 323, 386, 409, 442, 485, 508, 531, 554, 587, 620, 653, 686, 709, 722, 745, 778, 791, 814, 837, 860, 873, 896, 919, 952, 985, 1028, 1081, 1124, 1147, 1170, 1203, 1246, 1269, 1312, 1325, 1339, 1353, 1376, 1389, 1412], 191)) (by decide) (by decide) (by decide) (by decide) ?_
                                                    refine z_aload_n (j := 1) (q := 894) (by decide +kernel) rfl 1 rfl ?_
                                                    refine z_callVI (As := []) (st := []) (q := 897) (ct_X4_pays g l v1) zm_RL_110 (rc_X4_pays v1) rfl (by decide) (by decide) (Nat.le_of_ble_eq_true rfl) rfl (by decide +kernel) rfl fun x192 => ?_
                                                    refine z_aload_n (j := 2) (q := 898) (by decide +kernel) rfl 2 rfl ?_
                                                    refine z_callVI (As := []) (st := [.int x192]) (q := 901) (ct_X5_pays g l v2) zm_RL_113 (rc_X5_pays v2) rfl (by decide) (by decide) (Nat.le_of_ble_eq_true rfl) rfl (by decide +kernel) rfl fun x194 => ?_
                                                    refine z_icmp_eq (off := 558) (t := 1459) (q := 904) (by decide +kernel) (by decide) rfl ?_ ?_
                                                    · refine zsub [0, 1, 2, 3] rfl ?_
                                                      exact sj_L_law_1459 g l rec v0 v1 v2 s hrec
                                                    · refine zsub [] rfl ?_
                                                      exact sj_L_law_904 g l 
                                                  · skip
                                                    refine z_case (fun c203 => ?_) (fun c203 => ?_)
                                                    · refine z_tabIn (v := 24) (off := 873) (t := 906) c203 (by decide +kernel : decode cL_law 33 = .ok (.tableswitch 1426 0 43 #[191, 224, 267, 300, 323, 386, 409, 442, 485, 508, 531, 554, 587, 620, 653, 686, 709, 722, 745, 778, 791, 814, 837, 860, 873, 896, 919, 952, 985, 1028, 1081, 1124, 1147, 1170, 1203, 1246, 1269, 1312, 1325, 1339, 1353, 1376, 1389, 1412], 191)) (by decide) (by decide) (by decide) (by decide) ?_
                                                      refine z_aload_n (j := 1) (q := 907) (by decide +kernel) rfl 1 rfl ?_
                                                      refine z_aload_n (j := 0) (q := 908) (by decide +kernel) rfl 0 rfl ?_
                                                      refine z_iload_n (j := 3) (q := 909) (by decide +kernel) rfl 3 rfl ?_
                                                      refine z_iconst (n := 1) (v := 1) (q := 910) (by decide +kernel) rfl (by decide) ?_
                                                      refine z_iadd (q := 911) (by decide +kernel) rfl ?_
                                                      refine z_iald (q := 912) (Or.inl ⟨rfl, rfl⟩) (by decide +kernel) rfl fun x197 => ?_
                                                      refine z_callVI (As := [.int x197]) (st := []) (q := 915) (ct_X4_ranks g l v1 x197) zm_RL_114 (rc_X4_ranks v1 x197) rfl (by decide) (by decide) (Nat.le_of_ble_eq_true rfl) rfl (by decide +kernel) rfl fun x198 => ?_
                                                      refine z_aload_n (j := 2) (q := 916) (by decide +kernel) rfl 2 rfl ?_
                                                      refine z_aload_n (j := 0) (q := 917) (by decide +kernel) rfl 0 rfl ?_
                                                      refine z_iload_n (j := 3) (q := 918) (by decide +kernel) rfl 3 rfl ?_
                                                      refine z_iconst (n := 1) (v := 1) (q := 919) (by decide +kernel) rfl (by decide) ?_
                                                      refine z_iadd (q := 920) (by decide +kernel) rfl ?_
                                                      refine z_iald (q := 921) (Or.inl ⟨rfl, rfl⟩) (by decide +kernel) rfl fun x200 => ?_
                                                      refine z_callVI (As := [.int x200]) (st := [.int x198]) (q := 924) (ct_X5_ranks g l v2 x200) zm_RL_117 (rc_X5_ranks v2 x200) rfl (by decide) (by decide) (Nat.le_of_ble_eq_true rfl) rfl (by decide +kernel) rfl fun x201 => ?_
                                                      refine z_icmp_eq (off := 535) (t := 1459) (q := 927) (by decide +kernel) (by decide) rfl ?_ ?_
                                                      · refine zsub [0, 1, 2, 3] rfl ?_
                                                        exact sj_L_law_1459 g l rec v0 v1 v2 s hrec
                                                      · refine zsub [] rfl ?_
                                                        exact sj_L_law_927 g l 
                                                    · skip
                                                      refine z_case (fun c210 => ?_) (fun c210 => ?_)
                                                      · refine z_tabIn (v := 25) (off := 896) (t := 929) c210 (by decide +kernel : decode cL_law 33 = .ok (.tableswitch 1426 0 43 #[191, 224, 267, 300, 323, 386, 409, 442, 485, 508, 531, 554, 587, 620, 653, 686, 709, 722, 745, 778, 791, 814, 837, 860, 873, 896, 919, 952, 985, 1028, 1081, 1124, 1147, 1170, 1203, 1246, 1269, 1312, 1325, 1339, 1353, 1376, 1389, 1412], 191)) (by decide) (by decide) (by decide) (by decide) ?_
                                                        refine z_aload_n (j := 1) (q := 930) (by decide +kernel) rfl 1 rfl ?_
                                                        refine z_aload_n (j := 0) (q := 931) (by decide +kernel) rfl 0 rfl ?_
                                                        refine z_iload_n (j := 3) (q := 932) (by decide +kernel) rfl 3 rfl ?_
                                                        refine z_iconst (n := 1) (v := 1) (q := 933) (by decide +kernel) rfl (by decide) ?_
                                                        refine z_iadd (q := 934) (by decide +kernel) rfl ?_
                                                        refine z_iald (q := 935) (Or.inl ⟨rfl, rfl⟩) (by decide +kernel) rfl fun x204 => ?_
                                                        refine z_callVI (As := [.int x204]) (st := []) (q := 938) (ct_X4_laws g l v1 x204) zm_RL_118 (rc_X4_laws v1 x204) rfl (by decide) (by decide) (Nat.le_of_ble_eq_true rfl) rfl (by decide +kernel) rfl fun x205 => ?_
                                                        refine z_aload_n (j := 2) (q := 939) (by decide +kernel) rfl 2 rfl ?_
                                                        refine z_aload_n (j := 0) (q := 940) (by decide +kernel) rfl 0 rfl ?_
                                                        refine z_iload_n (j := 3) (q := 941) (by decide +kernel) rfl 3 rfl ?_
                                                        refine z_iconst (n := 1) (v := 1) (q := 942) (by decide +kernel) rfl (by decide) ?_
                                                        refine z_iadd (q := 943) (by decide +kernel) rfl ?_
                                                        refine z_iald (q := 944) (Or.inl ⟨rfl, rfl⟩) (by decide +kernel) rfl fun x207 => ?_
                                                        refine z_callVI (As := [.int x207]) (st := [.int x205]) (q := 947) (ct_X5_laws g l v2 x207) zm_RL_121 (rc_X5_laws v2 x207) rfl (by decide) (by decide) (Nat.le_of_ble_eq_true rfl) rfl (by decide +kernel) rfl fun x208 => ?_
                                                        refine z_icmp_eq (off := 512) (t := 1459) (q := 950) (by decide +kernel) (by decide) rfl ?_ ?_
                                                        · refine zsub [0, 1, 2, 3] rfl ?_
                                                          exact sj_L_law_1459 g l rec v0 v1 v2 s hrec
                                                        · refine zsub [] rfl ?_
                                                          exact sj_L_law_950 g l 
                                                      · skip
                                                        refine z_case (fun c219 => ?_) (fun c219 => ?_)
                                                        · refine z_tabIn (v := 26) (off := 919) (t := 952) c219 (by decide +kernel : decode cL_law 33 = .ok (.tableswitch 1426 0 43 #[191, 224, 267, 300, 323, 386, 409, 442, 485, 508, 531, 554, 587, 620, 653, 686, 709, 722, 745, 778, 791, 814, 837, 860, 873, 896, 919, 952, 985, 1028, 1081, 1124, 1147, 1170, 1203, 1246, 1269, 1312, 1325, 1339, 1353, 1376, 1389, 1412], 191)) (by decide) (by decide) (by decide) (by decide) ?_
                                                          refine z_aload_n (j := 1) (q := 953) (by decide +kernel) rfl 1 rfl ?_
                                                          refine z_aload_n (j := 0) (q := 954) (by decide +kernel) rfl 0 rfl ?_
                                                          refine z_iload_n (j := 3) (q := 955) (by decide +kernel) rfl 3 rfl ?_
                                                          refine z_iconst (n := 1) (v := 1) (q := 956) (by decide +kernel) rfl (by decide) ?_
                                                          refine z_iadd (q := 957) (by decide +kernel) rfl ?_
                                                          refine z_iald (q := 958) (Or.inl ⟨rfl, rfl⟩) (by decide +kernel) rfl fun x211 => ?_
                                                          refine z_aload_n (j := 0) (q := 959) (by decide +kernel) rfl 0 rfl ?_
                                                          refine z_iload_n (j := 3) (q := 960) (by decide +kernel) rfl 3 rfl ?_
                                                          refine z_iconst (n := 2) (v := 2) (q := 961) (by decide +kernel) rfl (by decide) ?_
                                                          refine z_iadd (q := 962) (by decide +kernel) rfl ?_
                                                          refine z_iald (q := 963) (Or.inl ⟨rfl, rfl⟩) (by decide +kernel) rfl fun x212 => ?_
                                                          refine z_callVI (As := [.int x211, .int x212]) (st := []) (q := 966) (ct_X4_best g l v1 x211 x212) zm_RL_122 (rc_X4_best v1 x211 x212) rfl (by decide) (by decide) (Nat.le_of_ble_eq_true rfl) rfl (by decide +kernel) rfl fun x213 => ?_
                                                          refine z_aload_n (j := 2) (q := 967) (by decide +kernel) rfl 2 rfl ?_
                                                          refine z_aload_n (j := 0) (q := 968) (by decide +kernel) rfl 0 rfl ?_
                                                          refine z_iload_n (j := 3) (q := 969) (by decide +kernel) rfl 3 rfl ?_
                                                          refine z_iconst (n := 1) (v := 1) (q := 970) (by decide +kernel) rfl (by decide) ?_
                                                          refine z_iadd (q := 971) (by decide +kernel) rfl ?_
                                                          refine z_iald (q := 972) (Or.inl ⟨rfl, rfl⟩) (by decide +kernel) rfl fun x215 => ?_
                                                          refine z_aload_n (j := 0) (q := 973) (by decide +kernel) rfl 0 rfl ?_
                                                          refine z_iload_n (j := 3) (q := 974) (by decide +kernel) rfl 3 rfl ?_
                                                          refine z_iconst (n := 2) (v := 2) (q := 975) (by decide +kernel) rfl (by decide) ?_
                                                          refine z_iadd (q := 976) (by decide +kernel) rfl ?_
                                                          refine z_iald (q := 977) (Or.inl ⟨rfl, rfl⟩) (by decide +kernel) rfl fun x216 => ?_
                                                          refine z_callVI (As := [.int x215, .int x216]) (st := [.int x213]) (q := 980) (ct_X5_best g l v2 x215 x216) zm_RL_125 (rc_X5_best v2 x215 x216) rfl (by decide) (by decide) (Nat.le_of_ble_eq_true rfl) rfl (by decide +kernel) rfl fun x217 => ?_
                                                          refine z_icmp_eq (off := 479) (t := 1459) (q := 983) (by decide +kernel) (by decide) rfl ?_ ?_
                                                          · refine zsub [0, 1, 2, 3] rfl ?_
                                                            exact sj_L_law_1459 g l rec v0 v1 v2 s hrec
                                                          · refine zsub [] rfl ?_
                                                            exact sj_L_law_983 g l 
                                                        · skip
                                                          refine z_case (fun c228 => ?_) (fun c228 => ?_)
                                                          · refine z_tabIn (v := 27) (off := 952) (t := 985) c228 (by decide +kernel : decode cL_law 33 = .ok (.tableswitch 1426 0 43 #[191, 224, 267, 300, 323, 386, 409, 442, 485, 508, 531, 554, 587, 620, 653, 686, 709, 722, 745, 778, 791, 814, 837, 860, 873, 896, 919, 952, 985, 1028, 1081, 1124, 1147, 1170, 1203, 1246, 1269, 1312, 1325, 1339, 1353, 1376, 1389, 1412], 191)) (by decide) (by decide) (by decide) (by decide) ?_
                                                            refine z_aload_n (j := 1) (q := 986) (by decide +kernel) rfl 1 rfl ?_
                                                            refine z_aload_n (j := 0) (q := 987) (by decide +kernel) rfl 0 rfl ?_
                                                            refine z_iload_n (j := 3) (q := 988) (by decide +kernel) rfl 3 rfl ?_
                                                            refine z_iconst (n := 1) (v := 1) (q := 989) (by decide +kernel) rfl (by decide) ?_
                                                            refine z_iadd (q := 990) (by decide +kernel) rfl ?_
                                                            refine z_iald (q := 991) (Or.inl ⟨rfl, rfl⟩) (by decide +kernel) rfl fun x220 => ?_
                                                            refine z_aload_n (j := 0) (q := 992) (by decide +kernel) rfl 0 rfl ?_
                                                            refine z_iload_n (j := 3) (q := 993) (by decide +kernel) rfl 3 rfl ?_
                                                            refine z_iconst (n := 2) (v := 2) (q := 994) (by decide +kernel) rfl (by decide) ?_
                                                            refine z_iadd (q := 995) (by decide +kernel) rfl ?_
                                                            refine z_iald (q := 996) (Or.inl ⟨rfl, rfl⟩) (by decide +kernel) rfl fun x221 => ?_
                                                            refine z_callVI (As := [.int x220, .int x221]) (st := []) (q := 999) (ct_X4_free g l v1 x220 x221) zm_RL_126 (rc_X4_free v1 x220 x221) rfl (by decide) (by decide) (Nat.le_of_ble_eq_true rfl) rfl (by decide +kernel) rfl fun x222 => ?_
                                                            refine z_aload_n (j := 2) (q := 1000) (by decide +kernel) rfl 2 rfl ?_
                                                            refine z_aload_n (j := 0) (q := 1001) (by decide +kernel) rfl 0 rfl ?_
                                                            refine z_iload_n (j := 3) (q := 1002) (by decide +kernel) rfl 3 rfl ?_
                                                            refine z_iconst (n := 1) (v := 1) (q := 1003) (by decide +kernel) rfl (by decide) ?_
                                                            refine z_iadd (q := 1004) (by decide +kernel) rfl ?_
                                                            refine z_iald (q := 1005) (Or.inl ⟨rfl, rfl⟩) (by decide +kernel) rfl fun x224 => ?_
                                                            refine z_aload_n (j := 0) (q := 1006) (by decide +kernel) rfl 0 rfl ?_
                                                            refine z_iload_n (j := 3) (q := 1007) (by decide +kernel) rfl 3 rfl ?_
                                                            refine z_iconst (n := 2) (v := 2) (q := 1008) (by decide +kernel) rfl (by decide) ?_
                                                            refine z_iadd (q := 1009) (by decide +kernel) rfl ?_
                                                            refine z_iald (q := 1010) (Or.inl ⟨rfl, rfl⟩) (by decide +kernel) rfl fun x225 => ?_
                                                            refine z_callVI (As := [.int x224, .int x225]) (st := [.int x222]) (q := 1013) (ct_X5_free g l v2 x224 x225) zm_RL_129 (rc_X5_free v2 x224 x225) rfl (by decide) (by decide) (Nat.le_of_ble_eq_true rfl) rfl (by decide +kernel) rfl fun x226 => ?_
                                                            refine z_icmp_eq (off := 446) (t := 1459) (q := 1016) (by decide +kernel) (by decide) rfl ?_ ?_
                                                            · refine zsub [0, 1, 2, 3] rfl ?_
                                                              exact sj_L_law_1459 g l rec v0 v1 v2 s hrec
                                                            · refine zsub [] rfl ?_
                                                              exact sj_L_law_1016 g l 
                                                          · skip
                                                            refine z_case (fun c239 => ?_) (fun c239 => ?_)
                                                            · refine z_tabIn (v := 28) (off := 985) (t := 1018) c239 (by decide +kernel : decode cL_law 33 = .ok (.tableswitch 1426 0 43 #[191, 224, 267, 300, 323, 386, 409, 442, 485, 508, 531, 554, 587, 620, 653, 686, 709, 722, 745, 778, 791, 814, 837, 860, 873, 896, 919, 952, 985, 1028, 1081, 1124, 1147, 1170, 1203, 1246, 1269, 1312, 1325, 1339, 1353, 1376, 1389, 1412], 191)) (by decide) (by decide) (by decide) (by decide) ?_
                                                              refine z_aload_n (j := 1) (q := 1019) (by decide +kernel) rfl 1 rfl ?_
                                                              refine z_aload_n (j := 0) (q := 1020) (by decide +kernel) rfl 0 rfl ?_
                                                              refine z_iload_n (j := 3) (q := 1021) (by decide +kernel) rfl 3 rfl ?_
                                                              refine z_iconst (n := 1) (v := 1) (q := 1022) (by decide +kernel) rfl (by decide) ?_
                                                              refine z_iadd (q := 1023) (by decide +kernel) rfl ?_
                                                              refine z_iald (q := 1024) (Or.inl ⟨rfl, rfl⟩) (by decide +kernel) rfl fun x229 => ?_
                                                              refine z_aload_n (j := 0) (q := 1025) (by decide +kernel) rfl 0 rfl ?_
                                                              refine z_iload_n (j := 3) (q := 1026) (by decide +kernel) rfl 3 rfl ?_
                                                              refine z_iconst (n := 2) (v := 2) (q := 1027) (by decide +kernel) rfl (by decide) ?_
                                                              refine z_iadd (q := 1028) (by decide +kernel) rfl ?_
                                                              refine z_iald (q := 1029) (Or.inl ⟨rfl, rfl⟩) (by decide +kernel) rfl fun x230 => ?_
                                                              refine z_aload_n (j := 0) (q := 1030) (by decide +kernel) rfl 0 rfl ?_
                                                              refine z_iload_n (j := 3) (q := 1031) (by decide +kernel) rfl 3 rfl ?_
                                                              refine z_iconst (n := 3) (v := 3) (q := 1032) (by decide +kernel) rfl (by decide) ?_
                                                              refine z_iadd (q := 1033) (by decide +kernel) rfl ?_
                                                              refine z_iald (q := 1034) (Or.inl ⟨rfl, rfl⟩) (by decide +kernel) rfl fun x231 => ?_
                                                              refine z_callVI (As := [.int x229, .int x230, .int x231]) (st := []) (q := 1037) (ct_X4_duel g l v1 x229 x230 x231) zm_RL_130 (rc_X4_duel v1 x229 x230 x231) rfl (by decide) (by decide) (Nat.le_of_ble_eq_true rfl) rfl (by decide +kernel) rfl fun x232 => ?_
                                                              refine z_aload_n (j := 2) (q := 1038) (by decide +kernel) rfl 2 rfl ?_
                                                              refine z_aload_n (j := 0) (q := 1039) (by decide +kernel) rfl 0 rfl ?_
                                                              refine z_iload_n (j := 3) (q := 1040) (by decide +kernel) rfl 3 rfl ?_
                                                              refine z_iconst (n := 1) (v := 1) (q := 1041) (by decide +kernel) rfl (by decide) ?_
                                                              refine z_iadd (q := 1042) (by decide +kernel) rfl ?_
                                                              refine z_iald (q := 1043) (Or.inl ⟨rfl, rfl⟩) (by decide +kernel) rfl fun x234 => ?_
                                                              refine z_aload_n (j := 0) (q := 1044) (by decide +kernel) rfl 0 rfl ?_
                                                              refine z_iload_n (j := 3) (q := 1045) (by decide +kernel) rfl 3 rfl ?_
                                                              refine z_iconst (n := 2) (v := 2) (q := 1046) (by decide +kernel) rfl (by decide) ?_
                                                              refine z_iadd (q := 1047) (by decide +kernel) rfl ?_
                                                              refine z_iald (q := 1048) (Or.inl ⟨rfl, rfl⟩) (by decide +kernel) rfl fun x235 => ?_
                                                              refine z_aload_n (j := 0) (q := 1049) (by decide +kernel) rfl 0 rfl ?_
                                                              refine z_iload_n (j := 3) (q := 1050) (by decide +kernel) rfl 3 rfl ?_
                                                              refine z_iconst (n := 3) (v := 3) (q := 1051) (by decide +kernel) rfl (by decide) ?_
                                                              refine z_iadd (q := 1052) (by decide +kernel) rfl ?_
                                                              refine z_iald (q := 1053) (Or.inl ⟨rfl, rfl⟩) (by decide +kernel) rfl fun x236 => ?_
                                                              refine z_callVI (As := [.int x234, .int x235, .int x236]) (st := [.int x232]) (q := 1056) (ct_X5_duel g l v2 x234 x235 x236) zm_RL_133 (rc_X5_duel v2 x234 x235 x236) rfl (by decide) (by decide) (Nat.le_of_ble_eq_true rfl) rfl (by decide +kernel) rfl fun x237 => ?_
                                                              refine z_icmp_eq (off := 403) (t := 1459) (q := 1059) (by decide +kernel) (by decide) rfl ?_ ?_
                                                              · refine zsub [0, 1, 2, 3] rfl ?_
                                                                exact sj_L_law_1459 g l rec v0 v1 v2 s hrec
                                                              · refine zsub [] rfl ?_
                                                                exact sj_L_law_1059 g l 
                                                            · skip
                                                              refine z_case (fun c252 => ?_) (fun c252 => ?_)
                                                              · refine z_tabIn (v := 29) (off := 1028) (t := 1061) c252 (by decide +kernel : decode cL_law 33 = .ok (.tableswitch 1426 0 43 #[191, 224, 267, 300, 323, 386, 409, 442, 485, 508, 531, 554, 587, 620, 653, 686, 709, 722, 745, 778, 791, 814, 837, 860, 873, 896, 919, 952, 985, 1028, 1081, 1124, 1147, 1170, 1203, 1246, 1269, 1312, 1325, 1339, 1353, 1376, 1389, 1412], 191)) (by decide) (by decide) (by decide) (by decide) ?_
                                                                refine z_aload_n (j := 1) (q := 1062) (by decide +kernel) rfl 1 rfl ?_
                                                                refine z_aload_n (j := 0) (q := 1063) (by decide +kernel) rfl 0 rfl ?_
                                                                refine z_iload_n (j := 3) (q := 1064) (by decide +kernel) rfl 3 rfl ?_
                                                                refine z_iconst (n := 1) (v := 1) (q := 1065) (by decide +kernel) rfl (by decide) ?_
                                                                refine z_iadd (q := 1066) (by decide +kernel) rfl ?_
                                                                refine z_iald (q := 1067) (Or.inl ⟨rfl, rfl⟩) (by decide +kernel) rfl fun x240 => ?_
                                                                refine z_aload_n (j := 0) (q := 1068) (by decide +kernel) rfl 0 rfl ?_
                                                                refine z_iload_n (j := 3) (q := 1069) (by decide +kernel) rfl 3 rfl ?_
                                                                refine z_iconst (n := 2) (v := 2) (q := 1070) (by decide +kernel) rfl (by decide) ?_
                                                                refine z_iadd (q := 1071) (by decide +kernel) rfl ?_
                                                                refine z_iald (q := 1072) (Or.inl ⟨rfl, rfl⟩) (by decide +kernel) rfl fun x241 => ?_
                                                                refine z_aload_n (j := 0) (q := 1073) (by decide +kernel) rfl 0 rfl ?_
                                                                refine z_iload_n (j := 3) (q := 1074) (by decide +kernel) rfl 3 rfl ?_
                                                                refine z_iconst (n := 3) (v := 3) (q := 1075) (by decide +kernel) rfl (by decide) ?_
                                                                refine z_iadd (q := 1076) (by decide +kernel) rfl ?_
                                                                refine z_iald (q := 1077) (Or.inl ⟨rfl, rfl⟩) (by decide +kernel) rfl fun x242 => ?_
                                                                refine z_aload_n (j := 0) (q := 1078) (by decide +kernel) rfl 0 rfl ?_
                                                                refine z_iload_n (j := 3) (q := 1079) (by decide +kernel) rfl 3 rfl ?_
                                                                refine z_iconst (n := 4) (v := 4) (q := 1080) (by decide +kernel) rfl (by decide) ?_
                                                                refine z_iadd (q := 1081) (by decide +kernel) rfl ?_
                                                                refine z_iald (q := 1082) (Or.inl ⟨rfl, rfl⟩) (by decide +kernel) rfl fun x243 => ?_
                                                                refine z_callVI (As := [.int x240, .int x241, .int x242, .int x243]) (st := []) (q := 1085) (ct_X4_pact g l v1 x240 x241 x242 x243) zm_RL_134 (rc_X4_pact v1 x240 x241 x242 x243) rfl (by decide) (by decide) (Nat.le_of_ble_eq_true rfl) rfl (by decide +kernel) rfl fun x244 => ?_
                                                                refine z_aload_n (j := 2) (q := 1086) (by decide +kernel) rfl 2 rfl ?_
                                                                refine z_aload_n (j := 0) (q := 1087) (by decide +kernel) rfl 0 rfl ?_
                                                                refine z_iload_n (j := 3) (q := 1088) (by decide +kernel) rfl 3 rfl ?_
                                                                refine z_iconst (n := 1) (v := 1) (q := 1089) (by decide +kernel) rfl (by decide) ?_
                                                                refine z_iadd (q := 1090) (by decide +kernel) rfl ?_
                                                                refine z_iald (q := 1091) (Or.inl ⟨rfl, rfl⟩) (by decide +kernel) rfl fun x246 => ?_
                                                                refine z_aload_n (j := 0) (q := 1092) (by decide +kernel) rfl 0 rfl ?_
                                                                refine z_iload_n (j := 3) (q := 1093) (by decide +kernel) rfl 3 rfl ?_
                                                                refine z_iconst (n := 2) (v := 2) (q := 1094) (by decide +kernel) rfl (by decide) ?_
                                                                refine z_iadd (q := 1095) (by decide +kernel) rfl ?_
                                                                refine z_iald (q := 1096) (Or.inl ⟨rfl, rfl⟩) (by decide +kernel) rfl fun x247 => ?_
                                                                refine z_aload_n (j := 0) (q := 1097) (by decide +kernel) rfl 0 rfl ?_
                                                                refine z_iload_n (j := 3) (q := 1098) (by decide +kernel) rfl 3 rfl ?_
                                                                refine z_iconst (n := 3) (v := 3) (q := 1099) (by decide +kernel) rfl (by decide) ?_
                                                                refine z_iadd (q := 1100) (by decide +kernel) rfl ?_
                                                                refine z_iald (q := 1101) (Or.inl ⟨rfl, rfl⟩) (by decide +kernel) rfl fun x248 => ?_
                                                                refine z_aload_n (j := 0) (q := 1102) (by decide +kernel) rfl 0 rfl ?_
                                                                refine z_iload_n (j := 3) (q := 1103) (by decide +kernel) rfl 3 rfl ?_
                                                                refine z_iconst (n := 4) (v := 4) (q := 1104) (by decide +kernel) rfl (by decide) ?_
                                                                refine z_iadd (q := 1105) (by decide +kernel) rfl ?_
                                                                refine z_iald (q := 1106) (Or.inl ⟨rfl, rfl⟩) (by decide +kernel) rfl fun x249 => ?_
                                                                refine z_callVI (As := [.int x246, .int x247, .int x248, .int x249]) (st := [.int x244]) (q := 1109) (ct_X5_pact g l v2 x246 x247 x248 x249) zm_RL_138 (rc_X5_pact v2 x246 x247 x248 x249) rfl (by decide) (by decide) (Nat.le_of_ble_eq_true rfl) rfl (by decide +kernel) rfl fun x250 => ?_
                                                                refine z_icmp_eq (off := 350) (t := 1459) (q := 1112) (by decide +kernel) (by decide) rfl ?_ ?_
                                                                · refine zsub [0, 1, 2, 3] rfl ?_
                                                                  exact sj_L_law_1459 g l rec v0 v1 v2 s hrec
                                                                · refine zsub [] rfl ?_
                                                                  exact sj_L_law_1112 g l 
                                                              · skip
                                                                refine z_case (fun c263 => ?_) (fun c263 => ?_)
                                                                · refine z_tabIn (v := 30) (off := 1081) (t := 1114) c263 (by decide +kernel : decode cL_law 33 = .ok (.tableswitch 1426 0 43 #[191, 224, 267, 300, 323, 386, 409, 442, 485, 508, 531, 554, 587, 620, 653, 686, 709, 722, 745, 778, 791, 814, 837, 860, 873, 896, 919, 952, 985, 1028, 1081, 1124, 1147, 1170, 1203, 1246, 1269, 1312, 1325, 1339, 1353, 1376, 1389, 1412], 191)) (by decide) (by decide) (by decide) (by decide) ?_
                                                                  refine z_aload_n (j := 1) (q := 1115) (by decide +kernel) rfl 1 rfl ?_
                                                                  refine z_aload_n (j := 0) (q := 1116) (by decide +kernel) rfl 0 rfl ?_
                                                                  refine z_iload_n (j := 3) (q := 1117) (by decide +kernel) rfl 3 rfl ?_
                                                                  refine z_iconst (n := 1) (v := 1) (q := 1118) (by decide +kernel) rfl (by decide) ?_
                                                                  refine z_iadd (q := 1119) (by decide +kernel) rfl ?_
                                                                  refine z_iald (q := 1120) (Or.inl ⟨rfl, rfl⟩) (by decide +kernel) rfl fun x253 => ?_
                                                                  refine z_aload_n (j := 0) (q := 1121) (by decide +kernel) rfl 0 rfl ?_
                                                                  refine z_iload_n (j := 3) (q := 1122) (by decide +kernel) rfl 3 rfl ?_
                                                                  refine z_iconst (n := 2) (v := 2) (q := 1123) (by decide +kernel) rfl (by decide) ?_
                                                                  refine z_iadd (q := 1124) (by decide +kernel) rfl ?_
                                                                  refine z_iald (q := 1125) (Or.inl ⟨rfl, rfl⟩) (by decide +kernel) rfl fun x254 => ?_
                                                                  refine z_aload_n (j := 0) (q := 1126) (by decide +kernel) rfl 0 rfl ?_
                                                                  refine z_iload_n (j := 3) (q := 1127) (by decide +kernel) rfl 3 rfl ?_
                                                                  refine z_iconst (n := 3) (v := 3) (q := 1128) (by decide +kernel) rfl (by decide) ?_
                                                                  refine z_iadd (q := 1129) (by decide +kernel) rfl ?_
                                                                  refine z_iald (q := 1130) (Or.inl ⟨rfl, rfl⟩) (by decide +kernel) rfl fun x255 => ?_
                                                                  refine z_callVI (As := [.int x253, .int x254, .int x255]) (st := []) (q := 1133) (ct_X4_worth g l v1 x253 x254 x255) zm_RL_139 (rc_X4_worth v1 x253 x254 x255) rfl (by decide) (by decide) (Nat.le_of_ble_eq_true rfl) rfl (by decide +kernel) rfl fun x256 => ?_
                                                                  refine z_aload_n (j := 2) (q := 1134) (by decide +kernel) rfl 2 rfl ?_
                                                                  refine z_aload_n (j := 0) (q := 1135) (by decide +kernel) rfl 0 rfl ?_
                                                                  refine z_iload_n (j := 3) (q := 1136) (by decide +kernel) rfl 3 rfl ?_
                                                                  refine z_iconst (n := 1) (v := 1) (q := 1137) (by decide +kernel) rfl (by decide) ?_
                                                                  refine z_iadd (q := 1138) (by decide +kernel) rfl ?_
                                                                  refine z_iald (q := 1139) (Or.inl ⟨rfl, rfl⟩) (by decide +kernel) rfl fun x258 => ?_
                                                                  refine z_aload_n (j := 0) (q := 1140) (by decide +kernel) rfl 0 rfl ?_
                                                                  refine z_iload_n (j := 3) (q := 1141) (by decide +kernel) rfl 3 rfl ?_
                                                                  refine z_iconst (n := 2) (v := 2) (q := 1142) (by decide +kernel) rfl (by decide) ?_
                                                                  refine z_iadd (q := 1143) (by decide +kernel) rfl ?_
                                                                  refine z_iald (q := 1144) (Or.inl ⟨rfl, rfl⟩) (by decide +kernel) rfl fun x259 => ?_
                                                                  refine z_aload_n (j := 0) (q := 1145) (by decide +kernel) rfl 0 rfl ?_
                                                                  refine z_iload_n (j := 3) (q := 1146) (by decide +kernel) rfl 3 rfl ?_
                                                                  refine z_iconst (n := 3) (v := 3) (q := 1147) (by decide +kernel) rfl (by decide) ?_
                                                                  refine z_iadd (q := 1148) (by decide +kernel) rfl ?_
                                                                  refine z_iald (q := 1149) (Or.inl ⟨rfl, rfl⟩) (by decide +kernel) rfl fun x260 => ?_
                                                                  refine z_callVI (As := [.int x258, .int x259, .int x260]) (st := [.int x256]) (q := 1152) (ct_X5_worth g l v2 x258 x259 x260) zm_RL_142 (rc_X5_worth v2 x258 x259 x260) rfl (by decide) (by decide) (Nat.le_of_ble_eq_true rfl) rfl (by decide +kernel) rfl fun x261 => ?_
                                                                  refine z_icmp_eq (off := 307) (t := 1459) (q := 1155) (by decide +kernel) (by decide) rfl ?_ ?_
                                                                  · refine zsub [0, 1, 2, 3] rfl ?_
                                                                    exact sj_L_law_1459 g l rec v0 v1 v2 s hrec
                                                                  · refine zsub [] rfl ?_
                                                                    exact sj_L_law_1155 g l 
                                                                · skip
                                                                  refine z_case (fun c270 => ?_) (fun c270 => ?_)
                                                                  · refine z_tabIn (v := 31) (off := 1124) (t := 1157) c270 (by decide +kernel : decode cL_law 33 = .ok (.tableswitch 1426 0 43 #[191, 224, 267, 300, 323, 386, 409, 442, 485, 508, 531, 554, 587, 620, 653, 686, 709, 722, 745, 778, 791, 814, 837, 860, 873, 896, 919, 952, 985, 1028, 1081, 1124, 1147, 1170, 1203, 1246, 1269, 1312, 1325, 1339, 1353, 1376, 1389, 1412], 191)) (by decide) (by decide) (by decide) (by decide) ?_
                                                                    refine z_aload_n (j := 1) (q := 1158) (by decide +kernel) rfl 1 rfl ?_
                                                                    refine z_aload_n (j := 0) (q := 1159) (by decide +kernel) rfl 0 rfl ?_
                                                                    refine z_iload_n (j := 3) (q := 1160) (by decide +kernel) rfl 3 rfl ?_
                                                                    refine z_iconst (n := 1) (v := 1) (q := 1161) (by decide +kernel) rfl (by decide) ?_
                                                                    refine z_iadd (q := 1162) (by decide +kernel) rfl ?_
                                                                    refine z_iald (q := 1163) (Or.inl ⟨rfl, rfl⟩) (by decide +kernel) rfl fun x264 => ?_
                                                                    refine z_callVI (As := [.int x264]) (st := []) (q := 1166) (ct_X4_start g l v1 x264) zm_RL_143 (rc_X4_start v1 x264) rfl (by decide) (by decide) (Nat.le_of_ble_eq_true rfl) rfl (by decide +kernel) rfl fun x265 => ?_
                                                                    refine z_aload_n (j := 2) (q := 1167) (by decide +kernel) rfl 2 rfl ?_
                                                                    refine z_aload_n (j := 0) (q := 1168) (by decide +kernel) rfl 0 rfl ?_
                                                                    refine z_iload_n (j := 3) (q := 1169) (by decide +kernel) rfl 3 rfl ?_
                                                                    refine z_iconst (n := 1) (v := 1) (q := 1170) (by decide +kernel) rfl (by decide) ?_
                                                                    refine z_iadd (q := 1171) (by decide +kernel) rfl ?_
                                                                    refine z_iald (q := 1172) (Or.inl ⟨rfl, rfl⟩) (by decide +kernel) rfl fun x267 => ?_
                                                                    refine z_callVI (As := [.int x267]) (st := [.int x265]) (q := 1175) (ct_X5_start g l v2 x267) zm_RL_146 (rc_X5_start v2 x267) rfl (by decide) (by decide) (Nat.le_of_ble_eq_true rfl) rfl (by decide +kernel) rfl fun x268 => ?_
                                                                    refine z_icmp_eq (off := 284) (t := 1459) (q := 1178) (by decide +kernel) (by decide) rfl ?_ ?_
                                                                    · refine zsub [0, 1, 2, 3] rfl ?_
                                                                      exact sj_L_law_1459 g l rec v0 v1 v2 s hrec
                                                                    · refine zsub [] rfl ?_
                                                                      exact sj_L_law_1178 g l 
                                                                  · skip
                                                                    refine z_case (fun c277 => ?_) (fun c277 => ?_)
                                                                    · refine z_tabIn (v := 32) (off := 1147) (t := 1180) c277 (by decide +kernel : decode cL_law 33 = .ok (.tableswitch 1426 0 43 #[191, 224, 267, 300, 323, 386, 409, 442, 485, 508, 531, 554, 587, 620, 653, 686, 709, 722, 745, 778, 791, 814, 837, 860, 873, 896, 919, 952, 985, 1028, 1081, 1124, 1147, 1170, 1203, 1246, 1269, 1312, 1325, 1339, 1353, 1376, 1389, 1412], 191)) (by decide) (by decide) (by decide) (by decide) ?_
                                                                      refine z_aload_n (j := 1) (q := 1181) (by decide +kernel) rfl 1 rfl ?_
                                                                      refine z_aload_n (j := 0) (q := 1182) (by decide +kernel) rfl 0 rfl ?_
                                                                      refine z_iload_n (j := 3) (q := 1183) (by decide +kernel) rfl 3 rfl ?_
                                                                      refine z_iconst (n := 1) (v := 1) (q := 1184) (by decide +kernel) rfl (by decide) ?_
                                                                      refine z_iadd (q := 1185) (by decide +kernel) rfl ?_
                                                                      refine z_iald (q := 1186) (Or.inl ⟨rfl, rfl⟩) (by decide +kernel) rfl fun x271 => ?_
                                                                      refine z_callVI (As := [.int x271]) (st := []) (q := 1189) (ct_X4_fair g l v1 x271) zm_RL_147 (rc_X4_fair v1 x271) rfl (by decide) (by decide) (Nat.le_of_ble_eq_true rfl) rfl (by decide +kernel) rfl fun x272 => ?_
                                                                      refine z_aload_n (j := 2) (q := 1190) (by decide +kernel) rfl 2 rfl ?_
                                                                      refine z_aload_n (j := 0) (q := 1191) (by decide +kernel) rfl 0 rfl ?_
                                                                      refine z_iload_n (j := 3) (q := 1192) (by decide +kernel) rfl 3 rfl ?_
                                                                      refine z_iconst (n := 1) (v := 1) (q := 1193) (by decide +kernel) rfl (by decide) ?_
                                                                      refine z_iadd (q := 1194) (by decide +kernel) rfl ?_
                                                                      refine z_iald (q := 1195) (Or.inl ⟨rfl, rfl⟩) (by decide +kernel) rfl fun x274 => ?_
                                                                      refine z_callVI (As := [.int x274]) (st := [.int x272]) (q := 1198) (ct_X5_fair g l v2 x274) zm_RL_150 (rc_X5_fair v2 x274) rfl (by decide) (by decide) (Nat.le_of_ble_eq_true rfl) rfl (by decide +kernel) rfl fun x275 => ?_
                                                                      refine z_icmp_eq (off := 261) (t := 1459) (q := 1201) (by decide +kernel) (by decide) rfl ?_ ?_
                                                                      · refine zsub [0, 1, 2, 3] rfl ?_
                                                                        exact sj_L_law_1459 g l rec v0 v1 v2 s hrec
                                                                      · refine zsub [] rfl ?_
                                                                        exact sj_L_law_1201 g l 
                                                                    · skip
                                                                      refine z_case (fun c286 => ?_) (fun c286 => ?_)
                                                                      · refine z_tabIn (v := 33) (off := 1170) (t := 1203) c286 (by decide +kernel : decode cL_law 33 = .ok (.tableswitch 1426 0 43 #[191, 224, 267, 300, 323, 386, 409, 442, 485, 508, 531, 554, 587, 620, 653, 686, 709, 722, 745, 778, 791, 814, 837, 860, 873, 896, 919, 952, 985, 1028, 1081, 1124, 1147, 1170, 1203, 1246, 1269, 1312, 1325, 1339, 1353, 1376, 1389, 1412], 191)) (by decide) (by decide) (by decide) (by decide) ?_
                                                                        refine z_aload_n (j := 1) (q := 1204) (by decide +kernel) rfl 1 rfl ?_
                                                                        refine z_aload_n (j := 0) (q := 1205) (by decide +kernel) rfl 0 rfl ?_
                                                                        refine z_iload_n (j := 3) (q := 1206) (by decide +kernel) rfl 3 rfl ?_
                                                                        refine z_iconst (n := 1) (v := 1) (q := 1207) (by decide +kernel) rfl (by decide) ?_
                                                                        refine z_iadd (q := 1208) (by decide +kernel) rfl ?_
                                                                        refine z_iald (q := 1209) (Or.inl ⟨rfl, rfl⟩) (by decide +kernel) rfl fun x278 => ?_
                                                                        refine z_aload_n (j := 0) (q := 1210) (by decide +kernel) rfl 0 rfl ?_
                                                                        refine z_iload_n (j := 3) (q := 1211) (by decide +kernel) rfl 3 rfl ?_
                                                                        refine z_iconst (n := 2) (v := 2) (q := 1212) (by decide +kernel) rfl (by decide) ?_
                                                                        refine z_iadd (q := 1213) (by decide +kernel) rfl ?_
                                                                        refine z_iald (q := 1214) (Or.inl ⟨rfl, rfl⟩) (by decide +kernel) rfl fun x279 => ?_
                                                                        refine z_callVI (As := [.int x278, .int x279]) (st := []) (q := 1217) (ct_X4_post g l v1 x278 x279) zm_RL_151 (rc_X4_post v1 x278 x279) rfl (by decide) (by decide) (Nat.le_of_ble_eq_true rfl) rfl (by decide +kernel) rfl fun x280 => ?_
                                                                        refine z_aload_n (j := 2) (q := 1218) (by decide +kernel) rfl 2 rfl ?_
                                                                        refine z_aload_n (j := 0) (q := 1219) (by decide +kernel) rfl 0 rfl ?_
                                                                        refine z_iload_n (j := 3) (q := 1220) (by decide +kernel) rfl 3 rfl ?_
                                                                        refine z_iconst (n := 1) (v := 1) (q := 1221) (by decide +kernel) rfl (by decide) ?_
                                                                        refine z_iadd (q := 1222) (by decide +kernel) rfl ?_
                                                                        refine z_iald (q := 1223) (Or.inl ⟨rfl, rfl⟩) (by decide +kernel) rfl fun x282 => ?_
                                                                        refine z_aload_n (j := 0) (q := 1224) (by decide +kernel) rfl 0 rfl ?_
                                                                        refine z_iload_n (j := 3) (q := 1225) (by decide +kernel) rfl 3 rfl ?_
                                                                        refine z_iconst (n := 2) (v := 2) (q := 1226) (by decide +kernel) rfl (by decide) ?_
                                                                        refine z_iadd (q := 1227) (by decide +kernel) rfl ?_
                                                                        refine z_iald (q := 1228) (Or.inl ⟨rfl, rfl⟩) (by decide +kernel) rfl fun x283 => ?_
                                                                        refine z_callVI (As := [.int x282, .int x283]) (st := [.int x280]) (q := 1231) (ct_X5_post g l v2 x282 x283) zm_RL_154 (rc_X5_post v2 x282 x283) rfl (by decide) (by decide) (Nat.le_of_ble_eq_true rfl) rfl (by decide +kernel) rfl fun x284 => ?_
                                                                        refine z_icmp_eq (off := 228) (t := 1459) (q := 1234) (by decide +kernel) (by decide) rfl ?_ ?_
                                                                        · refine zsub [0, 1, 2, 3] rfl ?_
                                                                          exact sj_L_law_1459 g l rec v0 v1 v2 s hrec
                                                                        · refine zsub [] rfl ?_
                                                                          exact sj_L_law_1234 g l 
                                                                      · skip
                                                                        refine z_case (fun c297 => ?_) (fun c297 => ?_)
                                                                        · refine z_tabIn (v := 34) (off := 1203) (t := 1236) c297 (by decide +kernel : decode cL_law 33 = .ok (.tableswitch 1426 0 43 #[191, 224, 267, 300, 323, 386, 409, 442, 485, 508, 531, 554, 587, 620, 653, 686, 709, 722, 745, 778, 791, 814, 837, 860, 873, 896, 919, 952, 985, 1028, 1081, 1124, 1147, 1170, 1203, 1246, 1269, 1312, 1325, 1339, 1353, 1376, 1389, 1412], 191)) (by decide) (by decide) (by decide) (by decide) ?_
                                                                          refine z_aload_n (j := 1) (q := 1237) (by decide +kernel) rfl 1 rfl ?_
                                                                          refine z_aload_n (j := 0) (q := 1238) (by decide +kernel) rfl 0 rfl ?_
                                                                          refine z_iload_n (j := 3) (q := 1239) (by decide +kernel) rfl 3 rfl ?_
                                                                          refine z_iconst (n := 1) (v := 1) (q := 1240) (by decide +kernel) rfl (by decide) ?_
                                                                          refine z_iadd (q := 1241) (by decide +kernel) rfl ?_
                                                                          refine z_iald (q := 1242) (Or.inl ⟨rfl, rfl⟩) (by decide +kernel) rfl fun x287 => ?_
                                                                          refine z_aload_n (j := 0) (q := 1243) (by decide +kernel) rfl 0 rfl ?_
                                                                          refine z_iload_n (j := 3) (q := 1244) (by decide +kernel) rfl 3 rfl ?_
                                                                          refine z_iconst (n := 2) (v := 2) (q := 1245) (by decide +kernel) rfl (by decide) ?_
                                                                          refine z_iadd (q := 1246) (by decide +kernel) rfl ?_
                                                                          refine z_iald (q := 1247) (Or.inl ⟨rfl, rfl⟩) (by decide +kernel) rfl fun x288 => ?_
                                                                          refine z_aload_n (j := 0) (q := 1248) (by decide +kernel) rfl 0 rfl ?_
                                                                          refine z_iload_n (j := 3) (q := 1249) (by decide +kernel) rfl 3 rfl ?_
                                                                          refine z_iconst (n := 3) (v := 3) (q := 1250) (by decide +kernel) rfl (by decide) ?_
                                                                          refine z_iadd (q := 1251) (by decide +kernel) rfl ?_
                                                                          refine z_iald (q := 1252) (Or.inl ⟨rfl, rfl⟩) (by decide +kernel) rfl fun x289 => ?_
                                                                          refine z_callVI (As := [.int x287, .int x288, .int x289]) (st := []) (q := 1255) (ct_X4_could g l v1 x287 x288 x289) zm_RL_155 (rc_X4_could v1 x287 x288 x289) rfl (by decide) (by decide) (Nat.le_of_ble_eq_true rfl) rfl (by decide +kernel) rfl fun x290 => ?_
                                                                          refine z_aload_n (j := 2) (q := 1256) (by decide +kernel) rfl 2 rfl ?_
                                                                          refine z_aload_n (j := 0) (q := 1257) (by decide +kernel) rfl 0 rfl ?_
                                                                          refine z_iload_n (j := 3) (q := 1258) (by decide +kernel) rfl 3 rfl ?_
                                                                          refine z_iconst (n := 1) (v := 1) (q := 1259) (by decide +kernel) rfl (by decide) ?_
                                                                          refine z_iadd (q := 1260) (by decide +kernel) rfl ?_
                                                                          refine z_iald (q := 1261) (Or.inl ⟨rfl, rfl⟩) (by decide +kernel) rfl fun x292 => ?_
                                                                          refine z_aload_n (j := 0) (q := 1262) (by decide +kernel) rfl 0 rfl ?_
                                                                          refine z_iload_n (j := 3) (q := 1263) (by decide +kernel) rfl 3 rfl ?_
                                                                          refine z_iconst (n := 2) (v := 2) (q := 1264) (by decide +kernel) rfl (by decide) ?_
                                                                          refine z_iadd (q := 1265) (by decide +kernel) rfl ?_
                                                                          refine z_iald (q := 1266) (Or.inl ⟨rfl, rfl⟩) (by decide +kernel) rfl fun x293 => ?_
                                                                          refine z_aload_n (j := 0) (q := 1267) (by decide +kernel) rfl 0 rfl ?_
                                                                          refine z_iload_n (j := 3) (q := 1268) (by decide +kernel) rfl 3 rfl ?_
                                                                          refine z_iconst (n := 3) (v := 3) (q := 1269) (by decide +kernel) rfl (by decide) ?_
                                                                          refine z_iadd (q := 1270) (by decide +kernel) rfl ?_
                                                                          refine z_iald (q := 1271) (Or.inl ⟨rfl, rfl⟩) (by decide +kernel) rfl fun x294 => ?_
                                                                          refine z_callVI (As := [.int x292, .int x293, .int x294]) (st := [.int x290]) (q := 1274) (ct_X5_could g l v2 x292 x293 x294) zm_RL_158 (rc_X5_could v2 x292 x293 x294) rfl (by decide) (by decide) (Nat.le_of_ble_eq_true rfl) rfl (by decide +kernel) rfl fun x295 => ?_
                                                                          refine z_icmp_eq (off := 185) (t := 1459) (q := 1277) (by decide +kernel) (by decide) rfl ?_ ?_
                                                                          · refine zsub [0, 1, 2, 3] rfl ?_
                                                                            exact sj_L_law_1459 g l rec v0 v1 v2 s hrec
                                                                          · refine zsub [] rfl ?_
                                                                            exact sj_L_law_1277 g l 
                                                                        · skip
                                                                          refine z_case (fun c304 => ?_) (fun c304 => ?_)
                                                                          · refine z_tabIn (v := 35) (off := 1246) (t := 1279) c304 (by decide +kernel : decode cL_law 33 = .ok (.tableswitch 1426 0 43 #[191, 224, 267, 300, 323, 386, 409, 442, 485, 508, 531, 554, 587, 620, 653, 686, 709, 722, 745, 778, 791, 814, 837, 860, 873, 896, 919, 952, 985, 1028, 1081, 1124, 1147, 1170, 1203, 1246, 1269, 1312, 1325, 1339, 1353, 1376, 1389, 1412], 191)) (by decide) (by decide) (by decide) (by decide) ?_
                                                                            refine z_aload_n (j := 1) (q := 1280) (by decide +kernel) rfl 1 rfl ?_
                                                                            refine z_aload_n (j := 0) (q := 1281) (by decide +kernel) rfl 0 rfl ?_
                                                                            refine z_iload_n (j := 3) (q := 1282) (by decide +kernel) rfl 3 rfl ?_
                                                                            refine z_iconst (n := 1) (v := 1) (q := 1283) (by decide +kernel) rfl (by decide) ?_
                                                                            refine z_iadd (q := 1284) (by decide +kernel) rfl ?_
                                                                            refine z_iald (q := 1285) (Or.inl ⟨rfl, rfl⟩) (by decide +kernel) rfl fun x298 => ?_
                                                                            refine z_callVI (As := [.int x298]) (st := []) (q := 1288) (ct_X4_odds g l v1 x298) zm_RL_159 (rc_X4_odds v1 x298) rfl (by decide) (by decide) (Nat.le_of_ble_eq_true rfl) rfl (by decide +kernel) rfl fun x299 => ?_
                                                                            refine z_aload_n (j := 2) (q := 1289) (by decide +kernel) rfl 2 rfl ?_
                                                                            refine z_aload_n (j := 0) (q := 1290) (by decide +kernel) rfl 0 rfl ?_
                                                                            refine z_iload_n (j := 3) (q := 1291) (by decide +kernel) rfl 3 rfl ?_
                                                                            refine z_iconst (n := 1) (v := 1) (q := 1292) (by decide +kernel) rfl (by decide) ?_
                                                                            refine z_iadd (q := 1293) (by decide +kernel) rfl ?_
                                                                            refine z_iald (q := 1294) (Or.inl ⟨rfl, rfl⟩) (by decide +kernel) rfl fun x301 => ?_
                                                                            refine z_callVI (As := [.int x301]) (st := [.int x299]) (q := 1297) (ct_X5_odds g l v2 x301) zm_RL_162 (rc_X5_odds v2 x301) rfl (by decide) (by decide) (Nat.le_of_ble_eq_true rfl) rfl (by decide +kernel) rfl fun x302 => ?_
                                                                            refine z_icmp_eq (off := 162) (t := 1459) (q := 1300) (by decide +kernel) (by decide) rfl ?_ ?_
                                                                            · refine zsub [0, 1, 2, 3] rfl ?_
                                                                              exact sj_L_law_1459 g l rec v0 v1 v2 s hrec
                                                                            · refine zsub [] rfl ?_
                                                                              exact sj_L_law_1300 g l 
                                                                          · skip
                                                                            refine z_case (fun c315 => ?_) (fun c315 => ?_)
                                                                            · refine z_tabIn (v := 36) (off := 1269) (t := 1302) c315 (by decide +kernel : decode cL_law 33 = .ok (.tableswitch 1426 0 43 #[191, 224, 267, 300, 323, 386, 409, 442, 485, 508, 531, 554, 587, 620, 653, 686, 709, 722, 745, 778, 791, 814, 837, 860, 873, 896, 919, 952, 985, 1028, 1081, 1124, 1147, 1170, 1203, 1246, 1269, 1312, 1325, 1339, 1353, 1376, 1389, 1412], 191)) (by decide) (by decide) (by decide) (by decide) ?_
                                                                              refine z_aload_n (j := 1) (q := 1303) (by decide +kernel) rfl 1 rfl ?_
                                                                              refine z_aload_n (j := 0) (q := 1304) (by decide +kernel) rfl 0 rfl ?_
                                                                              refine z_iload_n (j := 3) (q := 1305) (by decide +kernel) rfl 3 rfl ?_
                                                                              refine z_iconst (n := 1) (v := 1) (q := 1306) (by decide +kernel) rfl (by decide) ?_
                                                                              refine z_iadd (q := 1307) (by decide +kernel) rfl ?_
                                                                              refine z_iald (q := 1308) (Or.inl ⟨rfl, rfl⟩) (by decide +kernel) rfl fun x305 => ?_
                                                                              refine z_aload_n (j := 0) (q := 1309) (by decide +kernel) rfl 0 rfl ?_
                                                                              refine z_iload_n (j := 3) (q := 1310) (by decide +kernel) rfl 3 rfl ?_
                                                                              refine z_iconst (n := 2) (v := 2) (q := 1311) (by decide +kernel) rfl (by decide) ?_
                                                                              refine z_iadd (q := 1312) (by decide +kernel) rfl ?_
                                                                              refine z_iald (q := 1313) (Or.inl ⟨rfl, rfl⟩) (by decide +kernel) rfl fun x306 => ?_
                                                                              refine z_aload_n (j := 0) (q := 1314) (by decide +kernel) rfl 0 rfl ?_
                                                                              refine z_iload_n (j := 3) (q := 1315) (by decide +kernel) rfl 3 rfl ?_
                                                                              refine z_iconst (n := 3) (v := 3) (q := 1316) (by decide +kernel) rfl (by decide) ?_
                                                                              refine z_iadd (q := 1317) (by decide +kernel) rfl ?_
                                                                              refine z_iald (q := 1318) (Or.inl ⟨rfl, rfl⟩) (by decide +kernel) rfl fun x307 => ?_
                                                                              refine z_callVI (As := [.int x305, .int x306, .int x307]) (st := []) (q := 1321) (ct_X4_season g l v1 x305 x306 x307) zm_RL_163 (rc_X4_season v1 x305 x306 x307) rfl (by decide) (by decide) (Nat.le_of_ble_eq_true rfl) rfl (by decide +kernel) rfl fun x308 => ?_
                                                                              refine z_aload_n (j := 2) (q := 1322) (by decide +kernel) rfl 2 rfl ?_
                                                                              refine z_aload_n (j := 0) (q := 1323) (by decide +kernel) rfl 0 rfl ?_
                                                                              refine z_iload_n (j := 3) (q := 1324) (by decide +kernel) rfl 3 rfl ?_
                                                                              refine z_iconst (n := 1) (v := 1) (q := 1325) (by decide +kernel) rfl (by decide) ?_
                                                                              refine z_iadd (q := 1326) (by decide +kernel) rfl ?_
                                                                              refine z_iald (q := 1327) (Or.inl ⟨rfl, rfl⟩) (by decide +kernel) rfl fun x310 => ?_
                                                                              refine z_aload_n (j := 0) (q := 1328) (by decide +kernel) rfl 0 rfl ?_
                                                                              refine z_iload_n (j := 3) (q := 1329) (by decide +kernel) rfl 3 rfl ?_
                                                                              refine z_iconst (n := 2) (v := 2) (q := 1330) (by decide +kernel) rfl (by decide) ?_
                                                                              refine z_iadd (q := 1331) (by decide +kernel) rfl ?_
                                                                              refine z_iald (q := 1332) (Or.inl ⟨rfl, rfl⟩) (by decide +kernel) rfl fun x311 => ?_
                                                                              refine z_aload_n (j := 0) (q := 1333) (by decide +kernel) rfl 0 rfl ?_
                                                                              refine z_iload_n (j := 3) (q := 1334) (by decide +kernel) rfl 3 rfl ?_
                                                                              refine z_iconst (n := 3) (v := 3) (q := 1335) (by decide +kernel) rfl (by decide) ?_
                                                                              refine z_iadd (q := 1336) (by decide +kernel) rfl ?_
                                                                              refine z_iald (q := 1337) (Or.inl ⟨rfl, rfl⟩) (by decide +kernel) rfl fun x312 => ?_
                                                                              refine z_callVI (As := [.int x310, .int x311, .int x312]) (st := [.int x308]) (q := 1340) (ct_X5_season g l v2 x310 x311 x312) zm_RL_166 (rc_X5_season v2 x310 x311 x312) rfl (by decide) (by decide) (Nat.le_of_ble_eq_true rfl) rfl (by decide +kernel) rfl fun x313 => ?_
                                                                              refine z_icmp_eq (off := 119) (t := 1459) (q := 1343) (by decide +kernel) (by decide) rfl ?_ ?_
                                                                              · refine zsub [0, 1, 2, 3] rfl ?_
                                                                                exact sj_L_law_1459 g l rec v0 v1 v2 s hrec
                                                                              · refine zsub [] rfl ?_
                                                                                exact sj_L_law_1343 g l 
                                                                            · skip
                                                                              refine z_case (fun c320 => ?_) (fun c320 => ?_)
                                                                              · refine z_tabIn (v := 37) (off := 1312) (t := 1345) c320 (by decide +kernel : decode cL_law 33 = .ok (.tableswitch 1426 0 43 #[191, 224, 267, 300, 323, 386, 409, 442, 485, 508, 531, 554, 587, 620, 653, 686, 709, 722, 745, 778, 791, 814, 837, 860, 873, 896, 919, 952, 985, 1028, 1081, 1124, 1147, 1170, 1203, 1246, 1269, 1312, 1325, 1339, 1353, 1376, 1389, 1412], 191)) (by decide) (by decide) (by decide) (by decide) ?_
                                                                                refine z_aload_n (j := 1) (q := 1346) (by decide +kernel) rfl 1 rfl ?_
                                                                                refine z_callVI (As := []) (st := []) (q := 1349) (ct_X4_asked g l v1) zm_RL_167 (rc_X4_asked v1) rfl (by decide) (by decide) (Nat.le_of_ble_eq_true rfl) rfl (by decide +kernel) rfl fun x316 => ?_
                                                                                refine z_aload_n (j := 2) (q := 1350) (by decide +kernel) rfl 2 rfl ?_
                                                                                refine z_callVI (As := []) (st := [.int x316]) (q := 1353) (ct_X5_asked g l v2) zm_RL_170 (rc_X5_asked v2) rfl (by decide) (by decide) (Nat.le_of_ble_eq_true rfl) rfl (by decide +kernel) rfl fun x318 => ?_
                                                                                refine z_icmp_eq (off := 106) (t := 1459) (q := 1356) (by decide +kernel) (by decide) rfl ?_ ?_
                                                                                · refine zsub [0, 1, 2, 3] rfl ?_
                                                                                  exact sj_L_law_1459 g l rec v0 v1 v2 s hrec
                                                                                · refine zsub [] rfl ?_
                                                                                  exact sj_L_law_1356 g l 
                                                                              · skip
                                                                                refine z_case (fun c325 => ?_) (fun c325 => ?_)
                                                                                · refine z_tabIn (v := 38) (off := 1325) (t := 1358) c325 (by decide +kernel : decode cL_law 33 = .ok (.tableswitch 1426 0 43 #[191, 224, 267, 300, 323, 386, 409, 442, 485, 508, 531, 554, 587, 620, 653, 686, 709, 722, 745, 778, 791, 814, 837, 860, 873, 896, 919, 952, 985, 1028, 1081, 1124, 1147, 1170, 1203, 1246, 1269, 1312, 1325, 1339, 1353, 1376, 1389, 1412], 191)) (by decide) (by decide) (by decide) (by decide) ?_
                                                                                  refine z_aload_n (j := 1) (q := 1359) (by decide +kernel) rfl 1 rfl ?_
                                                                                  refine z_callVL (As := []) (st := []) (q := 1362) (ct_X4_upper g l v1) zm_RL_171 (rc_X4_upper v1) rfl (by decide) (by decide) (Nat.le_of_ble_eq_true rfl) rfl (by decide +kernel) rfl fun x321 => ?_
                                                                                  refine z_aload_n (j := 2) (q := 1363) (by decide +kernel) rfl 2 rfl ?_
                                                                                  refine z_callVL (As := []) (st := [.long x321]) (q := 1366) (ct_X5_upper g l v2) zm_RL_175 (rc_X5_upper v2) rfl (by decide) (by decide) (Nat.le_of_ble_eq_true rfl) rfl (by decide +kernel) rfl fun x323 => ?_
                                                                                  refine z_lcmp (q := 1367) (by decide +kernel) rfl ?_
                                                                                  refine z_if_eq (off := 92) (t := 1459) (q := 1370) (by decide +kernel) (by decide) rfl ?_ ?_
                                                                                  · refine zsub [0, 1, 2, 3] rfl ?_
                                                                                    exact sj_L_law_1459 g l rec v0 v1 v2 s hrec
                                                                                  · refine zsub [] rfl ?_
                                                                                    exact sj_L_law_1370 g l 
                                                                                · skip
                                                                                  refine z_case (fun c330 => ?_) (fun c330 => ?_)
                                                                                  · refine z_tabIn (v := 39) (off := 1339) (t := 1372) c330 (by decide +kernel : decode cL_law 33 = .ok (.tableswitch 1426 0 43 #[191, 224, 267, 300, 323, 386, 409, 442, 485, 508, 531, 554, 587, 620, 653, 686, 709, 722, 745, 778, 791, 814, 837, 860, 873, 896, 919, 952, 985, 1028, 1081, 1124, 1147, 1170, 1203, 1246, 1269, 1312, 1325, 1339, 1353, 1376, 1389, 1412], 191)) (by decide) (by decide) (by decide) (by decide) ?_
                                                                                    refine z_aload_n (j := 1) (q := 1373) (by decide +kernel) rfl 1 rfl ?_
                                                                                    refine z_callVL (As := []) (st := []) (q := 1376) (ct_X4_lower g l v1) zm_RL_176 (rc_X4_lower v1) rfl (by decide) (by decide) (Nat.le_of_ble_eq_true rfl) rfl (by decide +kernel) rfl fun x326 => ?_
                                                                                    refine z_aload_n (j := 2) (q := 1377) (by decide +kernel) rfl 2 rfl ?_
                                                                                    refine z_callVL (As := []) (st := [.long x326]) (q := 1380) (ct_X5_lower g l v2) zm_RL_179 (rc_X5_lower v2) rfl (by decide) (by decide) (Nat.le_of_ble_eq_true rfl) rfl (by decide +kernel) rfl fun x328 => ?_
                                                                                    refine z_lcmp (q := 1381) (by decide +kernel) rfl ?_
                                                                                    refine z_if_eq (off := 78) (t := 1459) (q := 1384) (by decide +kernel) (by decide) rfl ?_ ?_
                                                                                    · refine zsub [0, 1, 2, 3] rfl ?_
                                                                                      exact sj_L_law_1459 g l rec v0 v1 v2 s hrec
                                                                                    · refine zsub [] rfl ?_
                                                                                      exact sj_L_law_1384 g l 
                                                                                  · skip
                                                                                    refine z_case (fun c337 => ?_) (fun c337 => ?_)
                                                                                    · refine z_tabIn (v := 40) (off := 1353) (t := 1386) c337 (by decide +kernel : decode cL_law 33 = .ok (.tableswitch 1426 0 43 #[191, 224, 267, 300, 323, 386, 409, 442, 485, 508, 531, 554, 587, 620, 653, 686, 709, 722, 745, 778, 791, 814, 837, 860, 873, 896, 919, 952, 985, 1028, 1081, 1124, 1147, 1170, 1203, 1246, 1269, 1312, 1325, 1339, 1353, 1376, 1389, 1412], 191)) (by decide) (by decide) (by decide) (by decide) ?_
                                                                                      refine z_aload_n (j := 1) (q := 1387) (by decide +kernel) rfl 1 rfl ?_
                                                                                      refine z_aload_n (j := 0) (q := 1388) (by decide +kernel) rfl 0 rfl ?_
                                                                                      refine z_iload_n (j := 3) (q := 1389) (by decide +kernel) rfl 3 rfl ?_
                                                                                      refine z_iconst (n := 1) (v := 1) (q := 1390) (by decide +kernel) rfl (by decide) ?_
                                                                                      refine z_iadd (q := 1391) (by decide +kernel) rfl ?_
                                                                                      refine z_iald (q := 1392) (Or.inl ⟨rfl, rfl⟩) (by decide +kernel) rfl fun x331 => ?_
                                                                                      refine z_callVI (As := [.int x331]) (st := []) (q := 1395) (ct_X4_count g l v1 x331) zm_RL_180 (rc_X4_count v1 x331) rfl (by decide) (by decide) (Nat.le_of_ble_eq_true rfl) rfl (by decide +kernel) rfl fun x332 => ?_
                                                                                      refine z_aload_n (j := 2) (q := 1396) (by decide +kernel) rfl 2 rfl ?_
                                                                                      refine z_aload_n (j := 0) (q := 1397) (by decide +kernel) rfl 0 rfl ?_
                                                                                      refine z_iload_n (j := 3) (q := 1398) (by decide +kernel) rfl 3 rfl ?_
                                                                                      refine z_iconst (n := 1) (v := 1) (q := 1399) (by decide +kernel) rfl (by decide) ?_
                                                                                      refine z_iadd (q := 1400) (by decide +kernel) rfl ?_
                                                                                      refine z_iald (q := 1401) (Or.inl ⟨rfl, rfl⟩) (by decide +kernel) rfl fun x334 => ?_
                                                                                      refine z_callVI (As := [.int x334]) (st := [.int x332]) (q := 1404) (ct_X5_count g l v2 x334) zm_RL_183 (rc_X5_count v2 x334) rfl (by decide) (by decide) (Nat.le_of_ble_eq_true rfl) rfl (by decide +kernel) rfl fun x335 => ?_
                                                                                      refine z_icmp_eq (off := 55) (t := 1459) (q := 1407) (by decide +kernel) (by decide) rfl ?_ ?_
                                                                                      · refine zsub [0, 1, 2, 3] rfl ?_
                                                                                        exact sj_L_law_1459 g l rec v0 v1 v2 s hrec
                                                                                      · refine zsub [] rfl ?_
                                                                                        exact sj_L_law_1407 g l 
                                                                                    · skip
                                                                                      refine z_case (fun c342 => ?_) (fun c342 => ?_)
                                                                                      · refine z_tabIn (v := 41) (off := 1376) (t := 1409) c342 (by decide +kernel : decode cL_law 33 = .ok (.tableswitch 1426 0 43 #[191, 224, 267, 300, 323, 386, 409, 442, 485, 508, 531, 554, 587, 620, 653, 686, 709, 722, 745, 778, 791, 814, 837, 860, 873, 896, 919, 952, 985, 1028, 1081, 1124, 1147, 1170, 1203, 1246, 1269, 1312, 1325, 1339, 1353, 1376, 1389, 1412], 191)) (by decide) (by decide) (by decide) (by decide) ?_
                                                                                        refine z_aload_n (j := 1) (q := 1410) (by decide +kernel) rfl 1 rfl ?_
                                                                                        refine z_callVI (As := []) (st := []) (q := 1413) (ct_X4_finding g l v1) zm_RL_184 (rc_X4_finding v1) rfl (by decide) (by decide) (Nat.le_of_ble_eq_true rfl) rfl (by decide +kernel) rfl fun x338 => ?_
                                                                                        refine z_aload_n (j := 2) (q := 1414) (by decide +kernel) rfl 2 rfl ?_
                                                                                        refine z_callVI (As := []) (st := [.int x338]) (q := 1417) (ct_X5_finding g l v2) zm_RL_187 (rc_X5_finding v2) rfl (by decide) (by decide) (Nat.le_of_ble_eq_true rfl) rfl (by decide +kernel) rfl fun x340 => ?_
                                                                                        refine z_icmp_eq (off := 42) (t := 1459) (q := 1420) (by decide +kernel) (by decide) rfl ?_ ?_
                                                                                        · refine zsub [0, 1, 2, 3] rfl ?_
                                                                                          exact sj_L_law_1459 g l rec v0 v1 v2 s hrec
                                                                                        · refine zsub [] rfl ?_
                                                                                          exact sj_L_law_1420 g l 
                                                                                      · skip
                                                                                        refine z_case (fun c349 => ?_) (fun c349 => ?_)
                                                                                        · refine z_tabIn (v := 42) (off := 1389) (t := 1422) c349 (by decide +kernel : decode cL_law 33 = .ok (.tableswitch 1426 0 43 #[191, 224, 267, 300, 323, 386, 409, 442, 485, 508, 531, 554, 587, 620, 653, 686, 709, 722, 745, 778, 791, 814, 837, 860, 873, 896, 919, 952, 985, 1028, 1081, 1124, 1147, 1170, 1203, 1246, 1269, 1312, 1325, 1339, 1353, 1376, 1389, 1412], 191)) (by decide) (by decide) (by decide) (by decide) ?_
                                                                                          refine z_aload_n (j := 1) (q := 1423) (by decide +kernel) rfl 1 rfl ?_
                                                                                          refine z_aload_n (j := 0) (q := 1424) (by decide +kernel) rfl 0 rfl ?_
                                                                                          refine z_iload_n (j := 3) (q := 1425) (by decide +kernel) rfl 3 rfl ?_
                                                                                          refine z_iconst (n := 1) (v := 1) (q := 1426) (by decide +kernel) rfl (by decide) ?_
                                                                                          refine z_iadd (q := 1427) (by decide +kernel) rfl ?_
                                                                                          refine z_iald (q := 1428) (Or.inl ⟨rfl, rfl⟩) (by decide +kernel) rfl fun x343 => ?_
                                                                                          refine z_callVI (As := [.int x343]) (st := []) (q := 1431) (ct_X4_findings g l v1 x343) zm_RL_188 (rc_X4_findings v1 x343) rfl (by decide) (by decide) (Nat.le_of_ble_eq_true rfl) rfl (by decide +kernel) rfl fun x344 => ?_
                                                                                          refine z_aload_n (j := 2) (q := 1432) (by decide +kernel) rfl 2 rfl ?_
                                                                                          refine z_aload_n (j := 0) (q := 1433) (by decide +kernel) rfl 0 rfl ?_
                                                                                          refine z_iload_n (j := 3) (q := 1434) (by decide +kernel) rfl 3 rfl ?_
                                                                                          refine z_iconst (n := 1) (v := 1) (q := 1435) (by decide +kernel) rfl (by decide) ?_
                                                                                          refine z_iadd (q := 1436) (by decide +kernel) rfl ?_
                                                                                          refine z_iald (q := 1437) (Or.inl ⟨rfl, rfl⟩) (by decide +kernel) rfl fun x346 => ?_
                                                                                          refine z_callVI (As := [.int x346]) (st := [.int x344]) (q := 1440) (ct_X5_findings g l v2 x346) zm_RL_191 (rc_X5_findings v2 x346) rfl (by decide) (by decide) (Nat.le_of_ble_eq_true rfl) rfl (by decide +kernel) rfl fun x347 => ?_
                                                                                          refine z_icmp_eq (off := 19) (t := 1459) (q := 1443) (by decide +kernel) (by decide) rfl ?_ ?_
                                                                                          · refine zsub [0, 1, 2, 3] rfl ?_
                                                                                            exact sj_L_law_1459 g l rec v0 v1 v2 s hrec
                                                                                          · refine zsub [] rfl ?_
                                                                                            exact sj_L_law_1443 g l 
                                                                                        · skip
                                                                                          refine z_case (fun c354 => ?_) (fun c354 => ?_)
                                                                                          · refine z_tabIn (v := 43) (off := 1412) (t := 1445) c354 (by decide +kernel : decode cL_law 33 = .ok (.tableswitch 1426 0 43 #[191, 224, 267, 300, 323, 386, 409, 442, 485, 508, 531, 554, 587, 620, 653, 686, 709, 722, 745, 778, 791, 814, 837, 860, 873, 896, 919, 952, 985, 1028, 1081, 1124, 1147, 1170, 1203, 1246, 1269, 1312, 1325, 1339, 1353, 1376, 1389, 1412], 191)) (by decide) (by decide) (by decide) (by decide) ?_
                                                                                            refine z_aload_n (j := 1) (q := 1446) (by decide +kernel) rfl 1 rfl ?_
                                                                                            refine z_callVL (As := []) (st := []) (q := 1449) (ct_X4_digest g l v1) zm_RL_192 (rc_X4_digest v1) rfl (by decide) (by decide) (Nat.le_of_ble_eq_true rfl) rfl (by decide +kernel) rfl fun x350 => ?_
                                                                                            refine z_aload_n (j := 2) (q := 1450) (by decide +kernel) rfl 2 rfl ?_
                                                                                            refine z_callVL (As := []) (st := [.long x350]) (q := 1453) (ct_X5_digest g l v2) zm_RL_195 (rc_X5_digest v2) rfl (by decide) (by decide) (Nat.le_of_ble_eq_true rfl) rfl (by decide +kernel) rfl fun x352 => ?_
                                                                                            refine z_lcmp (q := 1454) (by decide +kernel) rfl ?_
                                                                                            refine z_if_eq (off := 5) (t := 1459) (q := 1457) (by decide +kernel) (by decide) rfl ?_ ?_
                                                                                            · refine zsub [0, 1, 2, 3] rfl ?_
                                                                                              exact sj_L_law_1459 g l rec v0 v1 v2 s hrec
                                                                                            · refine zsub [] rfl ?_
                                                                                              exact sj_L_law_1457 g l 
                                                                                          · skip
                                                                                            have nc11 := lv_neT (a := 0) c11 (by decide)
                                                                                            have nc22 := lv_neT (a := 1) c22 (by decide)
                                                                                            have nc31 := lv_neT (a := 2) c31 (by decide)
                                                                                            have nc38 := lv_neT (a := 3) c38 (by decide)
                                                                                            have nc53 := lv_neT (a := 4) c53 (by decide)
                                                                                            have nc60 := lv_neT (a := 5) c60 (by decide)
                                                                                            have nc69 := lv_neT (a := 6) c69 (by decide)
                                                                                            have nc80 := lv_neT (a := 7) c80 (by decide)
                                                                                            have nc87 := lv_neT (a := 8) c87 (by decide)
                                                                                            have nc94 := lv_neT (a := 9) c94 (by decide)
                                                                                            have nc101 := lv_neT (a := 10) c101 (by decide)
                                                                                            have nc110 := lv_neT (a := 11) c110 (by decide)
                                                                                            have nc119 := lv_neT (a := 12) c119 (by decide)
                                                                                            have nc128 := lv_neT (a := 13) c128 (by decide)
                                                                                            have nc137 := lv_neT (a := 14) c137 (by decide)
                                                                                            have nc144 := lv_neT (a := 15) c144 (by decide)
                                                                                            have nc149 := lv_neT (a := 16) c149 (by decide)
                                                                                            have nc156 := lv_neT (a := 17) c156 (by decide)
                                                                                            have nc165 := lv_neT (a := 18) c165 (by decide)
                                                                                            have nc170 := lv_neT (a := 19) c170 (by decide)
                                                                                            have nc177 := lv_neT (a := 20) c177 (by decide)
                                                                                            have nc184 := lv_neT (a := 21) c184 (by decide)
                                                                                            have nc191 := lv_neT (a := 22) c191 (by decide)
                                                                                            have nc196 := lv_neT (a := 23) c196 (by decide)
                                                                                            have nc203 := lv_neT (a := 24) c203 (by decide)
                                                                                            have nc210 := lv_neT (a := 25) c210 (by decide)
                                                                                            have nc219 := lv_neT (a := 26) c219 (by decide)
                                                                                            have nc228 := lv_neT (a := 27) c228 (by decide)
                                                                                            have nc239 := lv_neT (a := 28) c239 (by decide)
                                                                                            have nc252 := lv_neT (a := 29) c252 (by decide)
                                                                                            have nc263 := lv_neT (a := 30) c263 (by decide)
                                                                                            have nc270 := lv_neT (a := 31) c270 (by decide)
                                                                                            have nc277 := lv_neT (a := 32) c277 (by decide)
                                                                                            have nc286 := lv_neT (a := 33) c286 (by decide)
                                                                                            have nc297 := lv_neT (a := 34) c297 (by decide)
                                                                                            have nc304 := lv_neT (a := 35) c304 (by decide)
                                                                                            have nc315 := lv_neT (a := 36) c315 (by decide)
                                                                                            have nc320 := lv_neT (a := 37) c320 (by decide)
                                                                                            have nc325 := lv_neT (a := 38) c325 (by decide)
                                                                                            have nc330 := lv_neT (a := 39) c330 (by decide)
                                                                                            have nc337 := lv_neT (a := 40) c337 (by decide)
                                                                                            have nc342 := lv_neT (a := 41) c342 (by decide)
                                                                                            have nc349 := lv_neT (a := 42) c349 (by decide)
                                                                                            have nc354 := lv_neT (a := 43) c354 (by decide)
                                                                                            refine z_tabOut (t := 1459) (by decide +kernel : decode cL_law 33 = .ok (.tableswitch 1426 0 43 #[191, 224, 267, 300, 323, 386, 409, 442, 485, 508, 531, 554, 587, 620, 653, 686, 709, 722, 745, 778, 791, 814, 837, 860, 873, 896, 919, 952, 985, 1028, 1081, 1124, 1147, 1170, 1203, 1246, 1269, 1312, 1325, 1339, 1353, 1376, 1389, 1412], 191)) (Or.inl (by omega)) (by decide) ?_
                                                                                            refine zsub [0, 1, 2, 3] rfl ?_
                                                                                            exact sj_L_law_1459 g l rec v0 v1 v2 s hrec
def dn_L_law (v0 : Nat) : zAH → Option (Int32 × zAH) := fun h => znw 4 zdf_4 (fun x1 h2 => zbd (dn_X4_init x1 h2) fun x3 h4 => znw 5 zdf_5 (fun x5 h6 => zbd (dn_X5_init x5 h6) fun x7 h8 => lp_L_law_18 v0 x1 x5 0 h8) h4) h
theorem ct_L_law (g : zG) (l : Launch) (v0 : Nat) : zCt g l yL_law cL_law 4 (some .boolean) 9 205 zrI [.ref v0] (dn_L_law v0) := by
  refine zCt_of (lv := [(0, .ref v0)]) (by decide +kernel) (Nat.le_of_ble_eq_true rfl) rfl ?_
  show zSm g l cL_law 4 RL "law" (some .boolean) 9 205 zrI 0 [(0, .ref v0)] [] (dn_L_law v0)
  unfold dn_L_law
  refine z_new (q := 3) zn_RL_7 (by decide +kernel) rfl fun x1 => ?_
  refine z_dup (q := 4) (by decide +kernel) rfl rfl ?_
  refine z_callC (As := []) (st := [.ref x1]) (q := 7) (ct_X4_init g l x1) zm_RL_9 (rc_X4_init x1) rfl (by decide) (by decide) (Nat.le_of_ble_eq_true rfl) rfl (by decide +kernel) rfl fun x3 => ?_
  refine z_astore_n (j := 1) (q := 8) (by decide +kernel) rfl (by decide) rfl ?_
  refine z_new (q := 11) zn_RL_10 (by decide +kernel) rfl fun x5 => ?_
  refine z_dup (q := 12) (by decide +kernel) rfl rfl ?_
  refine z_callC (As := []) (st := [.ref x5]) (q := 15) (ct_X5_init g l x5) zm_RL_12 (rc_X5_init x5) rfl (by decide) (by decide) (Nat.le_of_ble_eq_true rfl) rfl (by decide +kernel) rfl fun x7 => ?_
  refine z_astore_n (j := 2) (q := 16) (by decide +kernel) rfl (by decide) rfl ?_
  refine z_iconst (n := 0) (v := 0) (q := 17) (by decide +kernel) rfl (by decide) ?_
  refine z_istore_n (j := 3) (q := 18) (by decide +kernel) rfl (by decide) rfl ?_
  refine zsub [3, 2, 1, 0] rfl ?_
  exact sl_L_law_18 g l v0 x1 x5 0
