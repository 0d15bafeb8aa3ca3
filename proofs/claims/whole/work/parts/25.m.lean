def jn_X4_worth_62 (v0 : Nat) (v1 : Int32) (v2 : Int32) (v5 : Int32) : zAH → Option (Int32 × zAH) := fun h => (zgI 4 7 v0 h).bind fun x1 => zbd (dn_X4_finishTrial v0 x1 h) fun x2 h3 => (zgA 4 5 v0 h3).bind fun x4 => (zgI 1 3 x4 h3).bind fun x5 => (zpF 4 8 v0 (.int (v5 &&& ((((1 <<< (v1 &&& 31)) ||| (1 <<< (v2 &&& 31))) ||| (1 <<< (x5 &&& 31))) ^^^ ((-1))))) h3).bind fun h6 => zbd (dn_J6_bitCount_0f7a4 (v5 &&& ((((1 <<< (v1 &&& 31)) ||| (1 <<< (v2 &&& 31))) ||| (1 <<< (x5 &&& 31))) ^^^ ((-1)))) h6) fun x7 h8 => some (x7, h8)
theorem sj_X4_worth_62 (g : zG) (l : Launch) (v0 : Nat) (v1 : Int32) (v2 : Int32) (v5 : Int32) : zSm g l cX4_worth 7 RX4 "worth" (some .int) 6 154 zrI 62 [(0, .ref v0), (1, .int v1), (2, .int v2), (5, .int v5)] [] (jn_X4_worth_62 v0 v1 v2 v5) := by
  unfold jn_X4_worth_62
  refine z_aload_n (j := 0) (q := 63) (by decide +kernel) rfl 0 rfl ?_
  refine z_aload_n (j := 0) (q := 64) (by decide +kernel) rfl 0 rfl ?_
  refine z_getI (q := 67) zf_RX4_42 (by decide +kernel) rfl fun x1 => ?_
  refine z_callVU (As := [.int x1]) (st := []) (q := 70) (ct_X4_finishTrial g l v0 x1) zm_RX4_221 (rc_X4_finishTrial v0 x1) rfl (by decide) (by decide) (Nat.le_of_ble_eq_true rfl) rfl (by decide +kernel) rfl fun x2 => ?_
  refine z_iload (j := 5) (q := 72) (by decide +kernel) rfl 3 rfl ?_
  refine z_iconst (n := 1) (v := 1) (q := 73) (by decide +kernel) rfl (by decide) ?_
  refine z_iload_n (j := 1) (q := 74) (by decide +kernel) rfl 1 rfl ?_
  refine z_ishl (q := 75) (by decide +kernel) rfl ?_
  refine z_iconst (n := 1) (v := 1) (q := 76) (by decide +kernel) rfl (by decide) ?_
  refine z_iload_n (j := 2) (q := 77) (by decide +kernel) rfl 2 rfl ?_
  refine z_ishl (q := 78) (by decide +kernel) rfl ?_
  refine z_ior (q := 79) (by decide +kernel) rfl ?_
  refine z_iconst (n := 1) (v := 1) (q := 80) (by decide +kernel) rfl (by decide) ?_
  refine z_aload_n (j := 0) (q := 81) (by decide +kernel) rfl 0 rfl ?_
  refine z_getA (q := 84) zf_RX4_35 (by decide +kernel) rfl fun x4 => ?_
  refine z_getI (q := 87) zf_RX4_208 (by decide +kernel) rfl fun x5 => ?_
  refine z_ishl (q := 88) (by decide +kernel) rfl ?_
  refine z_ior (q := 89) (by decide +kernel) rfl ?_
  refine z_iconst (n := (-1)) (v := (-1)) (q := 90) (by decide +kernel) rfl (by decide) ?_
  refine z_ixor (q := 91) (by decide +kernel) rfl ?_
  refine z_iand (q := 92) (by decide +kernel) rfl ?_
  refine z_istore (j := 6) (q := 94) (by decide +kernel) rfl (by decide) rfl ?_
  refine z_aload_n (j := 0) (q := 95) (by decide +kernel) rfl 1 rfl ?_
  refine z_iload (j := 6) (q := 97) (by decide +kernel) rfl 0 rfl ?_
  refine z_putV (q := 100) zp_RX4_46 (fun z => by cases z) rfl rfl (by decide +kernel) rfl ?_
  refine z_iload (j := 6) (q := 102) (by decide +kernel) rfl 0 rfl ?_
  refine z_callSI (As := [.int (v5 &&& ((((1 <<< (v1 &&& 31)) ||| (1 <<< (v2 &&& 31))) ||| (1 <<< (x5 &&& 31))) ^^^ ((-1))))]) (st := []) (q := 105) (ct_J6_bitCount_0f7a4 g l (v5 &&& ((((1 <<< (v1 &&& 31)) ||| (1 <<< (v2 &&& 31))) ||| (1 <<< (x5 &&& 31))) ^^^ ((-1))))) zm_RX4_249 rfl (by decide) (by decide) (Nat.le_of_ble_eq_true rfl) rfl (by decide +kernel) rfl fun x7 => ?_
  exact z_iret (by decide +kernel)
def lb_X4_worth_26 (v0 : Nat) (v1 : Int32) (v2 : Int32) (v3 : Int32) (v4 : Int32) (rec : (Int32 × Int32) → zAH → Option (Int32 × zAH)) (s : Int32 × Int32) : zAH → Option (Int32 × zAH) := fun h => if s.2 < v4 then zbd (dn_X4_tryChoices v0 v1 v2 v3 s.2 h) fun x1 h2 => (zgA 4 5 v0 h2).bind fun x3 => (zgI 1 3 x3 h2).bind fun x4 => rec (s.1 ||| (1 <<< (x4 &&& 31)), s.2 + 1) h2 else jn_X4_worth_62 v0 v1 v2 s.1 h
def lp_X4_worth_26 (v0 : Nat) (v1 : Int32) (v2 : Int32) (v3 : Int32) (v4 : Int32) (s : Int32 × Int32) : zAH → Option (Int32 × zAH) := zlp (lb_X4_worth_26 v0 v1 v2 v3 v4) 2000 s
theorem sl_X4_worth_26 (g : zG) (l : Launch) (v0 : Nat) (v1 : Int32) (v2 : Int32) (v3 : Int32) (v4 : Int32) (s : Int32 × Int32) : zSm g l cX4_worth 7 RX4 "worth" (some .int) 6 154 zrI 26 [(0, .ref v0), (1, .int v1), (2, .int v2), (3, .int v3), (4, .int v4), (5, .int s.1), (6, .int s.2)] [] (lp_X4_worth_26 v0 v1 v2 v3 v4 s) := by
  unfold lp_X4_worth_26
  refine z_loop (lvf := fun s => [(0, .ref v0), (1, .int v1), (2, .int v2), (3, .int v3), (4, .int v4), (5, .int s.1), (6, .int s.2)]) (fun rec hrec s => ?_) 2000 s
  unfold lb_X4_worth_26
  refine z_iload (j := 6) (q := 28) (by decide +kernel) rfl 6 rfl ?_
  refine z_iload (j := 4) (q := 30) (by decide +kernel) rfl 4 rfl ?_
  refine z_icmp_ge (off := 32) (t := 62) (q := 33) (by decide +kernel) (by decide) rfl ?_ ?_
  · refine zsub [0, 1, 2, 5] rfl ?_
    exact sj_X4_worth_62 g l v0 v1 v2 s.1
  · refine z_aload_n (j := 0) (q := 34) (by decide +kernel) rfl 0 rfl ?_
    refine z_iload_n (j := 1) (q := 35) (by decide +kernel) rfl 1 rfl ?_
    refine z_iload_n (j := 2) (q := 36) (by decide +kernel) rfl 2 rfl ?_
    refine z_iload_n (j := 3) (q := 37) (by decide +kernel) rfl 3 rfl ?_
    refine z_iload (j := 6) (q := 39) (by decide +kernel) rfl 6 rfl ?_
    refine z_callVU (As := [.int v1, .int v2, .int v3, .int s.2]) (st := []) (q := 42) (ct_X4_tryChoices g l v0 v1 v2 v3 s.2) zm_RX4_234 (rc_X4_tryChoices v0 v1 v2 v3 s.2) rfl (by decide) (by decide) (Nat.le_of_ble_eq_true rfl) rfl (by decide +kernel) rfl fun x1 => ?_
    refine z_iload (j := 5) (q := 44) (by decide +kernel) rfl 5 rfl ?_
    refine z_iconst (n := 1) (v := 1) (q := 45) (by decide +kernel) rfl (by decide) ?_
    refine z_aload_n (j := 0) (q := 46) (by decide +kernel) rfl 0 rfl ?_
    refine z_getA (q := 49) zf_RX4_35 (by decide +kernel) rfl fun x3 => ?_
    refine z_getI (q := 52) zf_RX4_208 (by decide +kernel) rfl fun x4 => ?_
    refine z_ishl (q := 53) (by decide +kernel) rfl ?_
    refine z_ior (q := 54) (by decide +kernel) rfl ?_
    refine z_istore (j := 5) (q := 56) (by decide +kernel) rfl (by decide) rfl ?_
    refine z_iinc (j := 6) (n := 1) (v := 1) (q := 59) (by decide +kernel) rfl 6 rfl (by decide) (by decide) rfl ?_
    refine z_goto (off := (-33)) (t := 26) (by decide +kernel) (by decide) ?_
    refine zsub [2, 3, 4, 5, 6, 1, 0] rfl ?_
    exact hrec (s.1 ||| (1 <<< (x4 &&& 31)), s.2 + 1)
def dn_X4_worth (v0 : Nat) (v1 : Int32) (v2 : Int32) (v3 : Int32) : zAH → Option (Int32 × zAH) := fun h => (zgO 4 v0 h).bind fun _ => zbd (dn_X4_arePactOf v0 v1 v2 v3 h) fun x1 h2 => if x1 = 0 then some ((-1), h2) else zbd (dn_X4_powerOfFour (2 * v3) h2) fun x3 h4 => lp_X4_worth_26 v0 v1 v2 v3 x3 (0, 0) h4
theorem ct_X4_worth (g : zG) (l : Launch) (v0 : Nat) (v1 : Int32) (v2 : Int32) (v3 : Int32) : zCt g l yX4_worth cX4_worth 7 (some .int) 6 154 zrI [.ref v0, .int v1, .int v2, .int v3] (dn_X4_worth v0 v1 v2 v3) := by
  refine zCt_of (lv := [(0, .ref v0), (1, .int v1), (2, .int v2), (3, .int v3)]) (by decide +kernel) (Nat.le_of_ble_eq_true rfl) rfl ?_
  show zSm g l cX4_worth 7 RX4 "worth" (some .int) 6 154 zrI 0 [(0, .ref v0), (1, .int v1), (2, .int v2), (3, .int v3)] [] (dn_X4_worth v0 v1 v2 v3)
  unfold dn_X4_worth
  refine z_rec ?_
  refine z_aload_n (j := 0) (q := 1) (by decide +kernel) rfl 0 rfl ?_
  refine z_iload_n (j := 1) (q := 2) (by decide +kernel) rfl 1 rfl ?_
  refine z_iload_n (j := 2) (q := 3) (by decide +kernel) rfl 2 rfl ?_
  refine z_iload_n (j := 3) (q := 4) (by decide +kernel) rfl 3 rfl ?_
  refine z_callVI (As := [.int v1, .int v2, .int v3]) (st := []) (q := 7) (ct_X4_arePactOf g l v0 v1 v2 v3) zm_RX4_245 (rc_X4_arePactOf v0 v1 v2 v3) rfl (by decide) (by decide) (Nat.le_of_ble_eq_true rfl) rfl (by decide +kernel) rfl fun x1 => ?_
  refine z_if_ne (off := 5) (t := 12) (q := 10) (by decide +kernel) (by decide) rfl ?_ ?_
  · refine z_iconst (n := 2) (v := 2) (q := 13) (by decide +kernel) rfl (by decide) ?_
    refine z_iload_n (j := 3) (q := 14) (by decide +kernel) rfl 3 rfl ?_
    refine z_imul (q := 15) (by decide +kernel) rfl ?_
    refine z_callSI (As := [.int (2 * v3)]) (st := []) (q := 18) (ct_X4_powerOfFour g l (2 * v3)) zm_RX4_231 rfl (by decide) (by decide) (Nat.le_of_ble_eq_true rfl) rfl (by decide +kernel) rfl fun x3 => ?_
    refine z_istore (j := 4) (q := 20) (by decide +kernel) rfl (by decide) rfl ?_
    refine z_iconst (n := 0) (v := 0) (q := 21) (by decide +kernel) rfl (by decide) ?_
    refine z_istore (j := 5) (q := 23) (by decide +kernel) rfl (by decide) rfl ?_
    refine z_iconst (n := 0) (v := 0) (q := 24) (by decide +kernel) rfl (by decide) ?_
    refine z_istore (j := 6) (q := 26) (by decide +kernel) rfl (by decide) rfl ?_
    refine zsub [3, 4, 5, 6, 2, 1, 0] rfl ?_
    exact sl_X4_worth_26 g l v0 v1 v2 v3 x3 (0, 0)
  · refine z_iconst (n := (-1)) (v := (-1)) (q := 11) (by decide +kernel) rfl (by decide) ?_
    exact z_iret (by decide +kernel)
theorem rc_X4_worth (v0 : Nat) (v1 : Int32) (v2 : Int32) (v3 : Int32) : ∀ h x, dn_X4_worth v0 v1 v2 v3 h = some x → ∃ fs, zgO 4 v0 h = some fs := fun h x hd => by
  obtain ⟨fs, e, -⟩ := Option.bind_eq_some_iff.mp hd
  exact ⟨fs, e⟩
def dn_X4_runTrial (v0 : Nat) (v1 : Nat) (v2 : Nat) : zAH → Option (Unit × zAH) := fun h => (zgO 4 v0 h).bind fun _ => (zgA 4 5 v0 h).bind fun x1 => (zgA 4 2 v0 h).bind fun x2 => zbd (dn_X1_setOff x1 x2 v1 v2 h) fun x3 h4 => (zgA 4 5 v0 h4).bind fun x5 => (zgA 4 2 v0 h4).bind fun x6 => (zgI 4 7 v0 h4).bind fun x7 => (zgA 4 13 v0 h4).bind fun x8 => zbd (dn_X1_runOut x5 x6 x7 x8 h4) fun x9 h10 => some ((), h10)
theorem ct_X4_runTrial (g : zG) (l : Launch) (v0 : Nat) (v1 : Nat) (v2 : Nat) : zCt g l yX4_runTrial cX4_runTrial 3 none 5 128 zrV [.ref v0, .ref v1, .ref v2] (dn_X4_runTrial v0 v1 v2) := by
  refine zCt_of (lv := [(0, .ref v0), (1, .ref v1), (2, .ref v2)]) (by decide +kernel) (Nat.le_of_ble_eq_true rfl) rfl ?_
  show zSm g l cX4_runTrial 3 RX4 "runTrial" none 5 128 zrV 0 [(0, .ref v0), (1, .ref v1), (2, .ref v2)] [] (dn_X4_runTrial v0 v1 v2)
  unfold dn_X4_runTrial
  refine z_rec ?_
  refine z_aload_n (j := 0) (q := 1) (by decide +kernel) rfl 0 rfl ?_
  refine z_getA (q := 4) zf_RX4_35 (by decide +kernel) rfl fun x1 => ?_
  refine z_aload_n (j := 0) (q := 5) (by decide +kernel) rfl 0 rfl ?_
  refine z_getA (q := 8) zf_RX4_21 (by decide +kernel) rfl fun x2 => ?_
  refine z_aload_n (j := 1) (q := 9) (by decide +kernel) rfl 1 rfl ?_
  refine z_aload_n (j := 2) (q := 10) (by decide +kernel) rfl 2 rfl ?_
  refine z_callVU (As := [.ref x2, .ref v1, .ref v2]) (st := []) (q := 13) (ct_X1_setOff g l x1 x2 v1 v2) zm_RX4_153 (rc_X1_setOff x1 x2 v1 v2) rfl (by decide) (by decide) (Nat.le_of_ble_eq_true rfl) rfl (by decide +kernel) rfl fun x3 => ?_
  refine z_aload_n (j := 0) (q := 14) (by decide +kernel) rfl 0 rfl ?_
  refine z_getA (q := 17) zf_RX4_35 (by decide +kernel) rfl fun x5 => ?_
  refine z_aload_n (j := 0) (q := 18) (by decide +kernel) rfl 0 rfl ?_
  refine z_getA (q := 21) zf_RX4_21 (by decide +kernel) rfl fun x6 => ?_
  refine z_aload_n (j := 0) (q := 22) (by decide +kernel) rfl 0 rfl ?_
  refine z_getI (q := 25) zf_RX4_42 (by decide +kernel) rfl fun x7 => ?_
  refine z_aload_n (j := 0) (q := 26) (by decide +kernel) rfl 0 rfl ?_
  refine z_getA (q := 29) zf_RX4_63 (by decide +kernel) rfl fun x8 => ?_
  refine z_callVU (As := [.ref x6, .int x7, .ref x8]) (st := []) (q := 32) (ct_X1_runOut g l x5 x6 x7 x8) zm_RX4_319 (rc_X1_runOut x5 x6 x7 x8) rfl (by decide) (by decide) (Nat.le_of_ble_eq_true rfl) rfl (by decide +kernel) rfl fun x9 => ?_
  exact z_vret (by decide +kernel)
theorem rc_X4_runTrial (v0 : Nat) (v1 : Nat) (v2 : Nat) : ∀ h x, dn_X4_runTrial v0 v1 v2 h = some x → ∃ fs, zgO 4 v0 h = some fs := fun h x hd => by
  obtain ⟨fs, e, -⟩ := Option.bind_eq_some_iff.mp hd
  exact ⟨fs, e⟩
def jn_X4_start_68 (v2 : Int32) : zAH → Option (Int32 × zAH) := fun h => some (v2, h)
theorem sj_X4_start_68 (g : zG) (l : Launch) (v2 : Int32) : zSm g l cX4_start 3 RX4 "start" (some .int) 6 150 zrI 68 [(2, .int v2)] [] (jn_X4_start_68 v2) := by
  unfold jn_X4_start_68
  refine z_iload_n (j := 2) (q := 69) (by decide +kernel) rfl 0 rfl ?_
  exact z_iret (by decide +kernel)
def jn_X4_start_76 : zAH → Option (Int32 × zAH) := fun h => some ((-9), h)
theorem sj_X4_start_76 (g : zG) (l : Launch) : zSm g l cX4_start 3 RX4 "start" (some .int) 6 150 zrI 76 [] [] (jn_X4_start_76) := by
  unfold jn_X4_start_76
  refine z_bipush (n := (-9)) (v := (-9)) (q := 78) (by decide +kernel) rfl (by decide) ?_
  exact z_iret (by decide +kernel)
def lb_X4_start_29 (v0 : Nat) (v1 : Int32) (rec : (Int32) → zAH → Option (Int32 × zAH)) (s : Int32) : zAH → Option (Int32 × zAH) := fun h => if 9 < s then jn_X4_start_76 h else (zgA 4 14 v0 h).bind fun x1 => (zaS 0 x1 v1 s h).bind fun h2 => (zgA 4 14 v0 h2).bind fun x3 => (zgA 4 2 v0 h2).bind fun x4 => (zgA 0 4 x4 h2).bind fun x5 => zbd (dn_X4_runTrial v0 x3 x5 h2) fun x6 h7 => (zgA 4 5 v0 h7).bind fun x8 => (zgI 1 3 x8 h7).bind fun x9 => if x9 = v1 then rec (s + 1) h7 else jn_X4_start_68 s h7
def lp_X4_start_29 (v0 : Nat) (v1 : Int32) (s : Int32) : zAH → Option (Int32 × zAH) := zlp (lb_X4_start_29 v0 v1) 2000 s
theorem sl_X4_start_29 (g : zG) (l : Launch) (v0 : Nat) (v1 : Int32) (s : Int32) : zSm g l cX4_start 3 RX4 "start" (some .int) 6 150 zrI 29 [(0, .ref v0), (1, .int v1), (2, .int s)] [] (lp_X4_start_29 v0 v1 s) := by
  unfold lp_X4_start_29
  refine z_loop (lvf := fun s => [(0, .ref v0), (1, .int v1), (2, .int s)]) (fun rec hrec s => ?_) 2000 s
  unfold lb_X4_start_29
  refine z_iload_n (j := 2) (q := 30) (by decide +kernel) rfl 2 rfl ?_
  refine z_bipush (n := 9) (v := 9) (q := 32) (by decide +kernel) rfl (by decide) ?_
  refine z_icmp_gt (off := 44) (t := 76) (q := 35) (by decide +kernel) (by decide) rfl ?_ ?_
  · refine zsub [] rfl ?_
    exact sj_X4_start_76 g l 
  · refine z_aload_n (j := 0) (q := 36) (by decide +kernel) rfl 0 rfl ?_
    refine z_getA (q := 39) zf_RX4_66 (by decide +kernel) rfl fun x1 => ?_
    refine z_iload_n (j := 1) (q := 40) (by decide +kernel) rfl 1 rfl ?_
    refine z_iload_n (j := 2) (q := 41) (by decide +kernel) rfl 2 rfl ?_
    refine z_iast (q := 42) (Or.inl ⟨rfl, rfl, rfl⟩) (by decide +kernel) rfl ?_
    refine z_aload_n (j := 0) (q := 43) (by decide +kernel) rfl 0 rfl ?_
    refine z_aload_n (j := 0) (q := 44) (by decide +kernel) rfl 0 rfl ?_
    refine z_getA (q := 47) zf_RX4_66 (by decide +kernel) rfl fun x3 => ?_
    refine z_aload_n (j := 0) (q := 48) (by decide +kernel) rfl 0 rfl ?_
    refine z_getA (q := 51) zf_RX4_21 (by decide +kernel) rfl fun x4 => ?_
    refine z_getA (q := 54) zf_RX4_150 (by decide +kernel) rfl fun x5 => ?_
    refine z_callVU (As := [.ref x3, .ref x5]) (st := []) (q := 57) (ct_X4_runTrial g l v0 x3 x5) zm_RX4_254 (rc_X4_runTrial v0 x3 x5) rfl (by decide) (by decide) (Nat.le_of_ble_eq_true rfl) rfl (by decide +kernel) rfl fun x6 => ?_
    refine z_aload_n (j := 0) (q := 58) (by decide +kernel) rfl 0 rfl ?_
    refine z_getA (q := 61) zf_RX4_35 (by decide +kernel) rfl fun x8 => ?_
    refine z_getI (q := 64) zf_RX4_208 (by decide +kernel) rfl fun x9 => ?_
    refine z_iload_n (j := 1) (q := 65) (by decide +kernel) rfl 1 rfl ?_
    refine z_icmp_eq (off := 5) (t := 70) (q := 68) (by decide +kernel) (by decide) rfl ?_ ?_
    · refine z_iinc (j := 2) (n := 1) (v := 1) (q := 73) (by decide +kernel) rfl 2 rfl (by decide) (by decide) rfl ?_
      refine z_goto (off := (-44)) (t := 29) (by decide +kernel) (by decide) ?_
      refine zsub [1, 2, 0] rfl ?_
      exact hrec (s + 1)
    · refine zsub [2] rfl ?_
      exact sj_X4_start_68 g l s
def dn_X4_start (v0 : Nat) (v1 : Int32) : zAH → Option (Int32 × zAH) := fun h => (zgO 4 v0 h).bind fun _ => zbd (dn_X4_isRunner v0 v1 h) fun x1 h2 => if x1 = 0 then some ((-1), h2) else (zgA 4 2 v0 h2).bind fun x3 => (zgA 0 5 x3 h2).bind fun x4 => (zgA 4 14 v0 h2).bind fun x5 => (zcp x4 0 x5 0 5 h2).bind fun h6 => lp_X4_start_29 v0 v1 0 h6
theorem ct_X4_start (g : zG) (l : Launch) (v0 : Nat) (v1 : Int32) : zCt g l yX4_start cX4_start 3 (some .int) 6 150 zrI [.ref v0, .int v1] (dn_X4_start v0 v1) := by
  refine zCt_of (lv := [(0, .ref v0), (1, .int v1)]) (by decide +kernel) (Nat.le_of_ble_eq_true rfl) rfl ?_
  show zSm g l cX4_start 3 RX4 "start" (some .int) 6 150 zrI 0 [(0, .ref v0), (1, .int v1)] [] (dn_X4_start v0 v1)
  unfold dn_X4_start
  refine z_rec ?_
  refine z_aload_n (j := 0) (q := 1) (by decide +kernel) rfl 0 rfl ?_
  refine z_iload_n (j := 1) (q := 2) (by decide +kernel) rfl 1 rfl ?_
  refine z_callVI (As := [.int v1]) (st := []) (q := 5) (ct_X4_isRunner g l v0 v1) zm_RX4_166 (rc_X4_isRunner v0 v1) rfl (by decide) (by decide) (Nat.le_of_ble_eq_true rfl) rfl (by decide +kernel) rfl fun x1 => ?_
  refine z_if_ne (off := 5) (t := 10) (q := 8) (by decide +kernel) (by decide) rfl ?_ ?_
  · refine z_aload_n (j := 0) (q := 11) (by decide +kernel) rfl 0 rfl ?_
    refine z_getA (q := 14) zf_RX4_21 (by decide +kernel) rfl fun x3 => ?_
    refine z_getA (q := 17) zf_RX4_147 (by decide +kernel) rfl fun x4 => ?_
    refine z_iconst (n := 0) (v := 0) (q := 18) (by decide +kernel) rfl (by decide) ?_
    refine z_aload_n (j := 0) (q := 19) (by decide +kernel) rfl 0 rfl ?_
    refine z_getA (q := 22) zf_RX4_66 (by decide +kernel) rfl fun x5 => ?_
    refine z_iconst (n := 0) (v := 0) (q := 23) (by decide +kernel) rfl (by decide) ?_
    refine z_iconst (n := 5) (v := 5) (q := 24) (by decide +kernel) rfl (by decide) ?_
    refine z_cp (q := 27) zw327 zw329 zw328 zw79 (by decide) (by decide) (by decide +kernel) rfl ?_
    refine z_iconst (n := 0) (v := 0) (q := 28) (by decide +kernel) rfl (by decide) ?_
    refine z_istore_n (j := 2) (q := 29) (by decide +kernel) rfl (by decide) rfl ?_
    refine zsub [1, 2, 0] rfl ?_
    exact sl_X4_start_29 g l v0 v1 0
  · refine z_iconst (n := (-1)) (v := (-1)) (q := 9) (by decide +kernel) rfl (by decide) ?_
    exact z_iret (by decide +kernel)
theorem rc_X4_start (v0 : Nat) (v1 : Int32) : ∀ h x, dn_X4_start v0 v1 h = some x → ∃ fs, zgO 4 v0 h = some fs := fun h x hd => by
  obtain ⟨fs, e, -⟩ := Option.bind_eq_some_iff.mp hd
  exact ⟨fs, e⟩
def jn_X4_fair_129 (kc36 : (Int32 × Int32) → zAH → Option (Int32 × zAH)) (v0 : Nat) (v1 : Int32) (v2 : Int32) (v3 : Int32) (v4 : Int32) (v5 : Int32) : zAH → Option (Int32 × zAH) := fun h => kc36 (v4, v5 + 1) h
theorem sj_X4_fair_129 (g : zG) (l : Launch) (kc36 : (Int32 × Int32) → zAH → Option (Int32 × zAH)) (v0 : Nat) (v1 : Int32) (v2 : Int32) (v3 : Int32) (v4 : Int32) (v5 : Int32) (hkc36 : ∀ s, zSm g l cX4_fair 7 RX4 "fair" (some .int) 6 150 zrI 36 [(0, .ref v0), (1, .int v1), (2, .int v2), (3, .int v3), (4, .int s.1), (5, .int s.2)] [] (kc36 s)) : zSm g l cX4_fair 7 RX4 "fair" (some .int) 6 150 zrI 129 [(0, .ref v0), (1, .int v1), (2, .int v2), (3, .int v3), (4, .int v4), (5, .int v5)] [] (jn_X4_fair_129 kc36 v0 v1 v2 v3 v4 v5) := by
  unfold jn_X4_fair_129
  refine z_iinc (j := 5) (n := 1) (v := 1) (q := 132) (by decide +kernel) rfl 5 rfl (by decide) (by decide) rfl ?_
  refine z_goto (off := (-96)) (t := 36) (by decide +kernel) (by decide) ?_
  refine zsub [1, 2, 3, 4, 5, 0] rfl ?_
  exact hkc36 (v4, v5 + 1)
def jn_X4_fair_80 (kc36 : (Int32 × Int32) → zAH → Option (Int32 × zAH)) (v0 : Nat) (v1 : Int32) (v2 : Int32) (v3 : Int32) (v4 : Int32) (v5 : Int32) : zAH → Option (Int32 × zAH) := fun h => (zgA 4 14 v0 h).bind fun x1 => (zgA 4 2 v0 h).bind fun x2 => (zgA 0 4 x2 h).bind fun x3 => zbd (dn_X4_runTrial v0 x1 x3 h) fun x4 h5 => (zgA 4 5 v0 h5).bind fun x6 => zbd (dn_X1_apart x6 h5) fun x7 h8 => if x7 < v4 then (zgA 4 0 v0 h8).bind fun x9 => (zaR 3 x9 v1 h8).bind fun x10 => (zgA 4 14 v0 h8).bind fun x11 => zbd (dn_X3_fillFrom x10 x11 v2 h8) fun x12 h13 => jn_X4_fair_129 kc36 v0 v1 v2 v3 x7 v5 h13 else jn_X4_fair_129 kc36 v0 v1 v2 v3 v4 v5 h8
theorem sj_X4_fair_80 (g : zG) (l : Launch) (kc36 : (Int32 × Int32) → zAH → Option (Int32 × zAH)) (v0 : Nat) (v1 : Int32) (v2 : Int32) (v3 : Int32) (v4 : Int32) (v5 : Int32) (hkc36 : ∀ s, zSm g l cX4_fair 7 RX4 "fair" (some .int) 6 150 zrI 36 [(0, .ref v0), (1, .int v1), (2, .int v2), (3, .int v3), (4, .int s.1), (5, .int s.2)] [] (kc36 s)) : zSm g l cX4_fair 7 RX4 "fair" (some .int) 6 150 zrI 80 [(0, .ref v0), (1, .int v1), (2, .int v2), (3, .int v3), (4, .int v4), (5, .int v5)] [] (jn_X4_fair_80 kc36 v0 v1 v2 v3 v4 v5) := by
  unfold jn_X4_fair_80
  refine z_aload_n (j := 0) (q := 81) (by decide +kernel) rfl 0 rfl ?_
  refine z_aload_n (j := 0) (q := 82) (by decide +kernel) rfl 0 rfl ?_
  refine z_getA (q := 85) zf_RX4_66 (by decide +kernel) rfl fun x1 => ?_
  refine z_aload_n (j := 0) (q := 86) (by decide +kernel) rfl 0 rfl ?_
  refine z_getA (q := 89) zf_RX4_21 (by decide +kernel) rfl fun x2 => ?_
  refine z_getA (q := 92) zf_RX4_150 (by decide +kernel) rfl fun x3 => ?_
  refine z_callVU (As := [.ref x1, .ref x3]) (st := []) (q := 95) (ct_X4_runTrial g l v0 x1 x3) zm_RX4_254 (rc_X4_runTrial v0 x1 x3) rfl (by decide) (by decide) (Nat.le_of_ble_eq_true rfl) rfl (by decide +kernel) rfl fun x4 => ?_
  refine z_aload_n (j := 0) (q := 96) (by decide +kernel) rfl 0 rfl ?_
  refine z_getA (q := 99) zf_RX4_35 (by decide +kernel) rfl fun x6 => ?_
  refine z_callVI (As := []) (st := []) (q := 102) (ct_X1_apart g l x6) zm_RX4_261 (rc_X1_apart x6) rfl (by decide) (by decide) (Nat.le_of_ble_eq_true rfl) rfl (by decide +kernel) rfl fun x7 => ?_
  refine z_istore (j := 6) (q := 104) (by decide +kernel) rfl (by decide) rfl ?_
  refine z_iload (j := 6) (q := 106) (by decide +kernel) rfl 0 rfl ?_
  refine z_iload (j := 4) (q := 108) (by decide +kernel) rfl 5 rfl ?_
  refine z_icmp_ge (off := 21) (t := 129) (q := 111) (by decide +kernel) (by decide) rfl ?_ ?_
  · refine zsub [1, 2, 3, 4, 5, 6] rfl ?_
    exact sj_X4_fair_129 g l kc36 v0 v1 v2 v3 v4 v5 hkc36
  · refine z_iload (j := 6) (q := 113) (by decide +kernel) rfl 0 rfl ?_
    refine z_istore (j := 4) (q := 115) (by decide +kernel) rfl (by decide) rfl ?_
    refine z_aload_n (j := 0) (q := 116) (by decide +kernel) rfl 2 rfl ?_
    refine z_getA (q := 119) zf_RX4_11 (by decide +kernel) rfl fun x9 => ?_
    refine z_iload_n (j := 1) (q := 120) (by decide +kernel) rfl 3 rfl ?_
    refine z_aald (q := 121) (by decide) (by decide +kernel) rfl fun x10 => ?_
    refine z_aload_n (j := 0) (q := 122) (by decide +kernel) rfl 2 rfl ?_
    refine z_getA (q := 125) zf_RX4_66 (by decide +kernel) rfl fun x11 => ?_
    refine z_iload_n (j := 2) (q := 126) (by decide +kernel) rfl 4 rfl ?_
    refine z_callVU (As := [.ref x11, .int v2]) (st := []) (q := 129) (ct_X3_fillFrom g l x10 x11 v2) zm_RX4_264 (rc_X3_fillFrom x10 x11 v2) rfl (by decide) (by decide) (Nat.le_of_ble_eq_true rfl) rfl (by decide +kernel) rfl fun x12 => ?_
    refine zsub [2, 3, 4, 5, 0, 6] rfl ?_
    exact sj_X4_fair_129 g l kc36 v0 v1 v2 v3 x7 v5 hkc36
def lb_X4_fair_50 (kc36 : (Int32 × Int32) → zAH → Option (Int32 × zAH)) (v0 : Nat) (v1 : Int32) (v2 : Int32) (v3 : Int32) (v4 : Int32) (v5 : Int32) (rec : (Int32) → zAH → Option (Int32 × zAH)) (s : Int32) : zAH → Option (Int32 × zAH) := fun h => if s < v2 then (zgA 4 14 v0 h).bind fun x1 => zbd (dn_X4_figureOf v5 ((v2 - 1) - s) h) fun x2 h3 => (zaS 0 x1 s x2 h3).bind fun h4 => rec (s + 1) h4 else jn_X4_fair_80 kc36 v0 v1 v2 v3 v4 v5 h
def lp_X4_fair_50 (kc36 : (Int32 × Int32) → zAH → Option (Int32 × zAH)) (v0 : Nat) (v1 : Int32) (v2 : Int32) (v3 : Int32) (v4 : Int32) (v5 : Int32) (s : Int32) : zAH → Option (Int32 × zAH) := zlp (lb_X4_fair_50 kc36 v0 v1 v2 v3 v4 v5) 2000 s
theorem sl_X4_fair_50 (g : zG) (l : Launch) (kc36 : (Int32 × Int32) → zAH → Option (Int32 × zAH)) (v0 : Nat) (v1 : Int32) (v2 : Int32) (v3 : Int32) (v4 : Int32) (v5 : Int32) (hkc36 : ∀ s, zSm g l cX4_fair 7 RX4 "fair" (some .int) 6 150 zrI 36 [(0, .ref v0), (1, .int v1), (2, .int v2), (3, .int v3), (4, .int s.1), (5, .int s.2)] [] (kc36 s)) (s : Int32) : zSm g l cX4_fair 7 RX4 "fair" (some .int) 6 150 zrI 50 [(0, .ref v0), (1, .int v1), (2, .int v2), (3, .int v3), (4, .int v4), (5, .int v5), (6, .int s)] [] (lp_X4_fair_50 kc36 v0 v1 v2 v3 v4 v5 s) := by
  unfold lp_X4_fair_50
  refine z_loop (lvf := fun s => [(0, .ref v0), (1, .int v1), (2, .int v2), (3, .int v3), (4, .int v4), (5, .int v5), (6, .int s)]) (fun rec hrec s => ?_) 2000 s
  unfold lb_X4_fair_50
  refine z_iload (j := 6) (q := 52) (by decide +kernel) rfl 6 rfl ?_
  refine z_iload_n (j := 2) (q := 53) (by decide +kernel) rfl 2 rfl ?_
  refine z_icmp_ge (off := 27) (t := 80) (q := 56) (by decide +kernel) (by decide) rfl ?_ ?_
  · refine zsub [0, 1, 2, 3, 4, 5] rfl ?_
    exact sj_X4_fair_80 g l kc36 v0 v1 v2 v3 v4 v5 hkc36
  · refine z_aload_n (j := 0) (q := 57) (by decide +kernel) rfl 0 rfl ?_
    refine z_getA (q := 60) zf_RX4_66 (by decide +kernel) rfl fun x1 => ?_
    refine z_iload (j := 6) (q := 62) (by decide +kernel) rfl 6 rfl ?_
    refine z_iload (j := 5) (q := 64) (by decide +kernel) rfl 5 rfl ?_
    refine z_iload_n (j := 2) (q := 65) (by decide +kernel) rfl 2 rfl ?_
    refine z_iconst (n := 1) (v := 1) (q := 66) (by decide +kernel) rfl (by decide) ?_
    refine z_isub (q := 67) (by decide +kernel) rfl ?_
    refine z_iload (j := 6) (q := 69) (by decide +kernel) rfl 6 rfl ?_
    refine z_isub (q := 70) (by decide +kernel) rfl ?_
    refine z_callSI (As := [.int v5, .int ((v2 - 1) - s)]) (st := [.int s, .ref x1]) (q := 73) (ct_X4_figureOf g l v5 ((v2 - 1) - s)) zm_RX4_258 rfl (by decide) (by decide) (Nat.le_of_ble_eq_true rfl) rfl (by decide +kernel) rfl fun x2 => ?_
    refine z_iast (q := 74) (Or.inl ⟨rfl, rfl, rfl⟩) (by decide +kernel) rfl ?_
    refine z_iinc (j := 6) (n := 1) (v := 1) (q := 77) (by decide +kernel) rfl 6 rfl (by decide) (by decide) rfl ?_
    refine z_goto (off := (-27)) (t := 50) (by decide +kernel) (by decide) ?_
    refine zsub [1, 2, 3, 4, 5, 6, 0] rfl ?_
    exact hrec (s + 1)
def jn_X4_fair_135 (v4 : Int32) : zAH → Option (Int32 × zAH) := fun h => some (v4, h)
theorem sj_X4_fair_135 (g : zG) (l : Launch) (v4 : Int32) : zSm g l cX4_fair 7 RX4 "fair" (some .int) 6 150 zrI 135 [(4, .int v4)] [] (jn_X4_fair_135 v4) := by
  unfold jn_X4_fair_135
  refine z_iload (j := 4) (q := 137) (by decide +kernel) rfl 0 rfl ?_
  exact z_iret (by decide +kernel)
def lb_X4_fair_36 (v0 : Nat) (v1 : Int32) (v2 : Int32) (v3 : Int32) (rec : (Int32 × Int32) → zAH → Option (Int32 × zAH)) (s : Int32 × Int32) : zAH → Option (Int32 × zAH) := fun h => if s.2 < v3 then if 0 < s.1 then lp_X4_fair_50 rec v0 v1 v2 v3 s.1 s.2 0 h else jn_X4_fair_135 s.1 h else jn_X4_fair_135 s.1 h
def lp_X4_fair_36 (v0 : Nat) (v1 : Int32) (v2 : Int32) (v3 : Int32) (s : Int32 × Int32) : zAH → Option (Int32 × zAH) := zlp (lb_X4_fair_36 v0 v1 v2 v3) 2000 s
theorem sl_X4_fair_36 (g : zG) (l : Launch) (v0 : Nat) (v1 : Int32) (v2 : Int32) (v3 : Int32) (s : Int32 × Int32) : zSm g l cX4_fair 7 RX4 "fair" (some .int) 6 150 zrI 36 [(0, .ref v0), (1, .int v1), (2, .int v2), (3, .int v3), (4, .int s.1), (5, .int s.2)] [] (lp_X4_fair_36 v0 v1 v2 v3 s) := by
  unfold lp_X4_fair_36
  refine z_loop (lvf := fun s => [(0, .ref v0), (1, .int v1), (2, .int v2), (3, .int v3), (4, .int s.1), (5, .int s.2)]) (fun rec hrec s => ?_) 2000 s
  unfold lb_X4_fair_36
  refine z_iload (j := 5) (q := 38) (by decide +kernel) rfl 5 rfl ?_
  refine z_iload_n (j := 3) (q := 39) (by decide +kernel) rfl 3 rfl ?_
  refine z_icmp_ge (off := 96) (t := 135) (q := 42) (by decide +kernel) (by decide) rfl ?_ ?_
  · refine zsub [4] rfl ?_
    exact sj_X4_fair_135 g l s.1
  · refine z_iload (j := 4) (q := 44) (by decide +kernel) rfl 4 rfl ?_
    refine z_if_le (off := 91) (t := 135) (q := 47) (by decide +kernel) (by decide) rfl ?_ ?_
    · refine zsub [4] rfl ?_
      exact sj_X4_fair_135 g l s.1
    · refine z_iconst (n := 0) (v := 0) (q := 48) (by decide +kernel) rfl (by decide) ?_
      refine z_istore (j := 6) (q := 50) (by decide +kernel) rfl (by decide) rfl ?_
      refine zsub [1, 2, 3, 4, 5, 6, 0] rfl ?_
      exact sl_X4_fair_50 g l rec v0 v1 v2 v3 s.1 s.2 hrec 0
def dn_X4_fair (v0 : Nat) (v1 : Int32) : zAH → Option (Int32 × zAH) := fun h => (zgO 4 v0 h).bind fun _ => zbd (dn_X4_isRow v1 h) fun x1 h2 => if x1 = 0 then some ((-1), h2) else (zgA 4 2 v0 h2).bind fun x3 => (zgI 0 2 x3 h2).bind fun x4 => if x4 = 0 then some ((-4), h2) else zbd (dn_X4_powerOfFour x4 h2) fun x5 h6 => lp_X4_fair_36 v0 v1 x4 x5 (61, 0) h6
theorem ct_X4_fair (g : zG) (l : Launch) (v0 : Nat) (v1 : Int32) : zCt g l yX4_fair cX4_fair 7 (some .int) 6 150 zrI [.ref v0, .int v1] (dn_X4_fair v0 v1) := by
  refine zCt_of (lv := [(0, .ref v0), (1, .int v1)]) (by decide +kernel) (Nat.le_of_ble_eq_true rfl) rfl ?_
  show zSm g l cX4_fair 7 RX4 "fair" (some .int) 6 150 zrI 0 [(0, .ref v0), (1, .int v1)] [] (dn_X4_fair v0 v1)
  unfold dn_X4_fair
  refine z_rec ?_
  refine z_iload_n (j := 1) (q := 1) (by decide +kernel) rfl 1 rfl ?_
  refine z_callSI (As := [.int v1]) (st := []) (q := 4) (ct_X4_isRow g l v1) zm_RX4_105 rfl (by decide) (by decide) (Nat.le_of_ble_eq_true rfl) rfl (by decide +kernel) rfl fun x1 => ?_
  refine z_if_ne (off := 5) (t := 9) (q := 7) (by decide +kernel) (by decide) rfl ?_ ?_
  · refine z_aload_n (j := 0) (q := 10) (by decide +kernel) rfl 0 rfl ?_
    refine z_getA (q := 13) zf_RX4_21 (by decide +kernel) rfl fun x3 => ?_
    refine z_getI (q := 16) zf_RX4_157 (by decide +kernel) rfl fun x4 => ?_
    refine z_istore_n (j := 2) (q := 17) (by decide +kernel) rfl (by decide) rfl ?_
    refine z_iload_n (j := 2) (q := 18) (by decide +kernel) rfl 0 rfl ?_
    refine z_if_ne (off := 6) (t := 24) (q := 21) (by decide +kernel) (by decide) rfl ?_ ?_
    · refine z_iload_n (j := 2) (q := 25) (by decide +kernel) rfl 0 rfl ?_
      refine z_callSI (As := [.int x4]) (st := []) (q := 28) (ct_X4_powerOfFour g l x4) zm_RX4_231 rfl (by decide) (by decide) (Nat.le_of_ble_eq_true rfl) rfl (by decide +kernel) rfl fun x5 => ?_
      refine z_istore_n (j := 3) (q := 29) (by decide +kernel) rfl (by decide) rfl ?_
      refine z_bipush (n := 61) (v := 61) (q := 31) (by decide +kernel) rfl (by decide) ?_
      refine z_istore (j := 4) (q := 33) (by decide +kernel) rfl (by decide) rfl ?_
      refine z_iconst (n := 0) (v := 0) (q := 34) (by decide +kernel) rfl (by decide) ?_
      refine z_istore (j := 5) (q := 36) (by decide +kernel) rfl (by decide) rfl ?_
      refine zsub [4, 5, 3, 2, 1, 0] rfl ?_
      exact sl_X4_fair_36 g l v0 v1 x4 x5 (61, 0)
    · refine z_bipush (n := (-4)) (v := (-4)) (q := 23) (by decide +kernel) rfl (by decide) ?_
      exact z_iret (by decide +kernel)
  · refine z_iconst (n := (-1)) (v := (-1)) (q := 8) (by decide +kernel) rfl (by decide) ?_
    exact z_iret (by decide +kernel)
theorem rc_X4_fair (v0 : Nat) (v1 : Int32) : ∀ h x, dn_X4_fair v0 v1 h = some x → ∃ fs, zgO 4 v0 h = some fs := fun h x hd => by
  obtain ⟨fs, e, -⟩ := Option.bind_eq_some_iff.mp hd
  exact ⟨fs, e⟩
def jn_X4_notePassers_57 (kc6 : (Int32 × Int32) → zAH → Option (Int32 × zAH)) (v0 : Nat) (v1 : Int32) (v3 : Nat) (v4 : Int32) (v5 : Int32) : zAH → Option (Int32 × zAH) := fun h => kc6 (v4, v5 + 1) h
theorem sj_X4_notePassers_57 (g : zG) (l : Launch) (kc6 : (Int32 × Int32) → zAH → Option (Int32 × zAH)) (v0 : Nat) (v1 : Int32) (v3 : Nat) (v4 : Int32) (v5 : Int32) (hkc6 : ∀ s, zSm g l cX4_notePassers 6 RX4 "notePassers" (some .int) 1 21 zrI 6 [(0, .ref v0), (1, .int v1), (3, .ref v3), (4, .int s.1), (5, .int s.2)] [] (kc6 s)) : zSm g l cX4_notePassers 6 RX4 "notePassers" (some .int) 1 21 zrI 57 [(0, .ref v0), (1, .int v1), (3, .ref v3), (4, .int v4), (5, .int v5)] [] (jn_X4_notePassers_57 kc6 v0 v1 v3 v4 v5) := by
  unfold jn_X4_notePassers_57
  refine z_iinc (j := 5) (n := 1) (v := 1) (q := 60) (by decide +kernel) rfl 4 rfl (by decide) (by decide) rfl ?_
  refine z_goto (off := (-54)) (t := 6) (by decide +kernel) (by decide) ?_
  refine zsub [1, 2, 3, 4, 0] rfl ?_
  exact hkc6 (v4, v5 + 1)
def jn_X4_notePassers_63 (v4 : Int32) : zAH → Option (Int32 × zAH) := fun h => some (v4, h)
theorem sj_X4_notePassers_63 (g : zG) (l : Launch) (v4 : Int32) : zSm g l cX4_notePassers 6 RX4 "notePassers" (some .int) 1 21 zrI 63 [(4, .int v4)] [] (jn_X4_notePassers_63 v4) := by
  unfold jn_X4_notePassers_63
  refine z_iload (j := 4) (q := 65) (by decide +kernel) rfl 0 rfl ?_
  exact z_iret (by decide +kernel)
def lb_X4_notePassers_6 (v0 : Nat) (v1 : Int32) (v3 : Nat) (rec : (Int32 × Int32) → zAH → Option (Int32 × zAH)) (s : Int32 × Int32) : zAH → Option (Int32 × zAH) := fun h => (zgA 4 2 v0 h).bind fun x1 => (zgI 0 2 x1 h).bind fun x2 => if s.2 < x2 then (zgA 4 5 v0 h).bind fun x3 => (zgA 1 6 x3 h).bind fun x4 => (zaI 0 x4 s.2 h).bind fun x5 => if x5 < v1 then jn_X4_notePassers_57 rec v0 v1 v3 s.1 s.2 h else if (s.1 &&& (1 <<< (s.2 &&& 31))) = 0 then zbd (dn_X3_add v3 s.2 h) fun x6 h7 => jn_X4_notePassers_57 rec v0 v1 v3 (s.1 ||| (1 <<< (s.2 &&& 31))) s.2 h7 else jn_X4_notePassers_57 rec v0 v1 v3 s.1 s.2 h else jn_X4_notePassers_63 s.1 h
def lp_X4_notePassers_6 (v0 : Nat) (v1 : Int32) (v3 : Nat) (s : Int32 × Int32) : zAH → Option (Int32 × zAH) := zlp (lb_X4_notePassers_6 v0 v1 v3) 2000 s
theorem sl_X4_notePassers_6 (g : zG) (l : Launch) (v0 : Nat) (v1 : Int32) (v3 : Nat) (s : Int32 × Int32) : zSm g l cX4_notePassers 6 RX4 "notePassers" (some .int) 1 21 zrI 6 [(0, .ref v0), (1, .int v1), (3, .ref v3), (4, .int s.1), (5, .int s.2)] [] (lp_X4_notePassers_6 v0 v1 v3 s) := by
  unfold lp_X4_notePassers_6
  refine z_loop (lvf := fun s => [(0, .ref v0), (1, .int v1), (3, .ref v3), (4, .int s.1), (5, .int s.2)]) (fun rec hrec s => ?_) 2000 s
  unfold lb_X4_notePassers_6
  refine z_iload (j := 5) (q := 8) (by decide +kernel) rfl 4 rfl ?_
  refine z_aload_n (j := 0) (q := 9) (by decide +kernel) rfl 0 rfl ?_
  refine z_getA (q := 12) zf_RX4_21 (by decide +kernel) rfl fun x1 => ?_
  refine z_getI (q := 15) zf_RX4_157 (by decide +kernel) rfl fun x2 => ?_
  refine z_icmp_ge (off := 48) (t := 63) (q := 18) (by decide +kernel) (by decide) rfl ?_ ?_
  · refine zsub [3] rfl ?_
    exact sj_X4_notePassers_63 g l s.1
  · refine z_aload_n (j := 0) (q := 19) (by decide +kernel) rfl 0 rfl ?_
    refine z_getA (q := 22) zf_RX4_35 (by decide +kernel) rfl fun x3 => ?_
    refine z_getA (q := 25) zf_RX4_328 (by decide +kernel) rfl fun x4 => ?_
    refine z_iload (j := 5) (q := 27) (by decide +kernel) rfl 4 rfl ?_
    refine z_iald (q := 28) (Or.inl ⟨rfl, rfl⟩) (by decide +kernel) rfl fun x5 => ?_
    refine z_iload_n (j := 1) (q := 29) (by decide +kernel) rfl 1 rfl ?_
    refine z_icmp_lt (off := 28) (t := 57) (q := 32) (by decide +kernel) (by decide) rfl ?_ ?_
    · refine zsub [0, 1, 2, 3, 4] rfl ?_
      exact sj_X4_notePassers_57 g l rec v0 v1 v3 s.1 s.2 hrec
    · refine z_iload (j := 4) (q := 34) (by decide +kernel) rfl 3 rfl ?_
      refine z_iconst (n := 1) (v := 1) (q := 35) (by decide +kernel) rfl (by decide) ?_
      refine z_iload (j := 5) (q := 37) (by decide +kernel) rfl 4 rfl ?_
      refine z_ishl (q := 38) (by decide +kernel) rfl ?_
      refine z_iand (q := 39) (by decide +kernel) rfl ?_
      refine z_if_ne (off := 18) (t := 57) (q := 42) (by decide +kernel) (by decide) rfl ?_ ?_
      · refine zsub [0, 1, 2, 3, 4] rfl ?_
        exact sj_X4_notePassers_57 g l rec v0 v1 v3 s.1 s.2 hrec
      · refine z_iload (j := 4) (q := 44) (by decide +kernel) rfl 3 rfl ?_
        refine z_iconst (n := 1) (v := 1) (q := 45) (by decide +kernel) rfl (by decide) ?_
        refine z_iload (j := 5) (q := 47) (by decide +kernel) rfl 4 rfl ?_
        refine z_ishl (q := 48) (by decide +kernel) rfl ?_
        refine z_ior (q := 49) (by decide +kernel) rfl ?_
        refine z_istore (j := 4) (q := 51) (by decide +kernel) rfl (by decide) rfl ?_
        refine z_aload_n (j := 3) (q := 52) (by decide +kernel) rfl 3 rfl ?_
        refine z_iload (j := 5) (q := 54) (by decide +kernel) rfl 4 rfl ?_
        refine z_callVU (As := [.int s.2]) (st := []) (q := 57) (ct_X3_add g l v3 s.2) zm_RX4_331 (rc_X3_add v3 s.2) rfl (by decide) (by decide) (Nat.le_of_ble_eq_true rfl) rfl (by decide +kernel) rfl fun x6 => ?_
        refine zsub [1, 2, 3, 0, 4] rfl ?_
        exact sj_X4_notePassers_57 g l rec v0 v1 v3 (s.1 ||| (1 <<< (s.2 &&& 31))) s.2 hrec
def dn_X4_notePassers (v0 : Nat) (v1 : Int32) (v2 : Int32) (v3 : Nat) : zAH → Option (Int32 × zAH) := fun h => (zgO 4 v0 h).bind fun _ => lp_X4_notePassers_6 v0 v1 v3 (v2, 0) h
theorem ct_X4_notePassers (g : zG) (l : Launch) (v0 : Nat) (v1 : Int32) (v2 : Int32) (v3 : Nat) : zCt g l yX4_notePassers cX4_notePassers 6 (some .int) 1 21 zrI [.ref v0, .int v1, .int v2, .ref v3] (dn_X4_notePassers v0 v1 v2 v3) := by
  refine zCt_of (lv := [(0, .ref v0), (1, .int v1), (2, .int v2), (3, .ref v3)]) (by decide +kernel) (Nat.le_of_ble_eq_true rfl) rfl ?_
  show zSm g l cX4_notePassers 6 RX4 "notePassers" (some .int) 1 21 zrI 0 [(0, .ref v0), (1, .int v1), (2, .int v2), (3, .ref v3)] [] (dn_X4_notePassers v0 v1 v2 v3)
  unfold dn_X4_notePassers
  refine z_rec ?_
  refine z_iload_n (j := 2) (q := 1) (by decide +kernel) rfl 2 rfl ?_
  refine z_istore (j := 4) (q := 3) (by decide +kernel) rfl (by decide) rfl ?_
  refine z_iconst (n := 0) (v := 0) (q := 4) (by decide +kernel) rfl (by decide) ?_
  refine z_istore (j := 5) (q := 6) (by decide +kernel) rfl (by decide) rfl ?_
  refine zsub [2, 3, 5, 1, 0] rfl ?_
  exact sl_X4_notePassers_6 g l v0 v1 v3 (v2, 0)
theorem rc_X4_notePassers (v0 : Nat) (v1 : Int32) (v2 : Int32) (v3 : Nat) : ∀ h x, dn_X4_notePassers v0 v1 v2 v3 h = some x → ∃ fs, zgO 4 v0 h = some fs := fun h x hd => by
  obtain ⟨fs, e, -⟩ := Option.bind_eq_some_iff.mp hd
  exact ⟨fs, e⟩
def jn_X4_post_18 : zAH → Option (Int32 × zAH) := fun h => some ((-1), h)
theorem sj_X4_post_18 (g : zG) (l : Launch) : zSm g l cX4_post 5 RX4 "post" (some .int) 4 104 zrI 18 [] [] (jn_X4_post_18) := by
  unfold jn_X4_post_18
  refine z_iconst (n := (-1)) (v := (-1)) (q := 19) (by decide +kernel) rfl (by decide) ?_
  exact z_iret (by decide +kernel)
def jn_X4_post_157 (v0 : Nat) (v2 : Int32) : zAH → Option (Int32 × zAH) := fun h => (zgA 4 0 v0 h).bind fun x1 => (zaR 3 x1 v2 h).bind fun x2 => (zgI 3 1 x2 h).bind fun x3 => some (x3, h)
theorem sj_X4_post_157 (g : zG) (l : Launch) (v0 : Nat) (v2 : Int32) : zSm g l cX4_post 5 RX4 "post" (some .int) 4 104 zrI 157 [(0, .ref v0), (2, .int v2)] [] (jn_X4_post_157 v0 v2) := by
  unfold jn_X4_post_157
  refine z_aload_n (j := 0) (q := 158) (by decide +kernel) rfl 0 rfl ?_
  refine z_getA (q := 161) zf_RX4_11 (by decide +kernel) rfl fun x1 => ?_
  refine z_iload_n (j := 2) (q := 162) (by decide +kernel) rfl 1 rfl ?_
  refine z_aald (q := 163) (by decide) (by decide +kernel) rfl fun x2 => ?_
  refine z_getI (q := 166) zf_RX4_127 (by decide +kernel) rfl fun x3 => ?_
  exact z_iret (by decide +kernel)
def lb_X4_post_102 (v0 : Nat) (v1 : Int32) (v2 : Int32) (rec : (Int32 × Int32) → zAH → Option (Int32 × zAH)) (s : Int32 × Int32) : zAH → Option (Int32 × zAH) := fun h => if s.2 < 60 then (zgA 4 5 v0 h).bind fun x1 => zbd (dn_X1_isOver x1 h) fun x2 h3 => if x2 = 0 then (zgA 4 5 v0 h3).bind fun x4 => (zgA 4 2 v0 h3).bind fun x5 => (zgI 4 7 v0 h3).bind fun x6 => (zgA 4 13 v0 h3).bind fun x7 => zbd (dn_X1_takeStep x4 x5 x6 x7 h3) fun x8 h9 => (zgA 4 0 v0 h9).bind fun x10 => (zaR 3 x10 v2 h9).bind fun x11 => zbd (dn_X4_notePassers v0 v1 s.1 x11 h9) fun x12 h13 => rec (x12, s.2 + 1) h13 else jn_X4_post_157 v0 v2 h3 else jn_X4_post_157 v0 v2 h
def lp_X4_post_102 (v0 : Nat) (v1 : Int32) (v2 : Int32) (s : Int32 × Int32) : zAH → Option (Int32 × zAH) := zlp (lb_X4_post_102 v0 v1 v2) 2000 s
theorem sl_X4_post_102 (g : zG) (l : Launch) (v0 : Nat) (v1 : Int32) (v2 : Int32) (s : Int32 × Int32) : zSm g l cX4_post 5 RX4 "post" (some .int) 4 104 zrI 102 [(0, .ref v0), (1, .int v1), (2, .int v2), (3, .int s.1), (4, .int s.2)] [] (lp_X4_post_102 v0 v1 v2 s) := by
  unfold lp_X4_post_102
  refine z_loop (lvf := fun s => [(0, .ref v0), (1, .int v1), (2, .int v2), (3, .int s.1), (4, .int s.2)]) (fun rec hrec s => ?_) 2000 s
  unfold lb_X4_post_102
  refine z_iload (j := 4) (q := 104) (by decide +kernel) rfl 4 rfl ?_
  refine z_bipush (n := 60) (v := 60) (q := 106) (by decide +kernel) rfl (by decide) ?_
  refine z_icmp_ge (off := 51) (t := 157) (q := 109) (by decide +kernel) (by decide) rfl ?_ ?_
  · refine zsub [0, 2] rfl ?_
    exact sj_X4_post_157 g l v0 v2
  · refine z_aload_n (j := 0) (q := 110) (by decide +kernel) rfl 0 rfl ?_
    refine z_getA (q := 113) zf_RX4_35 (by decide +kernel) rfl fun x1 => ?_
    refine z_callVI (As := []) (st := []) (q := 116) (ct_X1_isOver g l x1) zm_RX4_194 (rc_X1_isOver x1) rfl (by decide) (by decide) (Nat.le_of_ble_eq_true rfl) rfl (by decide +kernel) rfl fun x2 => ?_
    refine z_if_ne (off := 41) (t := 157) (q := 119) (by decide +kernel) (by decide) rfl ?_ ?_
    · refine zsub [0, 2] rfl ?_
      exact sj_X4_post_157 g l v0 v2
    · refine z_aload_n (j := 0) (q := 120) (by decide +kernel) rfl 0 rfl ?_
      refine z_getA (q := 123) zf_RX4_35 (by decide +kernel) rfl fun x4 => ?_
      refine z_aload_n (j := 0) (q := 124) (by decide +kernel) rfl 0 rfl ?_
      refine z_getA (q := 127) zf_RX4_21 (by decide +kernel) rfl fun x5 => ?_
      refine z_aload_n (j := 0) (q := 128) (by decide +kernel) rfl 0 rfl ?_
      refine z_getI (q := 131) zf_RX4_42 (by decide +kernel) rfl fun x6 => ?_
      refine z_aload_n (j := 0) (q := 132) (by decide +kernel) rfl 0 rfl ?_
      refine z_getA (q := 135) zf_RX4_63 (by decide +kernel) rfl fun x7 => ?_
      refine z_callVU (As := [.ref x5, .int x6, .ref x7]) (st := []) (q := 138) (ct_X1_takeStep g l x4 x5 x6 x7) zm_RX4_197 (rc_X1_takeStep x4 x5 x6 x7) rfl (by decide) (by decide) (Nat.le_of_ble_eq_true rfl) rfl (by decide +kernel) rfl fun x8 => ?_
      refine z_aload_n (j := 0) (q := 139) (by decide +kernel) rfl 0 rfl ?_
      refine z_iload_n (j := 1) (q := 140) (by decide +kernel) rfl 1 rfl ?_
      refine z_iload_n (j := 3) (q := 141) (by decide +kernel) rfl 3 rfl ?_
      refine z_aload_n (j := 0) (q := 142) (by decide +kernel) rfl 0 rfl ?_
      refine z_getA (q := 145) zf_RX4_11 (by decide +kernel) rfl fun x10 => ?_
      refine z_iload_n (j := 2) (q := 146) (by decide +kernel) rfl 2 rfl ?_
      refine z_aald (q := 147) (by decide) (by decide +kernel) rfl fun x11 => ?_
      refine z_callVI (As := [.int v1, .int s.1, .ref x11]) (st := []) (q := 150) (ct_X4_notePassers g l v0 v1 s.1 x11) zm_RX4_267 (rc_X4_notePassers v0 v1 s.1 x11) rfl (by decide) (by decide) (Nat.le_of_ble_eq_true rfl) rfl (by decide +kernel) rfl fun x12 => ?_
      refine z_istore_n (j := 3) (q := 151) (by decide +kernel) rfl (by decide) rfl ?_
      refine z_iinc (j := 4) (n := 1) (v := 1) (q := 154) (by decide +kernel) rfl 4 rfl (by decide) (by decide) rfl ?_
      refine z_goto (off := (-52)) (t := 102) (by decide +kernel) (by decide) ?_
      refine zsub [2, 3, 4, 1, 0] rfl ?_
      exact hrec (x12, s.2 + 1)
def dn_X4_post (v0 : Nat) (v1 : Int32) (v2 : Int32) : zAH → Option (Int32 × zAH) := fun h => (zgO 4 v0 h).bind fun _ => if v1 < 1 then jn_X4_post_18 h else if 40 < v1 then jn_X4_post_18 h else zbd (dn_X4_isRow v2 h) fun x1 h2 => if x1 = 0 then jn_X4_post_18 h2 else (zgA 4 2 v0 h2).bind fun x3 => zbd (dn_X0_hasRoad x3 h2) fun x4 h5 => if x4 = 0 then some ((-4), h5) else (zgA 4 2 v0 h5).bind fun x6 => (zgI 0 0 x6 h5).bind fun x7 => if x7 < v1 then zbd (dn_X4_found v0 2 h5) fun x24 h25 => some (x24, h25) else (zgA 4 0 v0 h5).bind fun x8 => (zaR 3 x8 v2 h5).bind fun x9 => zbd (dn_X3_renew x9 0 0 h5) fun x10 h11 => (zgA 4 5 v0 h11).bind fun x12 => (zgA 4 2 v0 h11).bind fun x13 => (zgA 4 2 v0 h11).bind fun x14 => (zgA 0 5 x14 h11).bind fun x15 => (zgA 4 2 v0 h11).bind fun x16 => (zgA 0 4 x16 h11).bind fun x17 => zbd (dn_X1_setOff x12 x13 x15 x17 h11) fun x18 h19 => (zgA 4 0 v0 h19).bind fun x20 => (zaR 3 x20 v2 h19).bind fun x21 => zbd (dn_X4_notePassers v0 v1 0 x21 h19) fun x22 h23 => lp_X4_post_102 v0 v1 v2 (x22, 0) h23
theorem ct_X4_post (g : zG) (l : Launch) (v0 : Nat) (v1 : Int32) (v2 : Int32) : zCt g l yX4_post cX4_post 5 (some .int) 4 104 zrI [.ref v0, .int v1, .int v2] (dn_X4_post v0 v1 v2) := by
  refine zCt_of (lv := [(0, .ref v0), (1, .int v1), (2, .int v2)]) (by decide +kernel) (Nat.le_of_ble_eq_true rfl) rfl ?_
  show zSm g l cX4_post 5 RX4 "post" (some .int) 4 104 zrI 0 [(0, .ref v0), (1, .int v1), (2, .int v2)] [] (dn_X4_post v0 v1 v2)
  unfold dn_X4_post
  refine z_rec ?_
  refine z_iload_n (j := 1) (q := 1) (by decide +kernel) rfl 1 rfl ?_
  refine z_iconst (n := 1) (v := 1) (q := 2) (by decide +kernel) rfl (by decide) ?_
  refine z_icmp_lt (off := 16) (t := 18) (q := 5) (by decide +kernel) (by decide) rfl ?_ ?_
  · refine zsub [] rfl ?_
    exact sj_X4_post_18 g l 
  · refine z_iload_n (j := 1) (q := 6) (by decide +kernel) rfl 1 rfl ?_
    refine z_bipush (n := 40) (v := 40) (q := 8) (by decide +kernel) rfl (by decide) ?_
    refine z_icmp_gt (off := 10) (t := 18) (q := 11) (by decide +kernel) (by decide) rfl ?_ ?_
    · refine zsub [] rfl ?_
      exact sj_X4_post_18 g l 
    · refine z_iload_n (j := 2) (q := 12) (by decide +kernel) rfl 2 rfl ?_
      refine z_callSI (As := [.int v2]) (st := []) (q := 15) (ct_X4_isRow g l v2) zm_RX4_105 rfl (by decide) (by decide) (Nat.le_of_ble_eq_true rfl) rfl (by decide +kernel) rfl fun x1 => ?_
      refine z_if_ne (off := 5) (t := 20) (q := 18) (by decide +kernel) (by decide) rfl ?_ ?_
      · refine z_aload_n (j := 0) (q := 21) (by decide +kernel) rfl 0 rfl ?_
        refine z_getA (q := 24) zf_RX4_21 (by decide +kernel) rfl fun x3 => ?_
        refine z_callVI (As := []) (st := []) (q := 27) (ct_X0_hasRoad g l x3) zm_RX4_191 (rc_X0_hasRoad x3) rfl (by decide) (by decide) (Nat.le_of_ble_eq_true rfl) rfl (by decide +kernel) rfl fun x4 => ?_
        refine z_if_ne (off := 6) (t := 33) (q := 30) (by decide +kernel) (by decide) rfl ?_ ?_
        · refine z_iload_n (j := 1) (q := 34) (by decide +kernel) rfl 1 rfl ?_
          refine z_aload_n (j := 0) (q := 35) (by decide +kernel) rfl 0 rfl ?_
          refine z_getA (q := 38) zf_RX4_21 (by decide +kernel) rfl fun x6 => ?_
          refine z_getI (q := 41) zf_RX4_160 (by decide +kernel) rfl fun x7 => ?_
          refine z_icmp_le (off := 9) (t := 50) (q := 44) (by decide +kernel) (by decide) rfl ?_ ?_
          · refine z_aload_n (j := 0) (q := 51) (by decide +kernel) rfl 0 rfl ?_
            refine z_getA (q := 54) zf_RX4_11 (by decide +kernel) rfl fun x8 => ?_
            refine z_iload_n (j := 2) (q := 55) (by decide +kernel) rfl 2 rfl ?_
            refine z_aald (q := 56) (by decide) (by decide +kernel) rfl fun x9 => ?_
            refine z_iconst (n := 0) (v := 0) (q := 57) (by decide +kernel) rfl (by decide) ?_
            refine z_iconst (n := 0) (v := 0) (q := 58) (by decide +kernel) rfl (by decide) ?_
            refine z_callVU (As := [.int 0, .int 0]) (st := []) (q := 61) (ct_X3_renew g l x9 0 0) zm_RX4_224 (rc_X3_renew x9 0 0) rfl (by decide) (by decide) (Nat.le_of_ble_eq_true rfl) rfl (by decide +kernel) rfl fun x10 => ?_
            refine z_aload_n (j := 0) (q := 62) (by decide +kernel) rfl 0 rfl ?_
            refine z_getA (q := 65) zf_RX4_35 (by decide +kernel) rfl fun x12 => ?_
            refine z_aload_n (j := 0) (q := 66) (by decide +kernel) rfl 0 rfl ?_
            refine z_getA (q := 69) zf_RX4_21 (by decide +kernel) rfl fun x13 => ?_
            refine z_aload_n (j := 0) (q := 70) (by decide +kernel) rfl 0 rfl ?_
            refine z_getA (q := 73) zf_RX4_21 (by decide +kernel) rfl fun x14 => ?_
            refine z_getA (q := 76) zf_RX4_147 (by decide +kernel) rfl fun x15 => ?_
            refine z_aload_n (j := 0) (q := 77) (by decide +kernel) rfl 0 rfl ?_
            refine z_getA (q := 80) zf_RX4_21 (by decide +kernel) rfl fun x16 => ?_
            refine z_getA (q := 83) zf_RX4_150 (by decide +kernel) rfl fun x17 => ?_
            refine z_callVU (As := [.ref x13, .ref x15, .ref x17]) (st := []) (q := 86) (ct_X1_setOff g l x12 x13 x15 x17) zm_RX4_153 (rc_X1_setOff x12 x13 x15 x17) rfl (by decide) (by decide) (Nat.le_of_ble_eq_true rfl) rfl (by decide +kernel) rfl fun x18 => ?_
            refine z_aload_n (j := 0) (q := 87) (by decide +kernel) rfl 0 rfl ?_
            refine z_iload_n (j := 1) (q := 88) (by decide +kernel) rfl 1 rfl ?_
            refine z_iconst (n := 0) (v := 0) (q := 89) (by decide +kernel) rfl (by decide) ?_
            refine z_aload_n (j := 0) (q := 90) (by decide +kernel) rfl 0 rfl ?_
            refine z_getA (q := 93) zf_RX4_11 (by decide +kernel) rfl fun x20 => ?_
            refine z_iload_n (j := 2) (q := 94) (by decide +kernel) rfl 2 rfl ?_
            refine z_aald (q := 95) (by decide) (by decide +kernel) rfl fun x21 => ?_
            refine z_callVI (As := [.int v1, .int 0, .ref x21]) (st := []) (q := 98) (ct_X4_notePassers g l v0 v1 0 x21) zm_RX4_267 (rc_X4_notePassers v0 v1 0 x21) rfl (by decide) (by decide) (Nat.le_of_ble_eq_true rfl) rfl (by decide +kernel) rfl fun x22 => ?_
            refine z_istore_n (j := 3) (q := 99) (by decide +kernel) rfl (by decide) rfl ?_
            refine z_iconst (n := 0) (v := 0) (q := 100) (by decide +kernel) rfl (by decide) ?_
            refine z_istore (j := 4) (q := 102) (by decide +kernel) rfl (by decide) rfl ?_
            refine zsub [2, 3, 4, 1, 0] rfl ?_
            exact sl_X4_post_102 g l v0 v1 v2 (x22, 0)
          · refine z_aload_n (j := 0) (q := 45) (by decide +kernel) rfl 0 rfl ?_
            refine z_iconst (n := 2) (v := 2) (q := 46) (by decide +kernel) rfl (by decide) ?_
            refine z_callVI (As := [.int 2]) (st := []) (q := 49) (ct_X4_found g l v0 2) zm_RX4_109 (rc_X4_found v0 2) rfl (by decide) (by decide) (Nat.le_of_ble_eq_true rfl) rfl (by decide +kernel) rfl fun x24 => ?_
            exact z_iret (by decide +kernel)
        · refine z_bipush (n := (-4)) (v := (-4)) (q := 32) (by decide +kernel) rfl (by decide) ?_
          exact z_iret (by decide +kernel)
      · refine zsub [] rfl ?_
        exact sj_X4_post_18 g l 
theorem rc_X4_post (v0 : Nat) (v1 : Int32) (v2 : Int32) : ∀ h x, dn_X4_post v0 v1 v2 h = some x → ∃ fs, zgO 4 v0 h = some fs := fun h x hd => by
  obtain ⟨fs, e, -⟩ := Option.bind_eq_some_iff.mp hd
  exact ⟨fs, e⟩
def jn_X4_overtakenBetween_61 (kc4 : (Int32 × Int32) → zAH → Option (Int32 × zAH)) (kc17 : (Int32 × Int32) → zAH → Option (Int32 × zAH)) (v0 : Nat) (v1 : Nat) (v2 : Int32) (v3 : Int32) (v4 : Int32) : zAH → Option (Int32 × zAH) := fun h => kc17 (v2, v4 + 1) h
theorem sj_X4_overtakenBetween_61 (g : zG) (l : Launch) (kc4 : (Int32 × Int32) → zAH → Option (Int32 × zAH)) (kc17 : (Int32 × Int32) → zAH → Option (Int32 × zAH)) (v0 : Nat) (v1 : Nat) (v2 : Int32) (v3 : Int32) (v4 : Int32) (hkc4 : ∀ s, zSm g l cX4_overtakenBetween 5 RX4 "overtakenBetween" (some .int) 1 22 zrI 4 [(0, .ref v0), (1, .ref v1), (2, .int s.1), (3, .int s.2)] [] (kc4 s)) (hkc17 : ∀ s, zSm g l cX4_overtakenBetween 5 RX4 "overtakenBetween" (some .int) 1 22 zrI 17 [(0, .ref v0), (1, .ref v1), (2, .int s.1), (3, .int v3), (4, .int s.2)] [] (kc17 s)) : zSm g l cX4_overtakenBetween 5 RX4 "overtakenBetween" (some .int) 1 22 zrI 61 [(0, .ref v0), (1, .ref v1), (2, .int v2), (3, .int v3), (4, .int v4)] [] (jn_X4_overtakenBetween_61 kc4 kc17 v0 v1 v2 v3 v4) := by
  unfold jn_X4_overtakenBetween_61
  refine z_iinc (j := 4) (n := 1) (v := 1) (q := 64) (by decide +kernel) rfl 4 rfl (by decide) (by decide) rfl ?_
  refine z_goto (off := (-47)) (t := 17) (by decide +kernel) (by decide) ?_
  refine zsub [1, 2, 3, 4, 0] rfl ?_
  exact hkc17 (v2, v4 + 1)
def jn_X4_overtakenBetween_67 (kc4 : (Int32 × Int32) → zAH → Option (Int32 × zAH)) (v0 : Nat) (v1 : Nat) (v2 : Int32) (v3 : Int32) : zAH → Option (Int32 × zAH) := fun h => kc4 (v2, v3 + 1) h
theorem sj_X4_overtakenBetween_67 (g : zG) (l : Launch) (kc4 : (Int32 × Int32) → zAH → Option (Int32 × zAH)) (v0 : Nat) (v1 : Nat) (v2 : Int32) (v3 : Int32) (hkc4 : ∀ s, zSm g l cX4_overtakenBetween 5 RX4 "overtakenBetween" (some .int) 1 22 zrI 4 [(0, .ref v0), (1, .ref v1), (2, .int s.1), (3, .int s.2)] [] (kc4 s)) : zSm g l cX4_overtakenBetween 5 RX4 "overtakenBetween" (some .int) 1 22 zrI 67 [(0, .ref v0), (1, .ref v1), (2, .int v2), (3, .int v3)] [] (jn_X4_overtakenBetween_67 kc4 v0 v1 v2 v3) := by
  unfold jn_X4_overtakenBetween_67
  refine z_iinc (j := 3) (n := 1) (v := 1) (q := 70) (by decide +kernel) rfl 3 rfl (by decide) (by decide) rfl ?_
  refine z_goto (off := (-66)) (t := 4) (by decide +kernel) (by decide) ?_
  refine zsub [1, 2, 3, 0] rfl ?_
  exact hkc4 (v2, v3 + 1)
def lb_X4_overtakenBetween_17 (kc4 : (Int32 × Int32) → zAH → Option (Int32 × zAH)) (v0 : Nat) (v1 : Nat) (v3 : Int32) (rec : (Int32 × Int32) → zAH → Option (Int32 × zAH)) (s : Int32 × Int32) : zAH → Option (Int32 × zAH) := fun h => (zgI 3 1 v0 h).bind fun x1 => if s.2 < x1 then (zgA 3 0 v0 h).bind fun x2 => (zaI 0 x2 v3 h).bind fun x3 => zbd (dn_X3_placeOf v1 x3 h) fun x4 h5 => (zgA 3 0 v0 h5).bind fun x6 => (zaI 0 x6 s.2 h5).bind fun x7 => zbd (dn_X3_placeOf v1 x7 h5) fun x8 h9 => if x8 < x4 then (zgA 3 0 v0 h9).bind fun x10 => (zaI 0 x10 v3 h9).bind fun x11 => jn_X4_overtakenBetween_61 kc4 rec v0 v1 (s.1 ||| (1 <<< (x11 &&& 31))) v3 s.2 h9 else jn_X4_overtakenBetween_61 kc4 rec v0 v1 s.1 v3 s.2 h9 else jn_X4_overtakenBetween_67 kc4 v0 v1 s.1 v3 h
def lp_X4_overtakenBetween_17 (kc4 : (Int32 × Int32) → zAH → Option (Int32 × zAH)) (v0 : Nat) (v1 : Nat) (v3 : Int32) (s : Int32 × Int32) : zAH → Option (Int32 × zAH) := zlp (lb_X4_overtakenBetween_17 kc4 v0 v1 v3) 2000 s
theorem sl_X4_overtakenBetween_17 (g : zG) (l : Launch) (kc4 : (Int32 × Int32) → zAH → Option (Int32 × zAH)) (v0 : Nat) (v1 : Nat) (v3 : Int32) (hkc4 : ∀ s, zSm g l cX4_overtakenBetween 5 RX4 "overtakenBetween" (some .int) 1 22 zrI 4 [(0, .ref v0), (1, .ref v1), (2, .int s.1), (3, .int s.2)] [] (kc4 s)) (s : Int32 × Int32) : zSm g l cX4_overtakenBetween 5 RX4 "overtakenBetween" (some .int) 1 22 zrI 17 [(0, .ref v0), (1, .ref v1), (2, .int s.1), (3, .int v3), (4, .int s.2)] [] (lp_X4_overtakenBetween_17 kc4 v0 v1 v3 s) := by
  unfold lp_X4_overtakenBetween_17
  refine z_loop (lvf := fun s => [(0, .ref v0), (1, .ref v1), (2, .int s.1), (3, .int v3), (4, .int s.2)]) (fun rec hrec s => ?_) 2000 s
  unfold lb_X4_overtakenBetween_17
  refine z_iload (j := 4) (q := 19) (by decide +kernel) rfl 4 rfl ?_
  refine z_aload_n (j := 0) (q := 20) (by decide +kernel) rfl 0 rfl ?_
  refine z_getI (q := 23) zf_RX4_127 (by decide +kernel) rfl fun x1 => ?_
  refine z_icmp_ge (off := 44) (t := 67) (q := 26) (by decide +kernel) (by decide) rfl ?_ ?_
  · refine zsub [0, 1, 2, 3] rfl ?_
    exact sj_X4_overtakenBetween_67 g l kc4 v0 v1 s.1 v3 hkc4
  · refine z_aload_n (j := 1) (q := 27) (by decide +kernel) rfl 1 rfl ?_
    refine z_aload_n (j := 0) (q := 28) (by decide +kernel) rfl 0 rfl ?_
    refine z_getA (q := 31) zf_RX4_95 (by decide +kernel) rfl fun x2 => ?_
    refine z_iload_n (j := 3) (q := 32) (by decide +kernel) rfl 3 rfl ?_
    refine z_iald (q := 33) (Or.inl ⟨rfl, rfl⟩) (by decide +kernel) rfl fun x3 => ?_
    refine z_callVI (As := [.int x3]) (st := []) (q := 36) (ct_X3_placeOf g l v1 x3) zm_RX4_334 (rc_X3_placeOf v1 x3) rfl (by decide) (by decide) (Nat.le_of_ble_eq_true rfl) rfl (by decide +kernel) rfl fun x4 => ?_
    refine z_aload_n (j := 1) (q := 37) (by decide +kernel) rfl 1 rfl ?_
    refine z_aload_n (j := 0) (q := 38) (by decide +kernel) rfl 0 rfl ?_
    refine z_getA (q := 41) zf_RX4_95 (by decide +kernel) rfl fun x6 => ?_
    refine z_iload (j := 4) (q := 43) (by decide +kernel) rfl 4 rfl ?_
    refine z_iald (q := 44) (Or.inl ⟨rfl, rfl⟩) (by decide +kernel) rfl fun x7 => ?_
    refine z_callVI (As := [.int x7]) (st := [.int x4]) (q := 47) (ct_X3_placeOf g l v1 x7) zm_RX4_334 (rc_X3_placeOf v1 x7) rfl (by decide) (by decide) (Nat.le_of_ble_eq_true rfl) rfl (by decide +kernel) rfl fun x8 => ?_
    refine z_icmp_le (off := 14) (t := 61) (q := 50) (by decide +kernel) (by decide) rfl ?_ ?_
    · refine zsub [0, 1, 2, 3, 4] rfl ?_
      exact sj_X4_overtakenBetween_61 g l kc4 rec v0 v1 s.1 v3 s.2 hkc4 hrec
    · refine z_iload_n (j := 2) (q := 51) (by decide +kernel) rfl 2 rfl ?_
      refine z_iconst (n := 1) (v := 1) (q := 52) (by decide +kernel) rfl (by decide) ?_
      refine z_aload_n (j := 0) (q := 53) (by decide +kernel) rfl 0 rfl ?_
      refine z_getA (q := 56) zf_RX4_95 (by decide +kernel) rfl fun x10 => ?_
      refine z_iload_n (j := 3) (q := 57) (by decide +kernel) rfl 3 rfl ?_
      refine z_iald (q := 58) (Or.inl ⟨rfl, rfl⟩) (by decide +kernel) rfl fun x11 => ?_
      refine z_ishl (q := 59) (by decide +kernel) rfl ?_
      refine z_ior (q := 60) (by decide +kernel) rfl ?_
      refine z_istore_n (j := 2) (q := 61) (by decide +kernel) rfl (by decide) rfl ?_
      refine zsub [1, 2, 0, 3, 4] rfl ?_
      exact sj_X4_overtakenBetween_61 g l kc4 rec v0 v1 (s.1 ||| (1 <<< (x11 &&& 31))) v3 s.2 hkc4 hrec
def jn_X4_overtakenBetween_73 (v2 : Int32) : zAH → Option (Int32 × zAH) := fun h => some (v2, h)
theorem sj_X4_overtakenBetween_73 (g : zG) (l : Launch) (v2 : Int32) : zSm g l cX4_overtakenBetween 5 RX4 "overtakenBetween" (some .int) 1 22 zrI 73 [(2, .int v2)] [] (jn_X4_overtakenBetween_73 v2) := by
  unfold jn_X4_overtakenBetween_73
  refine z_iload_n (j := 2) (q := 74) (by decide +kernel) rfl 0 rfl ?_
  exact z_iret (by decide +kernel)
def lb_X4_overtakenBetween_4 (v0 : Nat) (v1 : Nat) (rec : (Int32 × Int32) → zAH → Option (Int32 × zAH)) (s : Int32 × Int32) : zAH → Option (Int32 × zAH) := fun h => (zgI 3 1 v0 h).bind fun x1 => if s.2 < x1 then lp_X4_overtakenBetween_17 rec v0 v1 s.2 (s.1, s.2 + 1) h else jn_X4_overtakenBetween_73 s.1 h
def lp_X4_overtakenBetween_4 (v0 : Nat) (v1 : Nat) (s : Int32 × Int32) : zAH → Option (Int32 × zAH) := zlp (lb_X4_overtakenBetween_4 v0 v1) 2000 s
theorem sl_X4_overtakenBetween_4 (g : zG) (l : Launch) (v0 : Nat) (v1 : Nat) (s : Int32 × Int32) : zSm g l cX4_overtakenBetween 5 RX4 "overtakenBetween" (some .int) 1 22 zrI 4 [(0, .ref v0), (1, .ref v1), (2, .int s.1), (3, .int s.2)] [] (lp_X4_overtakenBetween_4 v0 v1 s) := by
  unfold lp_X4_overtakenBetween_4
  refine z_loop (lvf := fun s => [(0, .ref v0), (1, .ref v1), (2, .int s.1), (3, .int s.2)]) (fun rec hrec s => ?_) 2000 s
  unfold lb_X4_overtakenBetween_4
  refine z_iload_n (j := 3) (q := 5) (by decide +kernel) rfl 3 rfl ?_
  refine z_aload_n (j := 0) (q := 6) (by decide +kernel) rfl 0 rfl ?_
  refine z_getI (q := 9) zf_RX4_127 (by decide +kernel) rfl fun x1 => ?_
  refine z_icmp_ge (off := 64) (t := 73) (q := 12) (by decide +kernel) (by decide) rfl ?_ ?_
  · refine zsub [2] rfl ?_
    exact sj_X4_overtakenBetween_73 g l s.1
  · refine z_iload_n (j := 3) (q := 13) (by decide +kernel) rfl 3 rfl ?_
    refine z_iconst (n := 1) (v := 1) (q := 14) (by decide +kernel) rfl (by decide) ?_
    refine z_iadd (q := 15) (by decide +kernel) rfl ?_
    refine z_istore (j := 4) (q := 17) (by decide +kernel) rfl (by decide) rfl ?_
    refine zsub [1, 2, 3, 4, 0] rfl ?_
    exact sl_X4_overtakenBetween_17 g l rec v0 v1 s.2 hrec (s.1, s.2 + 1)
def dn_X4_overtakenBetween (v0 : Nat) (v1 : Nat) : zAH → Option (Int32 × zAH) := fun h => lp_X4_overtakenBetween_4 v0 v1 (0, 0) h
theorem ct_X4_overtakenBetween (g : zG) (l : Launch) (v0 : Nat) (v1 : Nat) : zCt g l yX4_overtakenBetween cX4_overtakenBetween 5 (some .int) 1 22 zrI [.ref v0, .ref v1] (dn_X4_overtakenBetween v0 v1) := by
  refine zCt_of (lv := [(0, .ref v0), (1, .ref v1)]) (by decide +kernel) (Nat.le_of_ble_eq_true rfl) rfl ?_
  show zSm g l cX4_overtakenBetween 5 RX4 "overtakenBetween" (some .int) 1 22 zrI 0 [(0, .ref v0), (1, .ref v1)] [] (dn_X4_overtakenBetween v0 v1)
  unfold dn_X4_overtakenBetween
  refine z_iconst (n := 0) (v := 0) (q := 1) (by decide +kernel) rfl (by decide) ?_
  refine z_istore_n (j := 2) (q := 2) (by decide +kernel) rfl (by decide) rfl ?_
  refine z_iconst (n := 0) (v := 0) (q := 3) (by decide +kernel) rfl (by decide) ?_
  refine z_istore_n (j := 3) (q := 4) (by decide +kernel) rfl (by decide) rfl ?_
  refine zsub [2, 3, 1, 0] rfl ?_
  exact sl_X4_overtakenBetween_4 g l v0 v1 (0, 0)
def jn_X4_could_31 : zAH → Option (Int32 × zAH) := fun h => some ((-1), h)
theorem sj_X4_could_31 (g : zG) (l : Launch) : zSm g l cX4_could 8 RX4 "could" (some .int) 2 46 zrI 31 [] [] (jn_X4_could_31) := by
  unfold jn_X4_could_31
  refine z_iconst (n := (-1)) (v := (-1)) (q := 32) (by decide +kernel) rfl (by decide) ?_
  exact z_iret (by decide +kernel)
def jn_X4_could_65 (v0 : Nat) : zAH → Option (Int32 × zAH) := fun h => zbd (dn_X4_found v0 1 h) fun x1 h2 => some (x1, h2)
theorem sj_X4_could_65 (g : zG) (l : Launch) (v0 : Nat) : zSm g l cX4_could 8 RX4 "could" (some .int) 2 46 zrI 65 [(0, .ref v0)] [] (jn_X4_could_65 v0) := by
  unfold jn_X4_could_65
  refine z_aload_n (j := 0) (q := 66) (by decide +kernel) rfl 0 rfl ?_
  refine z_iconst (n := 1) (v := 1) (q := 67) (by decide +kernel) rfl (by decide) ?_
  refine z_callVI (As := [.int 1]) (st := []) (q := 70) (ct_X4_found g l v0 1) zm_RX4_109 (rc_X4_found v0 1) rfl (by decide) (by decide) (Nat.le_of_ble_eq_true rfl) rfl (by decide +kernel) rfl fun x1 => ?_
  exact z_iret (by decide +kernel)
def jn_X4_could_128 (v0 : Nat) : zAH → Option (Int32 × zAH) := fun h => zbd (dn_X4_found v0 3 h) fun x1 h2 => some (x1, h2)
theorem sj_X4_could_128 (g : zG) (l : Launch) (v0 : Nat) : zSm g l cX4_could 8 RX4 "could" (some .int) 2 46 zrI 128 [(0, .ref v0)] [] (jn_X4_could_128 v0) := by
  unfold jn_X4_could_128
  refine z_aload_n (j := 0) (q := 129) (by decide +kernel) rfl 0 rfl ?_
  refine z_iconst (n := 3) (v := 3) (q := 130) (by decide +kernel) rfl (by decide) ?_
  refine z_callVI (As := [.int 3]) (st := []) (q := 133) (ct_X4_found g l v0 3) zm_RX4_109 (rc_X4_found v0 3) rfl (by decide) (by decide) (Nat.le_of_ble_eq_true rfl) rfl (by decide +kernel) rfl fun x1 => ?_
  exact z_iret (by decide +kernel)
def jn_X4_could_154 (w0 : Int32) : zAH → Option (Int32 × zAH) := fun h => some (w0, h)
theorem sj_X4_could_154 (g : zG) (l : Launch) (w0 : Int32) : zSm g l cX4_could 8 RX4 "could" (some .int) 2 46 zrI 154 [] [.int w0] (jn_X4_could_154 w0) := by
  unfold jn_X4_could_154
  exact z_iret (by decide +kernel)
def dn_X4_could (v0 : Nat) (v1 : Int32) (v2 : Int32) (v3 : Int32) : zAH → Option (Int32 × zAH) := fun h => (zgO 4 v0 h).bind fun _ => zbd (dn_X4_isRow v1 h) fun x1 h2 => if x1 = 0 then jn_X4_could_31 h2 else zbd (dn_X4_isRow v2 h2) fun x3 h4 => if x3 = 0 then jn_X4_could_31 h4 else if v3 < 0 then jn_X4_could_31 h4 else (zgA 4 2 v0 h4).bind fun x5 => (zgI 0 2 x5 h4).bind fun x6 => if v3 < (1 <<< (x6 &&& 31)) then (zgA 4 0 v0 h4).bind fun x7 => (zaR 3 x7 v1 h4).bind fun x8 => (zgA 4 0 v0 h4).bind fun x9 => (zaR 3 x9 v2 h4).bind fun x10 => zbd (dn_X3_isMissing x8 h4) fun x11 h12 => if x11 = 0 then zbd (dn_X3_isMissing x10 h12) fun x13 h14 => if x13 = 0 then (zgI 3 1 x8 h14).bind fun x15 => (zgI 3 1 x10 h14).bind fun x16 => if x15 = x16 then (zgA 4 2 v0 h14).bind fun x17 => (zgI 0 2 x17 h14).bind fun x18 => zbd (dn_X3_runnersIn x8 x18 h14) fun x19 h20 => if x19 = ((-9)) then jn_X4_could_128 v0 h20 else (zgA 4 2 v0 h20).bind fun x21 => (zgI 0 2 x21 h20).bind fun x22 => zbd (dn_X3_runnersIn x10 x22 h20) fun x23 h24 => if x19 = x23 then zbd (dn_X4_overtakenBetween x8 x10 h24) fun x25 h26 => if x25 = 0 then jn_X4_could_154 v3 h26 else jn_X4_could_154 x25 h26 else jn_X4_could_128 v0 h24 else zbd (dn_X4_found v0 5 h14) fun x27 h28 => some (x27, h28) else jn_X4_could_65 v0 h14 else jn_X4_could_65 v0 h12 else jn_X4_could_31 h4
theorem ct_X4_could (g : zG) (l : Launch) (v0 : Nat) (v1 : Int32) (v2 : Int32) (v3 : Int32) : zCt g l yX4_could cX4_could 8 (some .int) 2 46 zrI [.ref v0, .int v1, .int v2, .int v3] (dn_X4_could v0 v1 v2 v3) := by
  refine zCt_of (lv := [(0, .ref v0), (1, .int v1), (2, .int v2), (3, .int v3)]) (by decide +kernel) (Nat.le_of_ble_eq_true rfl) rfl ?_
  show zSm g l cX4_could 8 RX4 "could" (some .int) 2 46 zrI 0 [(0, .ref v0), (1, .int v1), (2, .int v2), (3, .int v3)] [] (dn_X4_could v0 v1 v2 v3)
  unfold dn_X4_could
  refine z_rec ?_
  refine z_iload_n (j := 1) (q := 1) (by decide +kernel) rfl 1 rfl ?_
  refine z_callSI (As := [.int v1]) (st := []) (q := 4) (ct_X4_isRow g l v1) zm_RX4_105 rfl (by decide) (by decide) (Nat.le_of_ble_eq_true rfl) rfl (by decide +kernel) rfl fun x1 => ?_
  refine z_if_eq (off := 27) (t := 31) (q := 7) (by decide +kernel) (by decide) rfl ?_ ?_
  · refine zsub [] rfl ?_
    exact sj_X4_could_31 g l 
  · refine z_iload_n (j := 2) (q := 8) (by decide +kernel) rfl 2 rfl ?_
    refine z_callSI (As := [.int v2]) (st := []) (q := 11) (ct_X4_isRow g l v2) zm_RX4_105 rfl (by decide) (by decide) (Nat.le_of_ble_eq_true rfl) rfl (by decide +kernel) rfl fun x3 => ?_
    refine z_if_eq (off := 20) (t := 31) (q := 14) (by decide +kernel) (by decide) rfl ?_ ?_
    · refine zsub [] rfl ?_
      exact sj_X4_could_31 g l 
    · refine z_iload_n (j := 3) (q := 15) (by decide +kernel) rfl 3 rfl ?_
      refine z_if_lt (off := 16) (t := 31) (q := 18) (by decide +kernel) (by decide) rfl ?_ ?_
      · refine zsub [] rfl ?_
        exact sj_X4_could_31 g l 
      · refine z_iload_n (j := 3) (q := 19) (by decide +kernel) rfl 3 rfl ?_
        refine z_iconst (n := 1) (v := 1) (q := 20) (by decide +kernel) rfl (by decide) ?_
        refine z_aload_n (j := 0) (q := 21) (by decide +kernel) rfl 0 rfl ?_
        refine z_getA (q := 24) zf_RX4_21 (by decide +kernel) rfl fun x5 => ?_
        refine z_getI (q := 27) zf_RX4_157 (by decide +kernel) rfl fun x6 => ?_
        refine z_ishl (q := 28) (by decide +kernel) rfl ?_
        refine z_icmp_lt (off := 5) (t := 33) (q := 31) (by decide +kernel) (by decide) rfl ?_ ?_
        · refine z_aload_n (j := 0) (q := 34) (by decide +kernel) rfl 0 rfl ?_
          refine z_getA (q := 37) zf_RX4_11 (by decide +kernel) rfl fun x7 => ?_
          refine z_iload_n (j := 1) (q := 38) (by decide +kernel) rfl 1 rfl ?_
          refine z_aald (q := 39) (by decide) (by decide +kernel) rfl fun x8 => ?_
          refine z_astore (j := 4) (q := 41) (by decide +kernel) rfl (by decide) rfl ?_
          refine z_aload_n (j := 0) (q := 42) (by decide +kernel) rfl 1 rfl ?_
          refine z_getA (q := 45) zf_RX4_11 (by decide +kernel) rfl fun x9 => ?_
          refine z_iload_n (j := 2) (q := 46) (by decide +kernel) rfl 3 rfl ?_
          refine z_aald (q := 47) (by decide) (by decide +kernel) rfl fun x10 => ?_
          refine z_astore (j := 5) (q := 49) (by decide +kernel) rfl (by decide) rfl ?_
          refine z_aload (j := 4) (q := 51) (by decide +kernel) rfl 1 rfl ?_
          refine z_callVI (As := []) (st := []) (q := 54) (ct_X3_isMissing g l x8) zm_RX4_113 (rc_X3_isMissing x8) rfl (by decide) (by decide) (Nat.le_of_ble_eq_true rfl) rfl (by decide +kernel) rfl fun x11 => ?_
          refine z_if_ne (off := 11) (t := 65) (q := 57) (by decide +kernel) (by decide) rfl ?_ ?_
          · refine zsub [2] rfl ?_
            exact sj_X4_could_65 g l v0
          · refine z_aload (j := 5) (q := 59) (by decide +kernel) rfl 0 rfl ?_
            refine z_callVI (As := []) (st := []) (q := 62) (ct_X3_isMissing g l x10) zm_RX4_113 (rc_X3_isMissing x10) rfl (by decide) (by decide) (Nat.le_of_ble_eq_true rfl) rfl (by decide +kernel) rfl fun x13 => ?_
            refine z_if_eq (off := 9) (t := 71) (q := 65) (by decide +kernel) (by decide) rfl ?_ ?_
            · refine z_aload (j := 4) (q := 73) (by decide +kernel) rfl 1 rfl ?_
              refine z_getI (q := 76) zf_RX4_127 (by decide +kernel) rfl fun x15 => ?_
              refine z_aload (j := 5) (q := 78) (by decide +kernel) rfl 0 rfl ?_
              refine z_getI (q := 81) zf_RX4_127 (by decide +kernel) rfl fun x16 => ?_
              refine z_icmp_eq (off := 9) (t := 90) (q := 84) (by decide +kernel) (by decide) rfl ?_ ?_
              · refine z_aload (j := 4) (q := 92) (by decide +kernel) rfl 1 rfl ?_
                refine z_aload_n (j := 0) (q := 93) (by decide +kernel) rfl 2 rfl ?_
                refine z_getA (q := 96) zf_RX4_21 (by decide +kernel) rfl fun x17 => ?_
                refine z_getI (q := 99) zf_RX4_157 (by decide +kernel) rfl fun x18 => ?_
                refine z_callVI (As := [.int x18]) (st := []) (q := 102) (ct_X3_runnersIn g l x8 x18) zm_RX4_271 (rc_X3_runnersIn x8 x18) rfl (by decide) (by decide) (Nat.le_of_ble_eq_true rfl) rfl (by decide +kernel) rfl fun x19 => ?_
                refine z_istore (j := 6) (q := 104) (by decide +kernel) rfl (by decide) rfl ?_
                refine z_iload (j := 6) (q := 106) (by decide +kernel) rfl 0 rfl ?_
                refine z_bipush (n := (-9)) (v := (-9)) (q := 108) (by decide +kernel) rfl (by decide) ?_
                refine z_icmp_eq (off := 20) (t := 128) (q := 111) (by decide +kernel) (by decide) rfl ?_ ?_
                · refine zsub [3] rfl ?_
                  exact sj_X4_could_128 g l v0
                · refine z_iload (j := 6) (q := 113) (by decide +kernel) rfl 0 rfl ?_
                  refine z_aload (j := 5) (q := 115) (by decide +kernel) rfl 1 rfl ?_
                  refine z_aload_n (j := 0) (q := 116) (by decide +kernel) rfl 3 rfl ?_
                  refine z_getA (q := 119) zf_RX4_21 (by decide +kernel) rfl fun x21 => ?_
                  refine z_getI (q := 122) zf_RX4_157 (by decide +kernel) rfl fun x22 => ?_
                  refine z_callVI (As := [.int x22]) (st := [.int x19]) (q := 125) (ct_X3_runnersIn g l x10 x22) zm_RX4_271 (rc_X3_runnersIn x10 x22) rfl (by decide) (by decide) (Nat.le_of_ble_eq_true rfl) rfl (by decide +kernel) rfl fun x23 => ?_
                  refine z_icmp_eq (off := 9) (t := 134) (q := 128) (by decide +kernel) (by decide) rfl ?_ ?_
                  · refine z_aload (j := 4) (q := 136) (by decide +kernel) rfl 2 rfl ?_
                    refine z_aload (j := 5) (q := 138) (by decide +kernel) rfl 1 rfl ?_
                    refine z_callSI (As := [.ref x8, .ref x10]) (st := []) (q := 141) (ct_X4_overtakenBetween g l x8 x10) zm_RX4_274 rfl (by decide) (by decide) (Nat.le_of_ble_eq_true rfl) rfl (by decide +kernel) rfl fun x25 => ?_
                    refine z_istore (j := 7) (q := 143) (by decide +kernel) rfl (by decide) rfl ?_
                    refine z_iload (j := 7) (q := 145) (by decide +kernel) rfl 0 rfl ?_
                    refine z_if_ne (off := 7) (t := 152) (q := 148) (by decide +kernel) (by decide) rfl ?_ ?_
                    · refine z_iload (j := 7) (q := 154) (by decide +kernel) rfl 0 rfl ?_
                      refine zsub [] rfl ?_
                      exact sj_X4_could_154 g l x25
                    · refine z_iload_n (j := 3) (q := 149) (by decide +kernel) rfl 7 rfl ?_
                      refine z_goto (off := 5) (t := 154) (by decide +kernel) (by decide) ?_
                      refine zsub [] rfl ?_
                      exact sj_X4_could_154 g l v3
                  · refine zsub [3] rfl ?_
                    exact sj_X4_could_128 g l v0
              · refine z_aload_n (j := 0) (q := 85) (by decide +kernel) rfl 2 rfl ?_
                refine z_iconst (n := 5) (v := 5) (q := 86) (by decide +kernel) rfl (by decide) ?_
                refine z_callVI (As := [.int 5]) (st := []) (q := 89) (ct_X4_found g l v0 5) zm_RX4_109 (rc_X4_found v0 5) rfl (by decide) (by decide) (Nat.le_of_ble_eq_true rfl) rfl (by decide +kernel) rfl fun x27 => ?_
                exact z_iret (by decide +kernel)
            · refine zsub [2] rfl ?_
              exact sj_X4_could_65 g l v0
        · refine zsub [] rfl ?_
          exact sj_X4_could_31 g l 
theorem rc_X4_could (v0 : Nat) (v1 : Int32) (v2 : Int32) (v3 : Int32) : ∀ h x, dn_X4_could v0 v1 v2 v3 h = some x → ∃ fs, zgO 4 v0 h = some fs := fun h x hd => by
  obtain ⟨fs, e, -⟩ := Option.bind_eq_some_iff.mp hd
  exact ⟨fs, e⟩
def dn_X4_breathByLot (v0 : Nat) (v1 : Int32) (v2 : Int32) : zAH → Option (Int32 × zAH) := fun h => (zgO 4 v0 h).bind fun _ => (zgA 4 2 v0 h).bind fun x1 => (zgA 0 4 x1 h).bind fun x2 => (zaI 0 x2 v1 h).bind fun x3 => some (zmx 1 ((x3 + v2) - 1), h)
theorem ct_X4_breathByLot (g : zG) (l : Launch) (v0 : Nat) (v1 : Int32) (v2 : Int32) : zCt g l yX4_breathByLot cX4_breathByLot 3 (some .int) 1 21 zrI [.ref v0, .int v1, .int v2] (dn_X4_breathByLot v0 v1 v2) := by
  refine zCt_of (lv := [(0, .ref v0), (1, .int v1), (2, .int v2)]) (by decide +kernel) (Nat.le_of_ble_eq_true rfl) rfl ?_
  show zSm g l cX4_breathByLot 3 RX4 "breathByLot" (some .int) 1 21 zrI 0 [(0, .ref v0), (1, .int v1), (2, .int v2)] [] (dn_X4_breathByLot v0 v1 v2)
  unfold dn_X4_breathByLot
  refine z_rec ?_
  refine z_iconst (n := 1) (v := 1) (q := 1) (by decide +kernel) rfl (by decide) ?_
  refine z_aload_n (j := 0) (q := 2) (by decide +kernel) rfl 0 rfl ?_
  refine z_getA (q := 5) zf_RX4_21 (by decide +kernel) rfl fun x1 => ?_
  refine z_getA (q := 8) zf_RX4_150 (by decide +kernel) rfl fun x2 => ?_
  refine z_iload_n (j := 1) (q := 9) (by decide +kernel) rfl 1 rfl ?_
  refine z_iald (q := 10) (Or.inl ⟨rfl, rfl⟩) (by decide +kernel) rfl fun x3 => ?_
  refine z_iload_n (j := 2) (q := 11) (by decide +kernel) rfl 2 rfl ?_
  refine z_iadd (q := 12) (by decide +kernel) rfl ?_
  refine z_iconst (n := 1) (v := 1) (q := 13) (by decide +kernel) rfl (by decide) ?_
  refine z_isub (q := 14) (by decide +kernel) rfl ?_
  refine z_mmax (st := []) (q := 17) zw697 zw654 zw81 zw655 (by decide) (by decide) (Nat.le_of_ble_eq_true rfl) (by decide +kernel) rfl ?_
  exact z_iret (by decide +kernel)
theorem rc_X4_breathByLot (v0 : Nat) (v1 : Int32) (v2 : Int32) : ∀ h x, dn_X4_breathByLot v0 v1 v2 h = some x → ∃ fs, zgO 4 v0 h = some fs := fun h x hd => by
  obtain ⟨fs, e, -⟩ := Option.bind_eq_some_iff.mp hd
  exact ⟨fs, e⟩
def jn_X4_odds_123 (kc40 : (Int32 × Int32) → zAH → Option (Int32 × zAH)) (v0 : Nat) (v1 : Int32) (v2 : Int32) (v3 : Int32) (v4 : Int32) : zAH → Option (Int32 × zAH) := fun h => kc40 (v3, v4 + 1) h
theorem sj_X4_odds_123 (g : zG) (l : Launch) (kc40 : (Int32 × Int32) → zAH → Option (Int32 × zAH)) (v0 : Nat) (v1 : Int32) (v2 : Int32) (v3 : Int32) (v4 : Int32) (hkc40 : ∀ s, zSm g l cX4_odds 7 RX4 "odds" (some .int) 6 150 zrI 40 [(0, .ref v0), (1, .int v1), (2, .int v2), (3, .int s.1), (4, .int s.2)] [] (kc40 s)) : zSm g l cX4_odds 7 RX4 "odds" (some .int) 6 150 zrI 123 [(0, .ref v0), (1, .int v1), (2, .int v2), (3, .int v3), (4, .int v4)] [] (jn_X4_odds_123 kc40 v0 v1 v2 v3 v4) := by
  unfold jn_X4_odds_123
  refine z_iinc (j := 4) (n := 1) (v := 1) (q := 126) (by decide +kernel) rfl 4 rfl (by decide) (by decide) rfl ?_
  refine z_goto (off := (-86)) (t := 40) (by decide +kernel) (by decide) ?_
  refine zsub [1, 2, 3, 4, 0] rfl ?_
  exact hkc40 (v3, v4 + 1)
def jn_X4_odds_94 (kc40 : (Int32 × Int32) → zAH → Option (Int32 × zAH)) (v0 : Nat) (v1 : Int32) (v2 : Int32) (v3 : Int32) (v4 : Int32) : zAH → Option (Int32 × zAH) := fun h => (zgA 4 2 v0 h).bind fun x1 => (zgA 0 5 x1 h).bind fun x2 => (zgA 4 15 v0 h).bind fun x3 => zbd (dn_X4_runTrial v0 x2 x3 h) fun x4 h5 => (zgA 4 5 v0 h5).bind fun x6 => (zgI 1 3 x6 h5).bind fun x7 => if x7 = v1 then jn_X4_odds_123 kc40 v0 v1 v2 (v3 + 1) v4 h5 else jn_X4_odds_123 kc40 v0 v1 v2 v3 v4 h5
theorem sj_X4_odds_94 (g : zG) (l : Launch) (kc40 : (Int32 × Int32) → zAH → Option (Int32 × zAH)) (v0 : Nat) (v1 : Int32) (v2 : Int32) (v3 : Int32) (v4 : Int32) (hkc40 : ∀ s, zSm g l cX4_odds 7 RX4 "odds" (some .int) 6 150 zrI 40 [(0, .ref v0), (1, .int v1), (2, .int v2), (3, .int s.1), (4, .int s.2)] [] (kc40 s)) : zSm g l cX4_odds 7 RX4 "odds" (some .int) 6 150 zrI 94 [(0, .ref v0), (1, .int v1), (2, .int v2), (3, .int v3), (4, .int v4)] [] (jn_X4_odds_94 kc40 v0 v1 v2 v3 v4) := by
  unfold jn_X4_odds_94
  refine z_aload_n (j := 0) (q := 95) (by decide +kernel) rfl 0 rfl ?_
  refine z_aload_n (j := 0) (q := 96) (by decide +kernel) rfl 0 rfl ?_
  refine z_getA (q := 99) zf_RX4_21 (by decide +kernel) rfl fun x1 => ?_
  refine z_getA (q := 102) zf_RX4_147 (by decide +kernel) rfl fun x2 => ?_
  refine z_aload_n (j := 0) (q := 103) (by decide +kernel) rfl 0 rfl ?_
  refine z_getA (q := 106) zf_RX4_69 (by decide +kernel) rfl fun x3 => ?_
  refine z_callVU (As := [.ref x2, .ref x3]) (st := []) (q := 109) (ct_X4_runTrial g l v0 x2 x3) zm_RX4_254 (rc_X4_runTrial v0 x2 x3) rfl (by decide) (by decide) (Nat.le_of_ble_eq_true rfl) rfl (by decide +kernel) rfl fun x4 => ?_
  refine z_aload_n (j := 0) (q := 110) (by decide +kernel) rfl 0 rfl ?_
  refine z_getA (q := 113) zf_RX4_35 (by decide +kernel) rfl fun x6 => ?_
  refine z_getI (q := 116) zf_RX4_208 (by decide +kernel) rfl fun x7 => ?_
  refine z_iload_n (j := 1) (q := 117) (by decide +kernel) rfl 1 rfl ?_
  refine z_icmp_ne (off := 6) (t := 123) (q := 120) (by decide +kernel) (by decide) rfl ?_ ?_
  · refine zsub [0, 1, 2, 3, 4] rfl ?_
    exact sj_X4_odds_123 g l kc40 v0 v1 v2 v3 v4 hkc40
  · refine z_iinc (j := 3) (n := 1) (v := 1) (q := 123) (by decide +kernel) rfl 3 rfl (by decide) (by decide) rfl ?_
    refine zsub [1, 2, 3, 0, 4] rfl ?_
    exact sj_X4_odds_123 g l kc40 v0 v1 v2 (v3 + 1) v4 hkc40
def lb_X4_odds_53 (kc40 : (Int32 × Int32) → zAH → Option (Int32 × zAH)) (v0 : Nat) (v1 : Int32) (v2 : Int32) (v3 : Int32) (v4 : Int32) (rec : (Int32 × Int32) → zAH → Option (Int32 × zAH)) (s : Int32 × Int32) : zAH → Option (Int32 × zAH) := fun h => (zgA 4 2 v0 h).bind fun x1 => (zgI 0 2 x1 h).bind fun x2 => if s.2 < x2 then (zgA 4 15 v0 h).bind fun x3 => if 3 = 0 then none else zbd (dn_X4_breathByLot v0 s.2 (s.1 % 3) h) fun x4 h5 => (zaS 0 x3 s.2 x4 h5).bind fun h6 => if 3 = 0 then none else rec (s.1 / 3, s.2 + 1) h6 else jn_X4_odds_94 kc40 v0 v1 v2 v3 v4 h
def lp_X4_odds_53 (kc40 : (Int32 × Int32) → zAH → Option (Int32 × zAH)) (v0 : Nat) (v1 : Int32) (v2 : Int32) (v3 : Int32) (v4 : Int32) (s : Int32 × Int32) : zAH → Option (Int32 × zAH) := zlp (lb_X4_odds_53 kc40 v0 v1 v2 v3 v4) 2000 s
theorem sl_X4_odds_53 (g : zG) (l : Launch) (kc40 : (Int32 × Int32) → zAH → Option (Int32 × zAH)) (v0 : Nat) (v1 : Int32) (v2 : Int32) (v3 : Int32) (v4 : Int32) (hkc40 : ∀ s, zSm g l cX4_odds 7 RX4 "odds" (some .int) 6 150 zrI 40 [(0, .ref v0), (1, .int v1), (2, .int v2), (3, .int s.1), (4, .int s.2)] [] (kc40 s)) (s : Int32 × Int32) : zSm g l cX4_odds 7 RX4 "odds" (some .int) 6 150 zrI 53 [(0, .ref v0), (1, .int v1), (2, .int v2), (3, .int v3), (4, .int v4), (5, .int s.1), (6, .int s.2)] [] (lp_X4_odds_53 kc40 v0 v1 v2 v3 v4 s) := by
  unfold lp_X4_odds_53
  refine z_loop (lvf := fun s => [(0, .ref v0), (1, .int v1), (2, .int v2), (3, .int v3), (4, .int v4), (5, .int s.1), (6, .int s.2)]) (fun rec hrec s => ?_) 2000 s
  unfold lb_X4_odds_53
  refine z_iload (j := 6) (q := 55) (by decide +kernel) rfl 6 rfl ?_
  refine z_aload_n (j := 0) (q := 56) (by decide +kernel) rfl 0 rfl ?_
  refine z_getA (q := 59) zf_RX4_21 (by decide +kernel) rfl fun x1 => ?_
  refine z_getI (q := 62) zf_RX4_157 (by decide +kernel) rfl fun x2 => ?_
  refine z_icmp_ge (off := 32) (t := 94) (q := 65) (by decide +kernel) (by decide) rfl ?_ ?_
  · refine zsub [0, 1, 2, 3, 4] rfl ?_
    exact sj_X4_odds_94 g l kc40 v0 v1 v2 v3 v4 hkc40
  · refine z_aload_n (j := 0) (q := 66) (by decide +kernel) rfl 0 rfl ?_
    refine z_getA (q := 69) zf_RX4_69 (by decide +kernel) rfl fun x3 => ?_
    refine z_iload (j := 6) (q := 71) (by decide +kernel) rfl 6 rfl ?_
    refine z_aload_n (j := 0) (q := 72) (by decide +kernel) rfl 0 rfl ?_
    refine z_iload (j := 6) (q := 74) (by decide +kernel) rfl 6 rfl ?_
    refine z_iload (j := 5) (q := 76) (by decide +kernel) rfl 5 rfl ?_
    refine z_iconst (n := 3) (v := 3) (q := 77) (by decide +kernel) rfl (by decide) ?_
    refine z_irem (q := 78) (by decide +kernel) rfl ?_
    refine z_callVI (As := [.int s.2, .int (s.1 % 3)]) (st := [.int s.2, .ref x3]) (q := 81) (ct_X4_breathByLot g l v0 s.2 (s.1 % 3)) zm_RX4_278 (rc_X4_breathByLot v0 s.2 (s.1 % 3)) rfl (by decide) (by decide) (Nat.le_of_ble_eq_true rfl) rfl (by decide +kernel) rfl fun x4 => ?_
    refine z_iast (q := 82) (Or.inl ⟨rfl, rfl, rfl⟩) (by decide +kernel) rfl ?_
    refine z_iload (j := 5) (q := 84) (by decide +kernel) rfl 5 rfl ?_
    refine z_iconst (n := 3) (v := 3) (q := 85) (by decide +kernel) rfl (by decide) ?_
    refine z_idiv (q := 86) (by decide +kernel) rfl ?_
    refine z_istore (j := 5) (q := 88) (by decide +kernel) rfl (by decide) rfl ?_
    refine z_iinc (j := 6) (n := 1) (v := 1) (q := 91) (by decide +kernel) rfl 6 rfl (by decide) (by decide) rfl ?_
    refine z_goto (off := (-38)) (t := 53) (by decide +kernel) (by decide) ?_
    refine zsub [2, 3, 4, 5, 6, 1, 0] rfl ?_
    exact hrec (s.1 / 3, s.2 + 1)
def jn_X4_odds_129 (v0 : Nat) (v2 : Int32) (v3 : Int32) : zAH → Option (Int32 × zAH) := fun h => zbd (dn_X4_tellFraction v0 (Int32.toInt64 v3) (Int32.toInt64 v2) h) fun x1 h2 => some (v3, h2)
theorem sj_X4_odds_129 (g : zG) (l : Launch) (v0 : Nat) (v2 : Int32) (v3 : Int32) : zSm g l cX4_odds 7 RX4 "odds" (some .int) 6 150 zrI 129 [(0, .ref v0), (2, .int v2), (3, .int v3)] [] (jn_X4_odds_129 v0 v2 v3) := by
  unfold jn_X4_odds_129
  refine z_aload_n (j := 0) (q := 130) (by decide +kernel) rfl 0 rfl ?_
  refine z_iload_n (j := 3) (q := 131) (by decide +kernel) rfl 2 rfl ?_
  refine z_i2l (q := 132) (by decide +kernel) rfl ?_
  refine z_iload_n (j := 2) (q := 133) (by decide +kernel) rfl 1 rfl ?_
  refine z_i2l (q := 134) (by decide +kernel) rfl ?_
  refine z_callVU (As := [.long (Int32.toInt64 v3), .long (Int32.toInt64 v2)]) (st := []) (q := 137) (ct_X4_tellFraction g l v0 (Int32.toInt64 v3) (Int32.toInt64 v2)) zm_RX4_238 (rc_X4_tellFraction v0 (Int32.toInt64 v3) (Int32.toInt64 v2)) rfl (by decide) (by decide) (Nat.le_of_ble_eq_true rfl) rfl (by decide +kernel) rfl fun x1 => ?_
  refine z_iload_n (j := 3) (q := 138) (by decide +kernel) rfl 2 rfl ?_
  exact z_iret (by decide +kernel)
def lb_X4_odds_40 (v0 : Nat) (v1 : Int32) (v2 : Int32) (rec : (Int32 × Int32) → zAH → Option (Int32 × zAH)) (s : Int32 × Int32) : zAH → Option (Int32 × zAH) := fun h => if s.2 < v2 then lp_X4_odds_53 rec v0 v1 v2 s.1 s.2 (s.2, 0) h else jn_X4_odds_129 v0 v2 s.1 h
def lp_X4_odds_40 (v0 : Nat) (v1 : Int32) (v2 : Int32) (s : Int32 × Int32) : zAH → Option (Int32 × zAH) := zlp (lb_X4_odds_40 v0 v1 v2) 2000 s
theorem sl_X4_odds_40 (g : zG) (l : Launch) (v0 : Nat) (v1 : Int32) (v2 : Int32) (s : Int32 × Int32) : zSm g l cX4_odds 7 RX4 "odds" (some .int) 6 150 zrI 40 [(0, .ref v0), (1, .int v1), (2, .int v2), (3, .int s.1), (4, .int s.2)] [] (lp_X4_odds_40 v0 v1 v2 s) := by
  unfold lp_X4_odds_40
  refine z_loop (lvf := fun s => [(0, .ref v0), (1, .int v1), (2, .int v2), (3, .int s.1), (4, .int s.2)]) (fun rec hrec s => ?_) 2000 s
  unfold lb_X4_odds_40
  refine z_iload (j := 4) (q := 42) (by decide +kernel) rfl 4 rfl ?_
  refine z_iload_n (j := 2) (q := 43) (by decide +kernel) rfl 2 rfl ?_
  refine z_icmp_ge (off := 86) (t := 129) (q := 46) (by decide +kernel) (by decide) rfl ?_ ?_
  · refine zsub [0, 2, 3] rfl ?_
    exact sj_X4_odds_129 g l v0 v2 s.1
  · refine z_iload (j := 4) (q := 48) (by decide +kernel) rfl 4 rfl ?_
    refine z_istore (j := 5) (q := 50) (by decide +kernel) rfl (by decide) rfl ?_
    refine z_iconst (n := 0) (v := 0) (q := 51) (by decide +kernel) rfl (by decide) ?_
    refine z_istore (j := 6) (q := 53) (by decide +kernel) rfl (by decide) rfl ?_
    refine zsub [2, 3, 4, 5, 6, 1, 0] rfl ?_
    exact sl_X4_odds_53 g l rec v0 v1 v2 s.1 s.2 hrec (s.2, 0)
def jn_X4_odds_35 (v0 : Nat) (v1 : Int32) (v2 : Int32) : zAH → Option (Int32 × zAH) := fun h => lp_X4_odds_40 v0 v1 v2 (0, 0) h
theorem sj_X4_odds_35 (g : zG) (l : Launch) (v0 : Nat) (v1 : Int32) (v2 : Int32) : zSm g l cX4_odds 7 RX4 "odds" (some .int) 6 150 zrI 35 [(0, .ref v0), (1, .int v1), (2, .int v2)] [] (jn_X4_odds_35 v0 v1 v2) := by
  unfold jn_X4_odds_35
  refine z_iconst (n := 0) (v := 0) (q := 36) (by decide +kernel) rfl (by decide) ?_
  refine z_istore_n (j := 3) (q := 37) (by decide +kernel) rfl (by decide) rfl ?_
  refine z_iconst (n := 0) (v := 0) (q := 38) (by decide +kernel) rfl (by decide) ?_
  refine z_istore (j := 4) (q := 40) (by decide +kernel) rfl (by decide) rfl ?_
  refine zsub [2, 3, 4, 1, 0] rfl ?_
  exact sl_X4_odds_40 g l v0 v1 v2 (0, 0)
def lb_X4_odds_14 (v0 : Nat) (v1 : Int32) (rec : (Int32 × Int32) → zAH → Option (Int32 × zAH)) (s : Int32 × Int32) : zAH → Option (Int32 × zAH) := fun h => (zgA 4 2 v0 h).bind fun x1 => (zgI 0 2 x1 h).bind fun x2 => if s.2 < x2 then rec (s.1 * 3, s.2 + 1) h else jn_X4_odds_35 v0 v1 s.1 h
def lp_X4_odds_14 (v0 : Nat) (v1 : Int32) (s : Int32 × Int32) : zAH → Option (Int32 × zAH) := zlp (lb_X4_odds_14 v0 v1) 2000 s
theorem sl_X4_odds_14 (g : zG) (l : Launch) (v0 : Nat) (v1 : Int32) (s : Int32 × Int32) : zSm g l cX4_odds 7 RX4 "odds" (some .int) 6 150 zrI 14 [(0, .ref v0), (1, .int v1), (2, .int s.1), (3, .int s.2)] [] (lp_X4_odds_14 v0 v1 s) := by
  unfold lp_X4_odds_14
  refine z_loop (lvf := fun s => [(0, .ref v0), (1, .int v1), (2, .int s.1), (3, .int s.2)]) (fun rec hrec s => ?_) 2000 s
  unfold lb_X4_odds_14
  refine z_iload_n (j := 3) (q := 15) (by decide +kernel) rfl 3 rfl ?_
  refine z_aload_n (j := 0) (q := 16) (by decide +kernel) rfl 0 rfl ?_
  refine z_getA (q := 19) zf_RX4_21 (by decide +kernel) rfl fun x1 => ?_
  refine z_getI (q := 22) zf_RX4_157 (by decide +kernel) rfl fun x2 => ?_
  refine z_icmp_ge (off := 13) (t := 35) (q := 25) (by decide +kernel) (by decide) rfl ?_ ?_
  · refine zsub [0, 1, 2] rfl ?_
    exact sj_X4_odds_35 g l v0 v1 s.1
  · refine z_iload_n (j := 2) (q := 26) (by decide +kernel) rfl 2 rfl ?_
    refine z_iconst (n := 3) (v := 3) (q := 27) (by decide +kernel) rfl (by decide) ?_
    refine z_imul (q := 28) (by decide +kernel) rfl ?_
    refine z_istore_n (j := 2) (q := 29) (by decide +kernel) rfl (by decide) rfl ?_
    refine z_iinc (j := 3) (n := 1) (v := 1) (q := 32) (by decide +kernel) rfl 3 rfl (by decide) (by decide) rfl ?_
    refine z_goto (off := (-18)) (t := 14) (by decide +kernel) (by decide) ?_
    refine zsub [2, 3, 1, 0] rfl ?_
    exact hrec (s.1 * 3, s.2 + 1)
def dn_X4_odds (v0 : Nat) (v1 : Int32) : zAH → Option (Int32 × zAH) := fun h => (zgO 4 v0 h).bind fun _ => zbd (dn_X4_isRunner v0 v1 h) fun x1 h2 => if x1 = 0 then some ((-1), h2) else lp_X4_odds_14 v0 v1 (1, 0) h2
theorem ct_X4_odds (g : zG) (l : Launch) (v0 : Nat) (v1 : Int32) : zCt g l yX4_odds cX4_odds 7 (some .int) 6 150 zrI [.ref v0, .int v1] (dn_X4_odds v0 v1) := by
  refine zCt_of (lv := [(0, .ref v0), (1, .int v1)]) (by decide +kernel) (Nat.le_of_ble_eq_true rfl) rfl ?_
  show zSm g l cX4_odds 7 RX4 "odds" (some .int) 6 150 zrI 0 [(0, .ref v0), (1, .int v1)] [] (dn_X4_odds v0 v1)
  unfold dn_X4_odds
  refine z_rec ?_
  refine z_aload_n (j := 0) (q := 1) (by decide +kernel) rfl 0 rfl ?_
  refine z_iload_n (j := 1) (q := 2) (by decide +kernel) rfl 1 rfl ?_
  refine z_callVI (As := [.int v1]) (st := []) (q := 5) (ct_X4_isRunner g l v0 v1) zm_RX4_166 (rc_X4_isRunner v0 v1) rfl (by decide) (by decide) (Nat.le_of_ble_eq_true rfl) rfl (by decide +kernel) rfl fun x1 => ?_
  refine z_if_ne (off := 5) (t := 10) (q := 8) (by decide +kernel) (by decide) rfl ?_ ?_
  · refine z_iconst (n := 1) (v := 1) (q := 11) (by decide +kernel) rfl (by decide) ?_
    refine z_istore_n (j := 2) (q := 12) (by decide +kernel) rfl (by decide) rfl ?_
    refine z_iconst (n := 0) (v := 0) (q := 13) (by decide +kernel) rfl (by decide) ?_
    refine z_istore_n (j := 3) (q := 14) (by decide +kernel) rfl (by decide) rfl ?_
    refine zsub [2, 3, 1, 0] rfl ?_
    exact sl_X4_odds_14 g l v0 v1 (1, 0)
  · refine z_iconst (n := (-1)) (v := (-1)) (q := 9) (by decide +kernel) rfl (by decide) ?_
    exact z_iret (by decide +kernel)
theorem rc_X4_odds (v0 : Nat) (v1 : Int32) : ∀ h x, dn_X4_odds v0 v1 h = some x → ∃ fs, zgO 4 v0 h = some fs := fun h x hd => by
  obtain ⟨fs, e, -⟩ := Option.bind_eq_some_iff.mp hd
  exact ⟨fs, e⟩
def jn_X4_season_30 : zAH → Option (Int32 × zAH) := fun h => some ((-1), h)
theorem sj_X4_season_30 (g : zG) (l : Launch) : zSm g l cX4_season 8 RX4 "season" (some .int) 6 150 zrI 30 [] [] (jn_X4_season_30) := by
  unfold jn_X4_season_30
  refine z_iconst (n := (-1)) (v := (-1)) (q := 31) (by decide +kernel) rfl (by decide) ?_
  exact z_iret (by decide +kernel)
def jn_X4_season_119 (kc60 : (Int64 × Int32) → zAH → Option (Int32 × zAH)) (v0 : Nat) (v1 : Int32) (v3 : Int32) (v4 : Int64) (v6 : Int32) : zAH → Option (Int32 × zAH) := fun h => (zgA 4 2 v0 h).bind fun x1 => (zgA 0 5 x1 h).bind fun x2 => (zgA 4 15 v0 h).bind fun x3 => zbd (dn_X4_runTrial v0 x2 x3 h) fun x4 h5 => (zgA 4 16 v0 h5).bind fun x6 => (zgA 4 5 v0 h5).bind fun x7 => (zgI 1 3 x7 h5).bind fun x8 => (zaI 0 x6 x8 h5).bind fun x9 => (zaS 0 x6 x8 (x9 + 1) h5).bind fun h10 => kc60 (v4, v6 + 1) h10
theorem sj_X4_season_119 (g : zG) (l : Launch) (kc60 : (Int64 × Int32) → zAH → Option (Int32 × zAH)) (v0 : Nat) (v1 : Int32) (v3 : Int32) (v4 : Int64) (v6 : Int32) (hkc60 : ∀ s, zSm g l cX4_season 8 RX4 "season" (some .int) 6 150 zrI 60 [(0, .ref v0), (1, .int v1), (3, .int v3), (4, .long s.1), (6, .int s.2)] [] (kc60 s)) : zSm g l cX4_season 8 RX4 "season" (some .int) 6 150 zrI 119 [(0, .ref v0), (1, .int v1), (3, .int v3), (4, .long v4), (6, .int v6)] [] (jn_X4_season_119 kc60 v0 v1 v3 v4 v6) := by
  unfold jn_X4_season_119
  refine z_aload_n (j := 0) (q := 120) (by decide +kernel) rfl 0 rfl ?_
  refine z_aload_n (j := 0) (q := 121) (by decide +kernel) rfl 0 rfl ?_
  refine z_getA (q := 124) zf_RX4_21 (by decide +kernel) rfl fun x1 => ?_
  refine z_getA (q := 127) zf_RX4_147 (by decide +kernel) rfl fun x2 => ?_
  refine z_aload_n (j := 0) (q := 128) (by decide +kernel) rfl 0 rfl ?_
  refine z_getA (q := 131) zf_RX4_69 (by decide +kernel) rfl fun x3 => ?_
  refine z_callVU (As := [.ref x2, .ref x3]) (st := []) (q := 134) (ct_X4_runTrial g l v0 x2 x3) zm_RX4_254 (rc_X4_runTrial v0 x2 x3) rfl (by decide) (by decide) (Nat.le_of_ble_eq_true rfl) rfl (by decide +kernel) rfl fun x4 => ?_
  refine z_aload_n (j := 0) (q := 135) (by decide +kernel) rfl 0 rfl ?_
  refine z_getA (q := 138) zf_RX4_72 (by decide +kernel) rfl fun x6 => ?_
  refine z_aload_n (j := 0) (q := 139) (by decide +kernel) rfl 0 rfl ?_
  refine z_getA (q := 142) zf_RX4_35 (by decide +kernel) rfl fun x7 => ?_
  refine z_getI (q := 145) zf_RX4_208 (by decide +kernel) rfl fun x8 => ?_
  refine z_dup2 (q := 146) (by decide +kernel) rfl rfl rfl ?_
  refine z_iald (q := 147) (Or.inl ⟨rfl, rfl⟩) (by decide +kernel) rfl fun x9 => ?_
  refine z_iconst (n := 1) (v := 1) (q := 148) (by decide +kernel) rfl (by decide) ?_
  refine z_iadd (q := 149) (by decide +kernel) rfl ?_
  refine z_iast (q := 150) (Or.inl ⟨rfl, rfl, rfl⟩) (by decide +kernel) rfl ?_
  refine z_iinc (j := 6) (n := 1) (v := 1) (q := 153) (by decide +kernel) rfl 4 rfl (by decide) (by decide) rfl ?_
  refine z_goto (off := (-93)) (t := 60) (by decide +kernel) (by decide) ?_
  refine zsub [1, 2, 3, 4, 0] rfl ?_
  exact hkc60 (v4, v6 + 1)
def lb_X4_season_69 (kc60 : (Int64 × Int32) → zAH → Option (Int32 × zAH)) (v0 : Nat) (v1 : Int32) (v3 : Int32) (v6 : Int32) (rec : (Int64 × Int32) → zAH → Option (Int32 × zAH)) (s : Int64 × Int32) : zAH → Option (Int32 × zAH) := fun h => (zgA 4 2 v0 h).bind fun x1 => (zgI 0 2 x1 h).bind fun x2 => if s.2 < x2 then if (2147483647 : Int64) = 0 then none else (zgA 4 15 v0 h).bind fun x3 => if (3 : Int64) = 0 then none else zbd (dn_X4_breathByLot v0 s.2 (Int64.toInt32 (((s.1 * 48271) % 2147483647) % 3)) h) fun x4 h5 => (zaS 0 x3 s.2 x4 h5).bind fun h6 => rec ((s.1 * 48271) % 2147483647, s.2 + 1) h6 else jn_X4_season_119 kc60 v0 v1 v3 s.1 v6 h
def lp_X4_season_69 (kc60 : (Int64 × Int32) → zAH → Option (Int32 × zAH)) (v0 : Nat) (v1 : Int32) (v3 : Int32) (v6 : Int32) (s : Int64 × Int32) : zAH → Option (Int32 × zAH) := zlp (lb_X4_season_69 kc60 v0 v1 v3 v6) 2000 s
theorem sl_X4_season_69 (g : zG) (l : Launch) (kc60 : (Int64 × Int32) → zAH → Option (Int32 × zAH)) (v0 : Nat) (v1 : Int32) (v3 : Int32) (v6 : Int32) (hkc60 : ∀ s, zSm g l cX4_season 8 RX4 "season" (some .int) 6 150 zrI 60 [(0, .ref v0), (1, .int v1), (3, .int v3), (4, .long s.1), (6, .int s.2)] [] (kc60 s)) (s : Int64 × Int32) : zSm g l cX4_season 8 RX4 "season" (some .int) 6 150 zrI 69 [(0, .ref v0), (1, .int v1), (3, .int v3), (4, .long s.1), (6, .int v6), (7, .int s.2)] [] (lp_X4_season_69 kc60 v0 v1 v3 v6 s) := by
  unfold lp_X4_season_69
  refine z_loop (lvf := fun s => [(0, .ref v0), (1, .int v1), (3, .int v3), (4, .long s.1), (6, .int v6), (7, .int s.2)]) (fun rec hrec s => ?_) 2000 s
  unfold lb_X4_season_69
  refine z_iload (j := 7) (q := 71) (by decide +kernel) rfl 5 rfl ?_
  refine z_aload_n (j := 0) (q := 72) (by decide +kernel) rfl 0 rfl ?_
  refine z_getA (q := 75) zf_RX4_21 (by decide +kernel) rfl fun x1 => ?_
  refine z_getI (q := 78) zf_RX4_157 (by decide +kernel) rfl fun x2 => ?_
  refine z_icmp_ge (off := 41) (t := 119) (q := 81) (by decide +kernel) (by decide) rfl ?_ ?_
  · refine zsub [0, 1, 2, 3, 4] rfl ?_
    exact sj_X4_season_119 g l kc60 v0 v1 v3 s.1 v6 hkc60
  · refine z_lload (j := 4) (q := 83) (by decide +kernel) rfl 3 rfl ?_
    refine z_ldc2 (i := 282) (v := 48271) (q := 86) (by decide +kernel) rfl zw703 ?_
    refine z_lmul (q := 87) (by decide +kernel) rfl ?_
    refine z_ldc2 (i := 284) (v := 2147483647) (q := 90) (by decide +kernel) rfl zw704 ?_
    refine z_lrem (q := 91) (by decide +kernel) rfl ?_
    refine z_lstore (j := 4) (q := 93) (by decide +kernel) rfl (by decide) rfl ?_
    refine z_aload_n (j := 0) (q := 94) (by decide +kernel) rfl 1 rfl ?_
    refine z_getA (q := 97) zf_RX4_69 (by decide +kernel) rfl fun x3 => ?_
    refine z_iload (j := 7) (q := 99) (by decide +kernel) rfl 5 rfl ?_
    refine z_aload_n (j := 0) (q := 100) (by decide +kernel) rfl 1 rfl ?_
    refine z_iload (j := 7) (q := 102) (by decide +kernel) rfl 5 rfl ?_
    refine z_lload (j := 4) (q := 104) (by decide +kernel) rfl 0 rfl ?_
    refine z_ldc2 (i := 286) (v := 3) (q := 107) (by decide +kernel) rfl zw705 ?_
    refine z_lrem (q := 108) (by decide +kernel) rfl ?_
    refine z_l2i (q := 109) (by decide +kernel) rfl ?_
    refine z_callVI (As := [.int s.2, .int (Int64.toInt32 (((s.1 * 48271) % 2147483647) % 3))]) (st := [.int s.2, .ref x3]) (q := 112) (ct_X4_breathByLot g l v0 s.2 (Int64.toInt32 (((s.1 * 48271) % 2147483647) % 3))) zm_RX4_278 (rc_X4_breathByLot v0 s.2 (Int64.toInt32 (((s.1 * 48271) % 2147483647) % 3))) rfl (by decide) (by decide) (Nat.le_of_ble_eq_true rfl) rfl (by decide +kernel) rfl fun x4 => ?_
    refine z_iast (q := 113) (Or.inl ⟨rfl, rfl, rfl⟩) (by decide +kernel) rfl ?_
    refine z_iinc (j := 7) (n := 1) (v := 1) (q := 116) (by decide +kernel) rfl 5 rfl (by decide) (by decide) rfl ?_
    refine z_goto (off := (-47)) (t := 69) (by decide +kernel) (by decide) ?_
    refine zsub [2, 3, 4, 1, 5, 0] rfl ?_
    exact hrec ((s.1 * 48271) % 2147483647, s.2 + 1)
def jn_X4_season_215 (kc182 : (Int32 × Int32) → zAH → Option (Int32 × zAH)) (v0 : Nat) (v6 : Int32) (v7 : Int32) : zAH → Option (Int32 × zAH) := fun h => kc182 (v6, v7 + 1) h
theorem sj_X4_season_215 (g : zG) (l : Launch) (kc182 : (Int32 × Int32) → zAH → Option (Int32 × zAH)) (v0 : Nat) (v6 : Int32) (v7 : Int32) (hkc182 : ∀ s, zSm g l cX4_season 8 RX4 "season" (some .int) 6 150 zrI 182 [(0, .ref v0), (6, .int s.1), (7, .int s.2)] [] (kc182 s)) : zSm g l cX4_season 8 RX4 "season" (some .int) 6 150 zrI 215 [(0, .ref v0), (6, .int v6), (7, .int v7)] [] (jn_X4_season_215 kc182 v0 v6 v7) := by
  unfold jn_X4_season_215
  refine z_iinc (j := 7) (n := 1) (v := 1) (q := 218) (by decide +kernel) rfl 2 rfl (by decide) (by decide) rfl ?_
  refine z_goto (off := (-36)) (t := 182) (by decide +kernel) (by decide) ?_
  refine zsub [1, 2, 0] rfl ?_
  exact hkc182 (v6, v7 + 1)
def jn_X4_season_221 (v6 : Int32) : zAH → Option (Int32 × zAH) := fun h => some (v6, h)
theorem sj_X4_season_221 (g : zG) (l : Launch) (v6 : Int32) : zSm g l cX4_season 8 RX4 "season" (some .int) 6 150 zrI 221 [(6, .int v6)] [] (jn_X4_season_221 v6) := by
  unfold jn_X4_season_221
  refine z_iload (j := 6) (q := 223) (by decide +kernel) rfl 0 rfl ?_
  exact z_iret (by decide +kernel)
def lb_X4_season_182 (v0 : Nat) (rec : (Int32 × Int32) → zAH → Option (Int32 × zAH)) (s : Int32 × Int32) : zAH → Option (Int32 × zAH) := fun h => (zgA 4 2 v0 h).bind fun x1 => (zgI 0 2 x1 h).bind fun x2 => if s.2 < x2 then (zgA 4 16 v0 h).bind fun x3 => (zaI 0 x3 s.2 h).bind fun x4 => (zgA 4 16 v0 h).bind fun x5 => (zaI 0 x5 s.1 h).bind fun x6 => if x6 < x4 then jn_X4_season_215 rec v0 s.2 s.2 h else jn_X4_season_215 rec v0 s.1 s.2 h else jn_X4_season_221 s.1 h
def lp_X4_season_182 (v0 : Nat) (s : Int32 × Int32) : zAH → Option (Int32 × zAH) := zlp (lb_X4_season_182 v0) 2000 s
theorem sl_X4_season_182 (g : zG) (l : Launch) (v0 : Nat) (s : Int32 × Int32) : zSm g l cX4_season 8 RX4 "season" (some .int) 6 150 zrI 182 [(0, .ref v0), (6, .int s.1), (7, .int s.2)] [] (lp_X4_season_182 v0 s) := by
  unfold lp_X4_season_182
  refine z_loop (lvf := fun s => [(0, .ref v0), (6, .int s.1), (7, .int s.2)]) (fun rec hrec s => ?_) 2000 s
  unfold lb_X4_season_182
  refine z_iload (j := 7) (q := 184) (by decide +kernel) rfl 2 rfl ?_
  refine z_aload_n (j := 0) (q := 185) (by decide +kernel) rfl 0 rfl ?_
  refine z_getA (q := 188) zf_RX4_21 (by decide +kernel) rfl fun x1 => ?_
  refine z_getI (q := 191) zf_RX4_157 (by decide +kernel) rfl fun x2 => ?_
  refine z_icmp_ge (off := 30) (t := 221) (q := 194) (by decide +kernel) (by decide) rfl ?_ ?_
  · refine zsub [1] rfl ?_
    exact sj_X4_season_221 g l s.1
  · refine z_aload_n (j := 0) (q := 195) (by decide +kernel) rfl 0 rfl ?_
    refine z_getA (q := 198) zf_RX4_72 (by decide +kernel) rfl fun x3 => ?_
    refine z_iload (j := 7) (q := 200) (by decide +kernel) rfl 2 rfl ?_
    refine z_iald (q := 201) (Or.inl ⟨rfl, rfl⟩) (by decide +kernel) rfl fun x4 => ?_
    refine z_aload_n (j := 0) (q := 202) (by decide +kernel) rfl 0 rfl ?_
    refine z_getA (q := 205) zf_RX4_72 (by decide +kernel) rfl fun x5 => ?_
    refine z_iload (j := 6) (q := 207) (by decide +kernel) rfl 1 rfl ?_
    refine z_iald (q := 208) (Or.inl ⟨rfl, rfl⟩) (by decide +kernel) rfl fun x6 => ?_
    refine z_icmp_le (off := 7) (t := 215) (q := 211) (by decide +kernel) (by decide) rfl ?_ ?_
    · refine zsub [0, 1, 2] rfl ?_
      exact sj_X4_season_215 g l rec v0 s.1 s.2 hrec
    · refine z_iload (j := 7) (q := 213) (by decide +kernel) rfl 2 rfl ?_
      refine z_istore (j := 6) (q := 215) (by decide +kernel) rfl (by decide) rfl ?_
      refine zsub [1, 0, 2] rfl ?_
      exact sj_X4_season_215 g l rec v0 s.2 s.2 hrec
def jn_X4_season_156 (v0 : Nat) (v3 : Int32) : zAH → Option (Int32 × zAH) := fun h => (zgA 4 0 v0 h).bind fun x1 => (zaR 3 x1 v3 h).bind fun x2 => (zgA 4 16 v0 h).bind fun x3 => (zgA 4 2 v0 h).bind fun x4 => (zgI 0 2 x4 h).bind fun x5 => zbd (dn_X3_fillFrom x2 x3 x5 h) fun x6 h7 => lp_X4_season_182 v0 (0, 1) h7
theorem sj_X4_season_156 (g : zG) (l : Launch) (v0 : Nat) (v3 : Int32) : zSm g l cX4_season 8 RX4 "season" (some .int) 6 150 zrI 156 [(0, .ref v0), (3, .int v3)] [] (jn_X4_season_156 v0 v3) := by
  unfold jn_X4_season_156
  refine z_aload_n (j := 0) (q := 157) (by decide +kernel) rfl 0 rfl ?_
  refine z_getA (q := 160) zf_RX4_11 (by decide +kernel) rfl fun x1 => ?_
  refine z_iload_n (j := 3) (q := 161) (by decide +kernel) rfl 1 rfl ?_
  refine z_aald (q := 162) (by decide) (by decide +kernel) rfl fun x2 => ?_
  refine z_aload_n (j := 0) (q := 163) (by decide +kernel) rfl 0 rfl ?_
  refine z_getA (q := 166) zf_RX4_72 (by decide +kernel) rfl fun x3 => ?_
  refine z_aload_n (j := 0) (q := 167) (by decide +kernel) rfl 0 rfl ?_
  refine z_getA (q := 170) zf_RX4_21 (by decide +kernel) rfl fun x4 => ?_
  refine z_getI (q := 173) zf_RX4_157 (by decide +kernel) rfl fun x5 => ?_
  refine z_callVU (As := [.ref x3, .int x5]) (st := []) (q := 176) (ct_X3_fillFrom g l x2 x3 x5) zm_RX4_264 (rc_X3_fillFrom x2 x3 x5) rfl (by decide) (by decide) (Nat.le_of_ble_eq_true rfl) rfl (by decide +kernel) rfl fun x6 => ?_
  refine z_iconst (n := 0) (v := 0) (q := 177) (by decide +kernel) rfl (by decide) ?_
  refine z_istore (j := 6) (q := 179) (by decide +kernel) rfl (by decide) rfl ?_
  refine z_iconst (n := 1) (v := 1) (q := 180) (by decide +kernel) rfl (by decide) ?_
  refine z_istore (j := 7) (q := 182) (by decide +kernel) rfl (by decide) rfl ?_
  refine zsub [2, 1, 0] rfl ?_
  exact sl_X4_season_182 g l v0 (0, 1)
def lb_X4_season_60 (v0 : Nat) (v1 : Int32) (v3 : Int32) (rec : (Int64 × Int32) → zAH → Option (Int32 × zAH)) (s : Int64 × Int32) : zAH → Option (Int32 × zAH) := fun h => if s.2 < v1 then lp_X4_season_69 rec v0 v1 v3 s.2 (s.1, 0) h else jn_X4_season_156 v0 v3 h
def lp_X4_season_60 (v0 : Nat) (v1 : Int32) (v3 : Int32) (s : Int64 × Int32) : zAH → Option (Int32 × zAH) := zlp (lb_X4_season_60 v0 v1 v3) 2000 s
theorem sl_X4_season_60 (g : zG) (l : Launch) (v0 : Nat) (v1 : Int32) (v3 : Int32) (s : Int64 × Int32) : zSm g l cX4_season 8 RX4 "season" (some .int) 6 150 zrI 60 [(0, .ref v0), (1, .int v1), (3, .int v3), (4, .long s.1), (6, .int s.2)] [] (lp_X4_season_60 v0 v1 v3 s) := by
  unfold lp_X4_season_60
  refine z_loop (lvf := fun s => [(0, .ref v0), (1, .int v1), (3, .int v3), (4, .long s.1), (6, .int s.2)]) (fun rec hrec s => ?_) 2000 s
  unfold lb_X4_season_60
  refine z_iload (j := 6) (q := 62) (by decide +kernel) rfl 4 rfl ?_
  refine z_iload_n (j := 1) (q := 63) (by decide +kernel) rfl 1 rfl ?_
  refine z_icmp_ge (off := 93) (t := 156) (q := 66) (by decide +kernel) (by decide) rfl ?_ ?_
  · refine zsub [0, 2] rfl ?_
    exact sj_X4_season_156 g l v0 v3
  · refine z_iconst (n := 0) (v := 0) (q := 67) (by decide +kernel) rfl (by decide) ?_
    refine z_istore (j := 7) (q := 69) (by decide +kernel) rfl (by decide) rfl ?_
    refine zsub [1, 2, 3, 4, 5, 0] rfl ?_
    exact sl_X4_season_69 g l rec v0 v1 v3 s.2 hrec (s.1, 0)
def dn_X4_season (v0 : Nat) (v1 : Int32) (v2 : Int32) (v3 : Int32) : zAH → Option (Int32 × zAH) := fun h => (zgO 4 v0 h).bind fun _ => if v1 < 1 then jn_X4_season_30 h else if 40 < v1 then jn_X4_season_30 h else if v2 < 1 then jn_X4_season_30 h else if v2 < 2147483647 then zbd (dn_X4_isRow v3 h) fun x1 h2 => if x1 = 0 then jn_X4_season_30 h2 else (zgA 4 2 v0 h2).bind fun x3 => (zgI 0 2 x3 h2).bind fun x4 => if x4 = 0 then some ((-4), h2) else (zgA 4 16 v0 h2).bind fun x5 => zbd (dn_J7_fill_53178 x5 0 h2) fun x6 h7 => lp_X4_season_60 v0 v1 v3 (Int32.toInt64 v2, 0) h7 else jn_X4_season_30 h
theorem ct_X4_season (g : zG) (l : Launch) (v0 : Nat) (v1 : Int32) (v2 : Int32) (v3 : Int32) : zCt g l yX4_season cX4_season 8 (some .int) 6 150 zrI [.ref v0, .int v1, .int v2, .int v3] (dn_X4_season v0 v1 v2 v3) := by
  refine zCt_of (lv := [(0, .ref v0), (1, .int v1), (2, .int v2), (3, .int v3)]) (by decide +kernel) (Nat.le_of_ble_eq_true rfl) rfl ?_
  show zSm g l cX4_season 8 RX4 "season" (some .int) 6 150 zrI 0 [(0, .ref v0), (1, .int v1), (2, .int v2), (3, .int v3)] [] (dn_X4_season v0 v1 v2 v3)
  unfold dn_X4_season
  refine z_rec ?_
  refine z_iload_n (j := 1) (q := 1) (by decide +kernel) rfl 1 rfl ?_
  refine z_iconst (n := 1) (v := 1) (q := 2) (by decide +kernel) rfl (by decide) ?_
  refine z_icmp_lt (off := 28) (t := 30) (q := 5) (by decide +kernel) (by decide) rfl ?_ ?_
  · refine zsub [] rfl ?_
    exact sj_X4_season_30 g l 
  · refine z_iload_n (j := 1) (q := 6) (by decide +kernel) rfl 1 rfl ?_
    refine z_bipush (n := 40) (v := 40) (q := 8) (by decide +kernel) rfl (by decide) ?_
    refine z_icmp_gt (off := 22) (t := 30) (q := 11) (by decide +kernel) (by decide) rfl ?_ ?_
    · refine zsub [] rfl ?_
      exact sj_X4_season_30 g l 
    · refine z_iload_n (j := 2) (q := 12) (by decide +kernel) rfl 2 rfl ?_
      refine z_iconst (n := 1) (v := 1) (q := 13) (by decide +kernel) rfl (by decide) ?_
      refine z_icmp_lt (off := 17) (t := 30) (q := 16) (by decide +kernel) (by decide) rfl ?_ ?_
      · refine zsub [] rfl ?_
        exact sj_X4_season_30 g l 
      · refine z_iload_n (j := 2) (q := 17) (by decide +kernel) rfl 2 rfl ?_
        refine z_ldcw (i := 281) (v := 2147483647) (q := 20) (by decide +kernel) rfl zw702 ?_
        refine z_icmp_ge (off := 10) (t := 30) (q := 23) (by decide +kernel) (by decide) rfl ?_ ?_
        · refine zsub [] rfl ?_
          exact sj_X4_season_30 g l 
        · refine z_iload_n (j := 3) (q := 24) (by decide +kernel) rfl 3 rfl ?_
          refine z_callSI (As := [.int v3]) (st := []) (q := 27) (ct_X4_isRow g l v3) zm_RX4_105 rfl (by decide) (by decide) (Nat.le_of_ble_eq_true rfl) rfl (by decide +kernel) rfl fun x1 => ?_
          refine z_if_ne (off := 5) (t := 32) (q := 30) (by decide +kernel) (by decide) rfl ?_ ?_
          · refine z_aload_n (j := 0) (q := 33) (by decide +kernel) rfl 0 rfl ?_
            refine z_getA (q := 36) zf_RX4_21 (by decide +kernel) rfl fun x3 => ?_
            refine z_getI (q := 39) zf_RX4_157 (by decide +kernel) rfl fun x4 => ?_
            refine z_if_ne (off := 6) (t := 45) (q := 42) (by decide +kernel) (by decide) rfl ?_ ?_
            · refine z_aload_n (j := 0) (q := 46) (by decide +kernel) rfl 0 rfl ?_
              refine z_getA (q := 49) zf_RX4_72 (by decide +kernel) rfl fun x5 => ?_
              refine z_iconst (n := 0) (v := 0) (q := 50) (by decide +kernel) rfl (by decide) ?_
              refine z_callSU (As := [.ref x5, .int 0]) (st := []) (q := 53) (ct_J7_fill_53178 g l x5 0) zm_RX4_81 rfl (by decide) (by decide) (Nat.le_of_ble_eq_true rfl) rfl (by decide +kernel) rfl fun x6 => ?_
              refine z_iload_n (j := 2) (q := 54) (by decide +kernel) rfl 2 rfl ?_
              refine z_i2l (q := 55) (by decide +kernel) rfl ?_
              refine z_lstore (j := 4) (q := 57) (by decide +kernel) rfl (by decide) rfl ?_
              refine z_iconst (n := 0) (v := 0) (q := 58) (by decide +kernel) rfl (by decide) ?_
              refine z_istore (j := 6) (q := 60) (by decide +kernel) rfl (by decide) rfl ?_
              refine zsub [2, 3, 5, 1, 0] rfl ?_
              exact sl_X4_season_60 g l v0 v1 v3 (Int32.toInt64 v2, 0)
            · refine z_bipush (n := (-4)) (v := (-4)) (q := 44) (by decide +kernel) rfl (by decide) ?_
              exact z_iret (by decide +kernel)
          · refine zsub [] rfl ?_
            exact sj_X4_season_30 g l 
theorem rc_X4_season (v0 : Nat) (v1 : Int32) (v2 : Int32) (v3 : Int32) : ∀ h x, dn_X4_season v0 v1 v2 v3 h = some x → ∃ fs, zgO 4 v0 h = some fs := fun h x hd => by
  obtain ⟨fs, e, -⟩ := Option.bind_eq_some_iff.mp hd
  exact ⟨fs, e⟩
def dn_X4_asked (v0 : Nat) : zAH → Option (Int32 × zAH) := fun h => (zgO 4 v0 h).bind fun _ => (zgI 4 8 v0 h).bind fun x1 => some (x1, h)
theorem ct_X4_asked (g : zG) (l : Launch) (v0 : Nat) : zCt g l yX4_asked cX4_asked 1 (some .int) 0 0 zrI [.ref v0] (dn_X4_asked v0) := by
  refine zCt_of (lv := [(0, .ref v0)]) (by decide +kernel) (Nat.le_of_ble_eq_true rfl) rfl ?_
  show zSm g l cX4_asked 1 RX4 "asked" (some .int) 0 0 zrI 0 [(0, .ref v0)] [] (dn_X4_asked v0)
  unfold dn_X4_asked
  refine z_rec ?_
  refine z_aload_n (j := 0) (q := 1) (by decide +kernel) rfl 0 rfl ?_
  refine z_getI (q := 4) zf_RX4_46 (by decide +kernel) rfl fun x1 => ?_
  exact z_iret (by decide +kernel)
theorem rc_X4_asked (v0 : Nat) : ∀ h x, dn_X4_asked v0 h = some x → ∃ fs, zgO 4 v0 h = some fs := fun h x hd => by
  obtain ⟨fs, e, -⟩ := Option.bind_eq_some_iff.mp hd
  exact ⟨fs, e⟩
def dn_X4_upper (v0 : Nat) : zAH → Option (Int64 × zAH) := fun h => (zgO 4 v0 h).bind fun _ => (zgL 4 9 v0 h).bind fun x1 => some (x1, h)
theorem ct_X4_upper (g : zG) (l : Launch) (v0 : Nat) : zCt g l yX4_upper cX4_upper 1 (some .long) 0 0 zrL [.ref v0] (dn_X4_upper v0) := by
  refine zCt_of (lv := [(0, .ref v0)]) (by decide +kernel) (Nat.le_of_ble_eq_true rfl) rfl ?_
  show zSm g l cX4_upper 1 RX4 "upper" (some .long) 0 0 zrL 0 [(0, .ref v0)] [] (dn_X4_upper v0)
  unfold dn_X4_upper
  refine z_rec ?_
  refine z_aload_n (j := 0) (q := 1) (by decide +kernel) rfl 0 rfl ?_
  refine z_getL (q := 4) zf_RX4_49 (by decide +kernel) rfl fun x1 => ?_
  exact z_lret (by decide +kernel)
theorem rc_X4_upper (v0 : Nat) : ∀ h x, dn_X4_upper v0 h = some x → ∃ fs, zgO 4 v0 h = some fs := fun h x hd => by
  obtain ⟨fs, e, -⟩ := Option.bind_eq_some_iff.mp hd
  exact ⟨fs, e⟩
def dn_X4_lower (v0 : Nat) : zAH → Option (Int64 × zAH) := fun h => (zgO 4 v0 h).bind fun _ => (zgL 4 10 v0 h).bind fun x1 => some (x1, h)
theorem ct_X4_lower (g : zG) (l : Launch) (v0 : Nat) : zCt g l yX4_lower cX4_lower 1 (some .long) 0 0 zrL [.ref v0] (dn_X4_lower v0) := by
  refine zCt_of (lv := [(0, .ref v0)]) (by decide +kernel) (Nat.le_of_ble_eq_true rfl) rfl ?_
  show zSm g l cX4_lower 1 RX4 "lower" (some .long) 0 0 zrL 0 [(0, .ref v0)] [] (dn_X4_lower v0)
  unfold dn_X4_lower
  refine z_rec ?_
  refine z_aload_n (j := 0) (q := 1) (by decide +kernel) rfl 0 rfl ?_
  refine z_getL (q := 4) zf_RX4_53 (by decide +kernel) rfl fun x1 => ?_
  exact z_lret (by decide +kernel)
theorem rc_X4_lower (v0 : Nat) : ∀ h x, dn_X4_lower v0 h = some x → ∃ fs, zgO 4 v0 h = some fs := fun h x hd => by
  obtain ⟨fs, e, -⟩ := Option.bind_eq_some_iff.mp hd
  exact ⟨fs, e⟩
