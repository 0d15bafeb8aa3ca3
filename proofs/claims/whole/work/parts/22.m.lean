def jn_X2_kindOf_88 : zAH → Option (Int32 × zAH) := fun h => some ((-1000), h)
theorem sj_X2_kindOf_88 (g : zG) (l : Launch) : zSm g l cX2_kindOf 1 RX2 "kindOf" (some .int) 0 0 zrI 88 [] [] (jn_X2_kindOf_88) := by
  unfold jn_X2_kindOf_88
  refine z_sipush (n := (-1000)) (v := (-1000)) (q := 91) (by decide +kernel) rfl (by decide) ?_
  exact z_iret (by decide +kernel)
def dn_X2_kindOf (v0 : Int32) : zAH → Option (Int32 × zAH) := fun h => if v0 = 103 then some (1, h) else if v0 = 104 then some (3, h) else if v0 = 109 then some (4, h) else if v0 = 110 then some (0, h) else if v0 = 111 then some (2, h) else if v0 = 117 then some (5, h) else jn_X2_kindOf_88 h
theorem ct_X2_kindOf (g : zG) (l : Launch) (v0 : Int32) : zCt g l yX2_kindOf cX2_kindOf 1 (some .int) 0 0 zrI [.int v0] (dn_X2_kindOf v0) := by
  refine zCt_of (lv := [(0, .int v0)]) (by decide +kernel) (Nat.le_of_ble_eq_true rfl) rfl ?_
  show zSm g l cX2_kindOf 1 RX2 "kindOf" (some .int) 0 0 zrI 0 [(0, .int v0)] [] (dn_X2_kindOf v0)
  unfold dn_X2_kindOf
  refine z_iload_n (j := 0) (q := 1) (by decide +kernel) rfl 0 rfl ?_
  refine z_case (fun c1 => ?_) (fun c1 => ?_)
  · refine z_tabIn (v := 103) (off := 77) (t := 78) c1 (by decide +kernel : decode cX2_kindOf 1 = .ok (.tableswitch 87 103 117 #[77, 81, 87, 87, 87, 87, 83, 75, 79, 87, 87, 87, 87, 87, 85], 75)) (by decide) (by decide) (by decide) (by decide) ?_
    refine z_iconst (n := 1) (v := 1) (q := 79) (by decide +kernel) rfl (by decide) ?_
    exact z_iret (by decide +kernel)
  · skip
    refine z_case (fun c2 => ?_) (fun c2 => ?_)
    · refine z_tabIn (v := 104) (off := 81) (t := 82) c2 (by decide +kernel : decode cX2_kindOf 1 = .ok (.tableswitch 87 103 117 #[77, 81, 87, 87, 87, 87, 83, 75, 79, 87, 87, 87, 87, 87, 85], 75)) (by decide) (by decide) (by decide) (by decide) ?_
      refine z_iconst (n := 3) (v := 3) (q := 83) (by decide +kernel) rfl (by decide) ?_
      exact z_iret (by decide +kernel)
    · skip
      refine z_case (fun c3 => ?_) (fun c3 => ?_)
      · refine z_tabIn (v := 109) (off := 83) (t := 84) c3 (by decide +kernel : decode cX2_kindOf 1 = .ok (.tableswitch 87 103 117 #[77, 81, 87, 87, 87, 87, 83, 75, 79, 87, 87, 87, 87, 87, 85], 75)) (by decide) (by decide) (by decide) (by decide) ?_
        refine z_iconst (n := 4) (v := 4) (q := 85) (by decide +kernel) rfl (by decide) ?_
        exact z_iret (by decide +kernel)
      · skip
        refine z_case (fun c4 => ?_) (fun c4 => ?_)
        · refine z_tabIn (v := 110) (off := 75) (t := 76) c4 (by decide +kernel : decode cX2_kindOf 1 = .ok (.tableswitch 87 103 117 #[77, 81, 87, 87, 87, 87, 83, 75, 79, 87, 87, 87, 87, 87, 85], 75)) (by decide) (by decide) (by decide) (by decide) ?_
          refine z_iconst (n := 0) (v := 0) (q := 77) (by decide +kernel) rfl (by decide) ?_
          exact z_iret (by decide +kernel)
        · skip
          refine z_case (fun c5 => ?_) (fun c5 => ?_)
          · refine z_tabIn (v := 111) (off := 79) (t := 80) c5 (by decide +kernel : decode cX2_kindOf 1 = .ok (.tableswitch 87 103 117 #[77, 81, 87, 87, 87, 87, 83, 75, 79, 87, 87, 87, 87, 87, 85], 75)) (by decide) (by decide) (by decide) (by decide) ?_
            refine z_iconst (n := 2) (v := 2) (q := 81) (by decide +kernel) rfl (by decide) ?_
            exact z_iret (by decide +kernel)
          · skip
            refine z_case (fun c6 => ?_) (fun c6 => ?_)
            · refine z_tabIn (v := 117) (off := 85) (t := 86) c6 (by decide +kernel : decode cX2_kindOf 1 = .ok (.tableswitch 87 103 117 #[77, 81, 87, 87, 87, 87, 83, 75, 79, 87, 87, 87, 87, 87, 85], 75)) (by decide) (by decide) (by decide) (by decide) ?_
              refine z_iconst (n := 5) (v := 5) (q := 87) (by decide +kernel) rfl (by decide) ?_
              exact z_iret (by decide +kernel)
            · skip
              have nc1 := lv_neT (a := 103) c1 (by decide)
              have nc2 := lv_neT (a := 104) c2 (by decide)
              have nc3 := lv_neT (a := 109) c3 (by decide)
              have nc4 := lv_neT (a := 110) c4 (by decide)
              have nc5 := lv_neT (a := 111) c5 (by decide)
              have nc6 := lv_neT (a := 117) c6 (by decide)
              refine z_tabOut (t := 88) (by decide +kernel : decode cX2_kindOf 1 = .ok (.tableswitch 87 103 117 #[77, 81, 87, 87, 87, 87, 83, 75, 79, 87, 87, 87, 87, 87, 85], 75)) (by
                  by_cases ho : (v0).toInt < 103 ∨ 117 < (v0).toInt
                  · exact Or.inl ho
                  · refine Or.inr ⟨by omega, by omega, ?_⟩
                    have hh : (v0).toInt = 105 ∨ (v0).toInt = 106 ∨ (v0).toInt = 107 ∨ (v0).toInt = 108 ∨ (v0).toInt = 112 ∨ (v0).toInt = 113 ∨ (v0).toInt = 114 ∨ (v0).toInt = 115 ∨ (v0).toInt = 116 := by omega
                    rcases hh with hh | hh | hh | hh | hh | hh | hh | hh | hh <;> rw [hh] <;> rfl) (by decide) ?_
              refine zsub [] rfl ?_
              exact sj_X2_kindOf_88 g l 
def jn_X2_readRunner_28 : zAH → Option (Int32 × zAH) := fun h => if (0 : Int32) = 0 ∨ (0 : Int32) = 1 then some (0, h) else none
theorem sj_X2_readRunner_28 (g : zG) (l : Launch) : zSm g l cX2_readRunner 4 RX2 "readRunner" (some .boolean) 3 64 zrI 28 [] [] (jn_X2_readRunner_28) := by
  unfold jn_X2_readRunner_28
  refine z_iconst (n := 0) (v := 0) (q := 29) (by decide +kernel) rfl (by decide) ?_
  exact z_zret (by decide +kernel)
def jn_X2_readRunner_57 : zAH → Option (Int32 × zAH) := fun h => if (0 : Int32) = 0 ∨ (0 : Int32) = 1 then some (0, h) else none
theorem sj_X2_readRunner_57 (g : zG) (l : Launch) : zSm g l cX2_readRunner 4 RX2 "readRunner" (some .boolean) 3 64 zrI 57 [] [] (jn_X2_readRunner_57) := by
  unfold jn_X2_readRunner_57
  refine z_iconst (n := 0) (v := 0) (q := 58) (by decide +kernel) rfl (by decide) ?_
  exact z_zret (by decide +kernel)
def dn_X2_readRunner (v0 : Nat) : zAH → Option (Int32 × zAH) := fun h => (zgO 2 v0 h).bind fun _ => (zgA 2 1 v0 h).bind fun x1 => (zgI 0 2 x1 h).bind fun x2 => zbd (dn_X2_sign v0 h) fun x3 h4 => zbd (dn_X2_kindOf x3 h4) fun x5 h6 => if x5 = ((-1000)) then jn_X2_readRunner_28 h6 else if x2 < 5 then (zgI 2 2 v0 h6).bind fun x7 => (zpF 2 2 v0 (.int (x7 + 1)) h6).bind fun h8 => zbd (dn_X2_sign v0 h8) fun x9 h10 => if x9 < 49 then jn_X2_readRunner_57 h10 else if 57 < x9 then jn_X2_readRunner_57 h10 else (zgI 2 2 v0 h10).bind fun x11 => (zpF 2 2 v0 (.int (x11 + 1)) h10).bind fun h12 => (zgA 2 1 v0 h12).bind fun x13 => (zgA 0 3 x13 h12).bind fun x14 => (zaS 0 x14 x2 x5 h12).bind fun h15 => (zgA 2 1 v0 h15).bind fun x16 => (zgA 0 4 x16 h15).bind fun x17 => (zaS 0 x17 x2 (x9 - 48) h15).bind fun h18 => (zgA 2 1 v0 h18).bind fun x19 => (zgI 0 2 x19 h18).bind fun x20 => (zpF 0 2 x19 (.int (x20 + 1)) h18).bind fun h21 => zbd (dn_X2_readPlan v0 x2 h21) fun x22 h23 => if x22 = 0 ∨ x22 = 1 then some (x22, h23) else none else jn_X2_readRunner_28 h6
theorem ct_X2_readRunner (g : zG) (l : Launch) (v0 : Nat) : zCt g l yX2_readRunner cX2_readRunner 4 (some .boolean) 3 64 zrI [.ref v0] (dn_X2_readRunner v0) := by
  refine zCt_of (lv := [(0, .ref v0)]) (by decide +kernel) (Nat.le_of_ble_eq_true rfl) rfl ?_
  show zSm g l cX2_readRunner 4 RX2 "readRunner" (some .boolean) 3 64 zrI 0 [(0, .ref v0)] [] (dn_X2_readRunner v0)
  unfold dn_X2_readRunner
  refine z_rec ?_
  refine z_aload_n (j := 0) (q := 1) (by decide +kernel) rfl 0 rfl ?_
  refine z_getA (q := 4) zf_RX2_19 (by decide +kernel) rfl fun x1 => ?_
  refine z_getI (q := 7) zf_RX2_65 (by decide +kernel) rfl fun x2 => ?_
  refine z_istore_n (j := 1) (q := 8) (by decide +kernel) rfl (by decide) rfl ?_
  refine z_aload_n (j := 0) (q := 9) (by decide +kernel) rfl 1 rfl ?_
  refine z_callVI (As := []) (st := []) (q := 12) (ct_X2_sign g l v0) zm_RX2_31 (rc_X2_sign v0) rfl (by decide) (by decide) (Nat.le_of_ble_eq_true rfl) rfl (by decide +kernel) rfl fun x3 => ?_
  refine z_callSI (As := [.int x3]) (st := []) (q := 15) (ct_X2_kindOf g l x3) zm_RX2_68 rfl (by decide) (by decide) (Nat.le_of_ble_eq_true rfl) rfl (by decide +kernel) rfl fun x5 => ?_
  refine z_istore_n (j := 2) (q := 16) (by decide +kernel) rfl (by decide) rfl ?_
  refine z_iload_n (j := 2) (q := 17) (by decide +kernel) rfl 0 rfl ?_
  refine z_sipush (n := (-1000)) (v := (-1000)) (q := 20) (by decide +kernel) rfl (by decide) ?_
  refine z_icmp_eq (off := 8) (t := 28) (q := 23) (by decide +kernel) (by decide) rfl ?_ ?_
  · refine zsub [] rfl ?_
    exact sj_X2_readRunner_28 g l 
  · refine z_iload_n (j := 1) (q := 24) (by decide +kernel) rfl 1 rfl ?_
    refine z_iconst (n := 5) (v := 5) (q := 25) (by decide +kernel) rfl (by decide) ?_
    refine z_icmp_lt (off := 5) (t := 30) (q := 28) (by decide +kernel) (by decide) rfl ?_ ?_
    · refine z_aload_n (j := 0) (q := 31) (by decide +kernel) rfl 2 rfl ?_
      refine z_dup (q := 32) (by decide +kernel) rfl rfl ?_
      refine z_getI (q := 35) zf_RX2_9 (by decide +kernel) rfl fun x7 => ?_
      refine z_iconst (n := 1) (v := 1) (q := 36) (by decide +kernel) rfl (by decide) ?_
      refine z_iadd (q := 37) (by decide +kernel) rfl ?_
      refine z_putV (q := 40) zp_RX2_9 (fun z => by cases z) rfl rfl (by decide +kernel) rfl ?_
      refine z_aload_n (j := 0) (q := 41) (by decide +kernel) rfl 2 rfl ?_
      refine z_callVI (As := []) (st := []) (q := 44) (ct_X2_sign g l v0) zm_RX2_31 (rc_X2_sign v0) rfl (by decide) (by decide) (Nat.le_of_ble_eq_true rfl) rfl (by decide +kernel) rfl fun x9 => ?_
      refine z_istore_n (j := 3) (q := 45) (by decide +kernel) rfl (by decide) rfl ?_
      refine z_iload_n (j := 3) (q := 46) (by decide +kernel) rfl 0 rfl ?_
      refine z_bipush (n := 49) (v := 49) (q := 48) (by decide +kernel) rfl (by decide) ?_
      refine z_icmp_lt (off := 9) (t := 57) (q := 51) (by decide +kernel) (by decide) rfl ?_ ?_
      · refine zsub [] rfl ?_
        exact sj_X2_readRunner_57 g l 
      · refine z_iload_n (j := 3) (q := 52) (by decide +kernel) rfl 0 rfl ?_
        refine z_bipush (n := 57) (v := 57) (q := 54) (by decide +kernel) rfl (by decide) ?_
        refine z_icmp_le (off := 5) (t := 59) (q := 57) (by decide +kernel) (by decide) rfl ?_ ?_
        · refine z_aload_n (j := 0) (q := 60) (by decide +kernel) rfl 3 rfl ?_
          refine z_dup (q := 61) (by decide +kernel) rfl rfl ?_
          refine z_getI (q := 64) zf_RX2_9 (by decide +kernel) rfl fun x11 => ?_
          refine z_iconst (n := 1) (v := 1) (q := 65) (by decide +kernel) rfl (by decide) ?_
          refine z_iadd (q := 66) (by decide +kernel) rfl ?_
          refine z_putV (q := 69) zp_RX2_9 (fun z => by cases z) rfl rfl (by decide +kernel) rfl ?_
          refine z_aload_n (j := 0) (q := 70) (by decide +kernel) rfl 3 rfl ?_
          refine z_getA (q := 73) zf_RX2_19 (by decide +kernel) rfl fun x13 => ?_
          refine z_getA (q := 76) zf_RX2_71 (by decide +kernel) rfl fun x14 => ?_
          refine z_iload_n (j := 1) (q := 77) (by decide +kernel) rfl 2 rfl ?_
          refine z_iload_n (j := 2) (q := 78) (by decide +kernel) rfl 1 rfl ?_
          refine z_iast (q := 79) (Or.inl ⟨rfl, rfl, rfl⟩) (by decide +kernel) rfl ?_
          refine z_aload_n (j := 0) (q := 80) (by decide +kernel) rfl 3 rfl ?_
          refine z_getA (q := 83) zf_RX2_19 (by decide +kernel) rfl fun x16 => ?_
          refine z_getA (q := 86) zf_RX2_74 (by decide +kernel) rfl fun x17 => ?_
          refine z_iload_n (j := 1) (q := 87) (by decide +kernel) rfl 2 rfl ?_
          refine z_iload_n (j := 3) (q := 88) (by decide +kernel) rfl 0 rfl ?_
          refine z_bipush (n := 48) (v := 48) (q := 90) (by decide +kernel) rfl (by decide) ?_
          refine z_isub (q := 91) (by decide +kernel) rfl ?_
          refine z_iast (q := 92) (Or.inl ⟨rfl, rfl, rfl⟩) (by decide +kernel) rfl ?_
          refine z_aload_n (j := 0) (q := 93) (by decide +kernel) rfl 3 rfl ?_
          refine z_getA (q := 96) zf_RX2_19 (by decide +kernel) rfl fun x19 => ?_
          refine z_dup (q := 97) (by decide +kernel) rfl rfl ?_
          refine z_getI (q := 100) zf_RX2_65 (by decide +kernel) rfl fun x20 => ?_
          refine z_iconst (n := 1) (v := 1) (q := 101) (by decide +kernel) rfl (by decide) ?_
          refine z_iadd (q := 102) (by decide +kernel) rfl ?_
          refine z_putV (q := 105) zp_RX2_65 (fun z => by cases z) rfl rfl (by decide +kernel) rfl ?_
          refine z_aload_n (j := 0) (q := 106) (by decide +kernel) rfl 3 rfl ?_
          refine z_iload_n (j := 1) (q := 107) (by decide +kernel) rfl 2 rfl ?_
          refine z_callVI (As := [.int x2]) (st := []) (q := 110) (ct_X2_readPlan g l v0 x2) zm_RX2_77 (rc_X2_readPlan v0 x2) rfl (by decide) (by decide) (Nat.le_of_ble_eq_true rfl) rfl (by decide +kernel) rfl fun x22 => ?_
          exact z_zret (by decide +kernel)
        · refine zsub [] rfl ?_
          exact sj_X2_readRunner_57 g l 
    · refine zsub [] rfl ?_
      exact sj_X2_readRunner_28 g l 
theorem rc_X2_readRunner (v0 : Nat) : ∀ h x, dn_X2_readRunner v0 h = some x → ∃ fs, zgO 2 v0 h = some fs := fun h x hd => by
  obtain ⟨fs, e, -⟩ := Option.bind_eq_some_iff.mp hd
  exact ⟨fs, e⟩
def jn_X2_readHill_79 (v0 : Nat) : zAH → Option (Int32 × zAH) := fun h => (zgI 2 2 v0 h).bind fun x1 => some (x1, h)
theorem sj_X2_readHill_79 (g : zG) (l : Launch) (v0 : Nat) : zSm g l cX2_readHill 2 RX2 "readHill" (some .int) 4 87 zrI 79 [(0, .ref v0)] [] (jn_X2_readHill_79 v0) := by
  unfold jn_X2_readHill_79
  refine z_aload_n (j := 0) (q := 80) (by decide +kernel) rfl 0 rfl ?_
  refine z_getI (q := 83) zf_RX2_9 (by decide +kernel) rfl fun x1 => ?_
  exact z_iret (by decide +kernel)
def jn_X2_readHill_94 : zAH → Option (Int32 × zAH) := fun h => some ((-9), h)
theorem sj_X2_readHill_94 (g : zG) (l : Launch) : zSm g l cX2_readHill 2 RX2 "readHill" (some .int) 4 87 zrI 94 [] [] (jn_X2_readHill_94) := by
  unfold jn_X2_readHill_94
  refine z_bipush (n := (-9)) (v := (-9)) (q := 96) (by decide +kernel) rfl (by decide) ?_
  exact z_iret (by decide +kernel)
def lb_X2_readHill_53 (v0 : Nat) (rec : (Int32) → zAH → Option (Int32 × zAH)) (s : Int32) : zAH → Option (Int32 × zAH) := fun h => if 5 < s then jn_X2_readHill_94 h else (zgI 2 2 v0 h).bind fun x1 => (zgA 2 0 v0 h).bind fun x2 => (zgI 3 1 x2 h).bind fun x3 => if x1 < x3 then zbd (dn_X2_readRunner v0 h) fun x4 h5 => if x4 = 0 then jn_X2_readHill_79 v0 h5 else zbd (dn_X2_skipBlanks v0 h5) fun x6 h7 => rec (s + 1) h7 else jn_X2_readHill_94 h
def lp_X2_readHill_53 (v0 : Nat) (s : Int32) : zAH → Option (Int32 × zAH) := zlp (lb_X2_readHill_53 v0) 2000 s
theorem sl_X2_readHill_53 (g : zG) (l : Launch) (v0 : Nat) (s : Int32) : zSm g l cX2_readHill 2 RX2 "readHill" (some .int) 4 87 zrI 53 [(0, .ref v0), (1, .int s)] [] (lp_X2_readHill_53 v0 s) := by
  unfold lp_X2_readHill_53
  refine z_loop (lvf := fun s => [(0, .ref v0), (1, .int s)]) (fun rec hrec s => ?_) 2000 s
  unfold lb_X2_readHill_53
  refine z_iload_n (j := 1) (q := 54) (by decide +kernel) rfl 1 rfl ?_
  refine z_iconst (n := 5) (v := 5) (q := 55) (by decide +kernel) rfl (by decide) ?_
  refine z_icmp_gt (off := 39) (t := 94) (q := 58) (by decide +kernel) (by decide) rfl ?_ ?_
  · refine zsub [] rfl ?_
    exact sj_X2_readHill_94 g l 
  · refine z_aload_n (j := 0) (q := 59) (by decide +kernel) rfl 0 rfl ?_
    refine z_getI (q := 62) zf_RX2_9 (by decide +kernel) rfl fun x1 => ?_
    refine z_aload_n (j := 0) (q := 63) (by decide +kernel) rfl 0 rfl ?_
    refine z_getA (q := 66) zf_RX2_15 (by decide +kernel) rfl fun x2 => ?_
    refine z_getI (q := 69) zf_RX2_39 (by decide +kernel) rfl fun x3 => ?_
    refine z_icmp_ge (off := 25) (t := 94) (q := 72) (by decide +kernel) (by decide) rfl ?_ ?_
    · refine zsub [] rfl ?_
      exact sj_X2_readHill_94 g l 
    · refine z_aload_n (j := 0) (q := 73) (by decide +kernel) rfl 0 rfl ?_
      refine z_callVI (As := []) (st := []) (q := 76) (ct_X2_readRunner g l v0) zm_RX2_44 (rc_X2_readRunner v0) rfl (by decide) (by decide) (Nat.le_of_ble_eq_true rfl) rfl (by decide +kernel) rfl fun x4 => ?_
      refine z_if_ne (off := 8) (t := 84) (q := 79) (by decide +kernel) (by decide) rfl ?_ ?_
      · refine z_aload_n (j := 0) (q := 85) (by decide +kernel) rfl 0 rfl ?_
        refine z_callVU (As := []) (st := []) (q := 88) (ct_X2_skipBlanks g l v0) zm_RX2_28 (rc_X2_skipBlanks v0) rfl (by decide) (by decide) (Nat.le_of_ble_eq_true rfl) rfl (by decide +kernel) rfl fun x6 => ?_
        refine z_iinc (j := 1) (n := 1) (v := 1) (q := 91) (by decide +kernel) rfl 1 rfl (by decide) (by decide) rfl ?_
        refine z_goto (off := (-38)) (t := 53) (by decide +kernel) (by decide) ?_
        refine zsub [1, 0] rfl ?_
        exact hrec (s + 1)
      · refine zsub [0] rfl ?_
        exact sj_X2_readHill_79 g l v0
def dn_X2_readHill (v0 : Nat) : zAH → Option (Int32 × zAH) := fun h => (zgO 2 v0 h).bind fun _ => (zgA 2 1 v0 h).bind fun x1 => zbd (dn_X0_clear x1 h) fun x2 h3 => zbd (dn_X2_skipBlanks v0 h3) fun x4 h5 => zbd (dn_X2_sign v0 h5) fun x6 h7 => if x6 = 121 then (zgI 2 2 v0 h7).bind fun x8 => (zpF 2 2 v0 (.int (x8 + 1)) h7).bind fun h9 => zbd (dn_X2_readYards v0 h9) fun x10 h11 => if x10 = 0 then (zgI 2 2 v0 h11).bind fun x14 => some (x14, h11) else zbd (dn_X2_skipBlanks v0 h11) fun x12 h13 => lp_X2_readHill_53 v0 0 h13 else (zgI 2 2 v0 h7).bind fun x15 => some (x15, h7)
theorem ct_X2_readHill (g : zG) (l : Launch) (v0 : Nat) : zCt g l yX2_readHill cX2_readHill 2 (some .int) 4 87 zrI [.ref v0] (dn_X2_readHill v0) := by
  refine zCt_of (lv := [(0, .ref v0)]) (by decide +kernel) (Nat.le_of_ble_eq_true rfl) rfl ?_
  show zSm g l cX2_readHill 2 RX2 "readHill" (some .int) 4 87 zrI 0 [(0, .ref v0)] [] (dn_X2_readHill v0)
  unfold dn_X2_readHill
  refine z_rec ?_
  refine z_aload_n (j := 0) (q := 1) (by decide +kernel) rfl 0 rfl ?_
  refine z_getA (q := 4) zf_RX2_19 (by decide +kernel) rfl fun x1 => ?_
  refine z_callVU (As := []) (st := []) (q := 7) (ct_X0_clear g l x1) zm_RX2_23 (rc_X0_clear x1) rfl (by decide) (by decide) (Nat.le_of_ble_eq_true rfl) rfl (by decide +kernel) rfl fun x2 => ?_
  refine z_aload_n (j := 0) (q := 8) (by decide +kernel) rfl 0 rfl ?_
  refine z_callVU (As := []) (st := []) (q := 11) (ct_X2_skipBlanks g l v0) zm_RX2_28 (rc_X2_skipBlanks v0) rfl (by decide) (by decide) (Nat.le_of_ble_eq_true rfl) rfl (by decide +kernel) rfl fun x4 => ?_
  refine z_aload_n (j := 0) (q := 12) (by decide +kernel) rfl 0 rfl ?_
  refine z_callVI (As := []) (st := []) (q := 15) (ct_X2_sign g l v0) zm_RX2_31 (rc_X2_sign v0) rfl (by decide) (by decide) (Nat.le_of_ble_eq_true rfl) rfl (by decide +kernel) rfl fun x6 => ?_
  refine z_bipush (n := 121) (v := 121) (q := 17) (by decide +kernel) rfl (by decide) ?_
  refine z_icmp_eq (off := 8) (t := 25) (q := 20) (by decide +kernel) (by decide) rfl ?_ ?_
  · refine z_aload_n (j := 0) (q := 26) (by decide +kernel) rfl 0 rfl ?_
    refine z_dup (q := 27) (by decide +kernel) rfl rfl ?_
    refine z_getI (q := 30) zf_RX2_9 (by decide +kernel) rfl fun x8 => ?_
    refine z_iconst (n := 1) (v := 1) (q := 31) (by decide +kernel) rfl (by decide) ?_
    refine z_iadd (q := 32) (by decide +kernel) rfl ?_
    refine z_putV (q := 35) zp_RX2_9 (fun z => by cases z) rfl rfl (by decide +kernel) rfl ?_
    refine z_aload_n (j := 0) (q := 36) (by decide +kernel) rfl 0 rfl ?_
    refine z_callVI (As := []) (st := []) (q := 39) (ct_X2_readYards g l v0) zm_RX2_35 (rc_X2_readYards v0) rfl (by decide) (by decide) (Nat.le_of_ble_eq_true rfl) rfl (by decide +kernel) rfl fun x10 => ?_
    refine z_if_ne (off := 8) (t := 47) (q := 42) (by decide +kernel) (by decide) rfl ?_ ?_
    · refine z_aload_n (j := 0) (q := 48) (by decide +kernel) rfl 0 rfl ?_
      refine z_callVU (As := []) (st := []) (q := 51) (ct_X2_skipBlanks g l v0) zm_RX2_28 (rc_X2_skipBlanks v0) rfl (by decide) (by decide) (Nat.le_of_ble_eq_true rfl) rfl (by decide +kernel) rfl fun x12 => ?_
      refine z_iconst (n := 0) (v := 0) (q := 52) (by decide +kernel) rfl (by decide) ?_
      refine z_istore_n (j := 1) (q := 53) (by decide +kernel) rfl (by decide) rfl ?_
      refine zsub [1, 0] rfl ?_
      exact sl_X2_readHill_53 g l v0 0
    · refine z_aload_n (j := 0) (q := 43) (by decide +kernel) rfl 0 rfl ?_
      refine z_getI (q := 46) zf_RX2_9 (by decide +kernel) rfl fun x14 => ?_
      exact z_iret (by decide +kernel)
  · refine z_aload_n (j := 0) (q := 21) (by decide +kernel) rfl 0 rfl ?_
    refine z_getI (q := 24) zf_RX2_9 (by decide +kernel) rfl fun x15 => ?_
    exact z_iret (by decide +kernel)
theorem rc_X2_readHill (v0 : Nat) : ∀ h x, dn_X2_readHill v0 h = some x → ∃ fs, zgO 2 v0 h = some fs := fun h x hd => by
  obtain ⟨fs, e, -⟩ := Option.bind_eq_some_iff.mp hd
  exact ⟨fs, e⟩
def dn_X3_init (v0 : Nat) (v1 : Int32) : zAH → Option (Unit × zAH) := fun h => (zgO 3 v0 h).bind fun _ => (zpF 3 1 v0 (.int ((-9))) h).bind fun h1 => znwI 0 v1 (fun x2 h3 => (zpF 3 0 v0 (.ref x2) h3).bind fun h4 => some ((), h4)) h1
theorem ct_X3_init (g : zG) (l : Launch) (v0 : Nat) (v1 : Int32) : zCt g l yX3_init cX3_init 2 none 1 12 zrV [.ref v0, .int v1] (dn_X3_init v0 v1) := by
  refine zCt_of (lv := [(0, .ref v0), (1, .int v1)]) (by decide +kernel) (Nat.le_of_ble_eq_true rfl) rfl ?_
  show zSm g l cX3_init 2 RX3 "<init>" none 1 12 zrV 0 [(0, .ref v0), (1, .int v1)] [] (dn_X3_init v0 v1)
  unfold dn_X3_init
  refine z_rec ?_
  refine z_aload_n (j := 0) (q := 1) (by decide +kernel) rfl 0 rfl ?_
  refine z_obj (q := 4) zw197 zw89 zw90 (by decide) (by decide) (by decide +kernel) rfl ?_
  refine z_aload_n (j := 0) (q := 5) (by decide +kernel) rfl 0 rfl ?_
  refine z_bipush (n := (-9)) (v := (-9)) (q := 7) (by decide +kernel) rfl (by decide) ?_
  refine z_putV (q := 10) zp_RX3_9 (fun z => by cases z) rfl rfl (by decide +kernel) rfl ?_
  refine z_aload_n (j := 0) (q := 11) (by decide +kernel) rfl 0 rfl ?_
  refine z_iload_n (j := 1) (q := 12) (by decide +kernel) rfl 1 rfl ?_
  refine z_newI (at0 := .int) (q := 14) (Or.inl ⟨rfl, rfl⟩) zw141 (by decide +kernel) rfl fun x2 => ?_
  refine z_putV (q := 17) zp_RX3_15 (fun _ => rfl) rfl rfl (by decide +kernel) rfl ?_
  exact z_vret (by decide +kernel)
theorem rc_X3_init (v0 : Nat) (v1 : Int32) : ∀ h x, dn_X3_init v0 v1 h = some x → ∃ fs, zgO 3 v0 h = some fs := fun h x hd => by
  obtain ⟨fs, e, -⟩ := Option.bind_eq_some_iff.mp hd
  exact ⟨fs, e⟩
def jn_X3_isMissing_12 (w0 : Int32) : zAH → Option (Int32 × zAH) := fun h => if w0 = 0 ∨ w0 = 1 then some (w0, h) else none
theorem sj_X3_isMissing_12 (g : zG) (l : Launch) (w0 : Int32) : zSm g l cX3_isMissing 1 RX3 "isMissing" (some .boolean) 0 0 zrI 12 [] [.int w0] (jn_X3_isMissing_12 w0) := by
  unfold jn_X3_isMissing_12
  exact z_zret (by decide +kernel)
def dn_X3_isMissing (v0 : Nat) : zAH → Option (Int32 × zAH) := fun h => (zgO 3 v0 h).bind fun _ => (zgI 3 1 v0 h).bind fun x1 => if x1 < 0 then jn_X3_isMissing_12 1 h else jn_X3_isMissing_12 0 h
theorem ct_X3_isMissing (g : zG) (l : Launch) (v0 : Nat) : zCt g l yX3_isMissing cX3_isMissing 1 (some .boolean) 0 0 zrI [.ref v0] (dn_X3_isMissing v0) := by
  refine zCt_of (lv := [(0, .ref v0)]) (by decide +kernel) (Nat.le_of_ble_eq_true rfl) rfl ?_
  show zSm g l cX3_isMissing 1 RX3 "isMissing" (some .boolean) 0 0 zrI 0 [(0, .ref v0)] [] (dn_X3_isMissing v0)
  unfold dn_X3_isMissing
  refine z_rec ?_
  refine z_aload_n (j := 0) (q := 1) (by decide +kernel) rfl 0 rfl ?_
  refine z_getI (q := 4) zf_RX3_9 (by decide +kernel) rfl fun x1 => ?_
  refine z_if_ge (off := 7) (t := 11) (q := 7) (by decide +kernel) (by decide) rfl ?_ ?_
  · refine z_iconst (n := 0) (v := 0) (q := 12) (by decide +kernel) rfl (by decide) ?_
    refine zsub [] rfl ?_
    exact sj_X3_isMissing_12 g l 0
  · refine z_iconst (n := 1) (v := 1) (q := 8) (by decide +kernel) rfl (by decide) ?_
    refine z_goto (off := 4) (t := 12) (by decide +kernel) (by decide) ?_
    refine zsub [] rfl ?_
    exact sj_X3_isMissing_12 g l 1
theorem rc_X3_isMissing (v0 : Nat) : ∀ h x, dn_X3_isMissing v0 h = some x → ∃ fs, zgO 3 v0 h = some fs := fun h x hd => by
  obtain ⟨fs, e, -⟩ := Option.bind_eq_some_iff.mp hd
  exact ⟨fs, e⟩
def jn_X3_hasFrom_23 (w0 : Int32) : zAH → Option (Int32 × zAH) := fun h => if w0 = 0 ∨ w0 = 1 then some (w0, h) else none
theorem sj_X3_hasFrom_23 (g : zG) (l : Launch) (w0 : Int32) : zSm g l cX3_hasFrom 3 RX3 "hasFrom" (some .boolean) 0 0 zrI 23 [] [.int w0] (jn_X3_hasFrom_23 w0) := by
  unfold jn_X3_hasFrom_23
  exact z_zret (by decide +kernel)
def jn_X3_hasFrom_22 : zAH → Option (Int32 × zAH) := fun h => jn_X3_hasFrom_23 0 h
theorem sj_X3_hasFrom_22 (g : zG) (l : Launch) : zSm g l cX3_hasFrom 3 RX3 "hasFrom" (some .boolean) 0 0 zrI 22 [] [] (jn_X3_hasFrom_22) := by
  unfold jn_X3_hasFrom_22
  refine z_iconst (n := 0) (v := 0) (q := 23) (by decide +kernel) rfl (by decide) ?_
  refine zsub [] rfl ?_
  exact sj_X3_hasFrom_23 g l 0
def dn_X3_hasFrom (v0 : Nat) (v1 : Int32) (v2 : Int32) : zAH → Option (Int32 × zAH) := fun h => (zgO 3 v0 h).bind fun _ => if v1 < 0 then jn_X3_hasFrom_22 h else if v2 < 0 then jn_X3_hasFrom_22 h else (zgI 3 1 v0 h).bind fun x1 => if (x1 - v2) < v1 then jn_X3_hasFrom_22 h else jn_X3_hasFrom_23 1 h
theorem ct_X3_hasFrom (g : zG) (l : Launch) (v0 : Nat) (v1 : Int32) (v2 : Int32) : zCt g l yX3_hasFrom cX3_hasFrom 3 (some .boolean) 0 0 zrI [.ref v0, .int v1, .int v2] (dn_X3_hasFrom v0 v1 v2) := by
  refine zCt_of (lv := [(0, .ref v0), (1, .int v1), (2, .int v2)]) (by decide +kernel) (Nat.le_of_ble_eq_true rfl) rfl ?_
  show zSm g l cX3_hasFrom 3 RX3 "hasFrom" (some .boolean) 0 0 zrI 0 [(0, .ref v0), (1, .int v1), (2, .int v2)] [] (dn_X3_hasFrom v0 v1 v2)
  unfold dn_X3_hasFrom
  refine z_rec ?_
  refine z_iload_n (j := 1) (q := 1) (by decide +kernel) rfl 1 rfl ?_
  refine z_if_lt (off := 21) (t := 22) (q := 4) (by decide +kernel) (by decide) rfl ?_ ?_
  · refine zsub [] rfl ?_
    exact sj_X3_hasFrom_22 g l 
  · refine z_iload_n (j := 2) (q := 5) (by decide +kernel) rfl 2 rfl ?_
    refine z_if_lt (off := 17) (t := 22) (q := 8) (by decide +kernel) (by decide) rfl ?_ ?_
    · refine zsub [] rfl ?_
      exact sj_X3_hasFrom_22 g l 
    · refine z_iload_n (j := 1) (q := 9) (by decide +kernel) rfl 1 rfl ?_
      refine z_aload_n (j := 0) (q := 10) (by decide +kernel) rfl 0 rfl ?_
      refine z_getI (q := 13) zf_RX3_9 (by decide +kernel) rfl fun x1 => ?_
      refine z_iload_n (j := 2) (q := 14) (by decide +kernel) rfl 2 rfl ?_
      refine z_isub (q := 15) (by decide +kernel) rfl ?_
      refine z_icmp_gt (off := 7) (t := 22) (q := 18) (by decide +kernel) (by decide) rfl ?_ ?_
      · refine zsub [] rfl ?_
        exact sj_X3_hasFrom_22 g l 
      · refine z_iconst (n := 1) (v := 1) (q := 19) (by decide +kernel) rfl (by decide) ?_
        refine z_goto (off := 4) (t := 23) (by decide +kernel) (by decide) ?_
        refine zsub [] rfl ?_
        exact sj_X3_hasFrom_23 g l 1
theorem rc_X3_hasFrom (v0 : Nat) (v1 : Int32) (v2 : Int32) : ∀ h x, dn_X3_hasFrom v0 v1 v2 h = some x → ∃ fs, zgO 3 v0 h = some fs := fun h x hd => by
  obtain ⟨fs, e, -⟩ := Option.bind_eq_some_iff.mp hd
  exact ⟨fs, e⟩
def dn_X3_renew (v0 : Nat) (v1 : Int32) (v2 : Int32) : zAH → Option (Unit × zAH) := fun h => (zgO 3 v0 h).bind fun _ => (zpF 3 1 v0 (.int v1) h).bind fun h1 => (zgA 3 0 v0 h1).bind fun x2 => zbd (dn_J7_fill_53178 x2 v2 h1) fun x3 h4 => some ((), h4)
theorem ct_X3_renew (g : zG) (l : Launch) (v0 : Nat) (v1 : Int32) (v2 : Int32) : zCt g l yX3_renew cX3_renew 3 none 1 23 zrV [.ref v0, .int v1, .int v2] (dn_X3_renew v0 v1 v2) := by
  refine zCt_of (lv := [(0, .ref v0), (1, .int v1), (2, .int v2)]) (by decide +kernel) (Nat.le_of_ble_eq_true rfl) rfl ?_
  show zSm g l cX3_renew 3 RX3 "renew" none 1 23 zrV 0 [(0, .ref v0), (1, .int v1), (2, .int v2)] [] (dn_X3_renew v0 v1 v2)
  unfold dn_X3_renew
  refine z_rec ?_
  refine z_aload_n (j := 0) (q := 1) (by decide +kernel) rfl 0 rfl ?_
  refine z_iload_n (j := 1) (q := 2) (by decide +kernel) rfl 1 rfl ?_
  refine z_putV (q := 5) zp_RX3_9 (fun z => by cases z) rfl rfl (by decide +kernel) rfl ?_
  refine z_aload_n (j := 0) (q := 6) (by decide +kernel) rfl 0 rfl ?_
  refine z_getA (q := 9) zf_RX3_15 (by decide +kernel) rfl fun x2 => ?_
  refine z_iload_n (j := 2) (q := 10) (by decide +kernel) rfl 2 rfl ?_
  refine z_callSU (As := [.ref x2, .int v2]) (st := []) (q := 13) (ct_J7_fill_53178 g l x2 v2) zm_RX3_19 rfl (by decide) (by decide) (Nat.le_of_ble_eq_true rfl) rfl (by decide +kernel) rfl fun x3 => ?_
  exact z_vret (by decide +kernel)
theorem rc_X3_renew (v0 : Nat) (v1 : Int32) (v2 : Int32) : ∀ h x, dn_X3_renew v0 v1 v2 h = some x → ∃ fs, zgO 3 v0 h = some fs := fun h x hd => by
  obtain ⟨fs, e, -⟩ := Option.bind_eq_some_iff.mp hd
  exact ⟨fs, e⟩
def dn_X3_remove (v0 : Nat) : zAH → Option (Unit × zAH) := fun h => (zgO 3 v0 h).bind fun _ => (zpF 3 1 v0 (.int ((-9))) h).bind fun h1 => some ((), h1)
theorem ct_X3_remove (g : zG) (l : Launch) (v0 : Nat) : zCt g l yX3_remove cX3_remove 1 none 0 0 zrV [.ref v0] (dn_X3_remove v0) := by
  refine zCt_of (lv := [(0, .ref v0)]) (by decide +kernel) (Nat.le_of_ble_eq_true rfl) rfl ?_
  show zSm g l cX3_remove 1 RX3 "remove" none 0 0 zrV 0 [(0, .ref v0)] [] (dn_X3_remove v0)
  unfold dn_X3_remove
  refine z_rec ?_
  refine z_aload_n (j := 0) (q := 1) (by decide +kernel) rfl 0 rfl ?_
  refine z_bipush (n := (-9)) (v := (-9)) (q := 3) (by decide +kernel) rfl (by decide) ?_
  refine z_putV (q := 6) zp_RX3_9 (fun z => by cases z) rfl rfl (by decide +kernel) rfl ?_
  exact z_vret (by decide +kernel)
theorem rc_X3_remove (v0 : Nat) : ∀ h x, dn_X3_remove v0 h = some x → ∃ fs, zgO 3 v0 h = some fs := fun h x hd => by
  obtain ⟨fs, e, -⟩ := Option.bind_eq_some_iff.mp hd
  exact ⟨fs, e⟩
def jn_X3_add_39 : zAH → Option (Unit × zAH) := fun h => some ((), h)
theorem sj_X3_add_39 (g : zG) (l : Launch) : zSm g l cX3_add 2 RX3 "add" none 0 0 zrV 39 [] [] (jn_X3_add_39) := by
  unfold jn_X3_add_39
  exact z_vret (by decide +kernel)
def dn_X3_add (v0 : Nat) (v1 : Int32) : zAH → Option (Unit × zAH) := fun h => (zgO 3 v0 h).bind fun _ => (zgI 3 1 v0 h).bind fun x1 => if x1 < 0 then jn_X3_add_39 h else (zgI 3 1 v0 h).bind fun x2 => (zgA 3 0 v0 h).bind fun x3 => (zaN x3 h).bind fun x4 => if x2 < x4 then (zgA 3 0 v0 h).bind fun x5 => (zgI 3 1 v0 h).bind fun x6 => (zaS 0 x5 x6 v1 h).bind fun h7 => (zgI 3 1 v0 h7).bind fun x8 => (zpF 3 1 v0 (.int (x8 + 1)) h7).bind fun h9 => jn_X3_add_39 h9 else jn_X3_add_39 h
theorem ct_X3_add (g : zG) (l : Launch) (v0 : Nat) (v1 : Int32) : zCt g l yX3_add cX3_add 2 none 0 0 zrV [.ref v0, .int v1] (dn_X3_add v0 v1) := by
  refine zCt_of (lv := [(0, .ref v0), (1, .int v1)]) (by decide +kernel) (Nat.le_of_ble_eq_true rfl) rfl ?_
  show zSm g l cX3_add 2 RX3 "add" none 0 0 zrV 0 [(0, .ref v0), (1, .int v1)] [] (dn_X3_add v0 v1)
  unfold dn_X3_add
  refine z_rec ?_
  refine z_aload_n (j := 0) (q := 1) (by decide +kernel) rfl 0 rfl ?_
  refine z_getI (q := 4) zf_RX3_9 (by decide +kernel) rfl fun x1 => ?_
  refine z_if_lt (off := 35) (t := 39) (q := 7) (by decide +kernel) (by decide) rfl ?_ ?_
  · refine zsub [] rfl ?_
    exact sj_X3_add_39 g l 
  · refine z_aload_n (j := 0) (q := 8) (by decide +kernel) rfl 0 rfl ?_
    refine z_getI (q := 11) zf_RX3_9 (by decide +kernel) rfl fun x2 => ?_
    refine z_aload_n (j := 0) (q := 12) (by decide +kernel) rfl 0 rfl ?_
    refine z_getA (q := 15) zf_RX3_15 (by decide +kernel) rfl fun x3 => ?_
    refine z_alen (q := 16) (by decide +kernel) rfl fun x4 => ?_
    refine z_icmp_ge (off := 23) (t := 39) (q := 19) (by decide +kernel) (by decide) rfl ?_ ?_
    · refine zsub [] rfl ?_
      exact sj_X3_add_39 g l 
    · refine z_aload_n (j := 0) (q := 20) (by decide +kernel) rfl 0 rfl ?_
      refine z_getA (q := 23) zf_RX3_15 (by decide +kernel) rfl fun x5 => ?_
      refine z_aload_n (j := 0) (q := 24) (by decide +kernel) rfl 0 rfl ?_
      refine z_getI (q := 27) zf_RX3_9 (by decide +kernel) rfl fun x6 => ?_
      refine z_iload_n (j := 1) (q := 28) (by decide +kernel) rfl 1 rfl ?_
      refine z_iast (q := 29) (Or.inl ⟨rfl, rfl, rfl⟩) (by decide +kernel) rfl ?_
      refine z_aload_n (j := 0) (q := 30) (by decide +kernel) rfl 0 rfl ?_
      refine z_dup (q := 31) (by decide +kernel) rfl rfl ?_
      refine z_getI (q := 34) zf_RX3_9 (by decide +kernel) rfl fun x8 => ?_
      refine z_iconst (n := 1) (v := 1) (q := 35) (by decide +kernel) rfl (by decide) ?_
      refine z_iadd (q := 36) (by decide +kernel) rfl ?_
      refine z_putV (q := 39) zp_RX3_9 (fun z => by cases z) rfl rfl (by decide +kernel) rfl ?_
      refine zsub [] rfl ?_
      exact sj_X3_add_39 g l 
theorem rc_X3_add (v0 : Nat) (v1 : Int32) : ∀ h x, dn_X3_add v0 v1 h = some x → ∃ fs, zgO 3 v0 h = some fs := fun h x hd => by
  obtain ⟨fs, e, -⟩ := Option.bind_eq_some_iff.mp hd
  exact ⟨fs, e⟩
def jn_X3_fillFrom_32 : zAH → Option (Unit × zAH) := fun h => some ((), h)
theorem sj_X3_fillFrom_32 (g : zG) (l : Launch) : zSm g l cX3_fillFrom 4 RX3 "fillFrom" none 2 45 zrV 32 [] [] (jn_X3_fillFrom_32) := by
  unfold jn_X3_fillFrom_32
  exact z_vret (by decide +kernel)
def lb_X3_fillFrom_8 (v0 : Nat) (v1 : Nat) (v2 : Int32) (rec : (Int32) → zAH → Option (Unit × zAH)) (s : Int32) : zAH → Option (Unit × zAH) := fun h => if s < v2 then (zaN v1 h).bind fun x1 => if s < x1 then (zaI 0 v1 s h).bind fun x2 => zbd (dn_X3_add v0 x2 h) fun x3 h4 => rec (s + 1) h4 else jn_X3_fillFrom_32 h else jn_X3_fillFrom_32 h
def lp_X3_fillFrom_8 (v0 : Nat) (v1 : Nat) (v2 : Int32) (s : Int32) : zAH → Option (Unit × zAH) := zlp (lb_X3_fillFrom_8 v0 v1 v2) 2000 s
theorem sl_X3_fillFrom_8 (g : zG) (l : Launch) (v0 : Nat) (v1 : Nat) (v2 : Int32) (s : Int32) : zSm g l cX3_fillFrom 4 RX3 "fillFrom" none 2 45 zrV 8 [(0, .ref v0), (1, .ref v1), (2, .int v2), (3, .int s)] [] (lp_X3_fillFrom_8 v0 v1 v2 s) := by
  unfold lp_X3_fillFrom_8
  refine z_loop (lvf := fun s => [(0, .ref v0), (1, .ref v1), (2, .int v2), (3, .int s)]) (fun rec hrec s => ?_) 2000 s
  unfold lb_X3_fillFrom_8
  refine z_iload_n (j := 3) (q := 9) (by decide +kernel) rfl 3 rfl ?_
  refine z_iload_n (j := 2) (q := 10) (by decide +kernel) rfl 2 rfl ?_
  refine z_icmp_ge (off := 22) (t := 32) (q := 13) (by decide +kernel) (by decide) rfl ?_ ?_
  · refine zsub [] rfl ?_
    exact sj_X3_fillFrom_32 g l 
  · refine z_iload_n (j := 3) (q := 14) (by decide +kernel) rfl 3 rfl ?_
    refine z_aload_n (j := 1) (q := 15) (by decide +kernel) rfl 1 rfl ?_
    refine z_alen (q := 16) (by decide +kernel) rfl fun x1 => ?_
    refine z_icmp_ge (off := 16) (t := 32) (q := 19) (by decide +kernel) (by decide) rfl ?_ ?_
    · refine zsub [] rfl ?_
      exact sj_X3_fillFrom_32 g l 
    · refine z_aload_n (j := 0) (q := 20) (by decide +kernel) rfl 0 rfl ?_
      refine z_aload_n (j := 1) (q := 21) (by decide +kernel) rfl 1 rfl ?_
      refine z_iload_n (j := 3) (q := 22) (by decide +kernel) rfl 3 rfl ?_
      refine z_iald (q := 23) (Or.inl ⟨rfl, rfl⟩) (by decide +kernel) rfl fun x2 => ?_
      refine z_callVU (As := [.int x2]) (st := []) (q := 26) (ct_X3_add g l v0 x2) zm_RX3_29 (rc_X3_add v0 x2) rfl (by decide) (by decide) (Nat.le_of_ble_eq_true rfl) rfl (by decide +kernel) rfl fun x3 => ?_
      refine z_iinc (j := 3) (n := 1) (v := 1) (q := 29) (by decide +kernel) rfl 3 rfl (by decide) (by decide) rfl ?_
      refine z_goto (off := (-21)) (t := 8) (by decide +kernel) (by decide) ?_
      refine zsub [1, 2, 3, 0] rfl ?_
      exact hrec (s + 1)
def dn_X3_fillFrom (v0 : Nat) (v1 : Nat) (v2 : Int32) : zAH → Option (Unit × zAH) := fun h => (zgO 3 v0 h).bind fun _ => zbd (dn_X3_renew v0 0 0 h) fun x1 h2 => lp_X3_fillFrom_8 v0 v1 v2 0 h2
theorem ct_X3_fillFrom (g : zG) (l : Launch) (v0 : Nat) (v1 : Nat) (v2 : Int32) : zCt g l yX3_fillFrom cX3_fillFrom 4 none 2 45 zrV [.ref v0, .ref v1, .int v2] (dn_X3_fillFrom v0 v1 v2) := by
  refine zCt_of (lv := [(0, .ref v0), (1, .ref v1), (2, .int v2)]) (by decide +kernel) (Nat.le_of_ble_eq_true rfl) rfl ?_
  show zSm g l cX3_fillFrom 4 RX3 "fillFrom" none 2 45 zrV 0 [(0, .ref v0), (1, .ref v1), (2, .int v2)] [] (dn_X3_fillFrom v0 v1 v2)
  unfold dn_X3_fillFrom
  refine z_rec ?_
  refine z_aload_n (j := 0) (q := 1) (by decide +kernel) rfl 0 rfl ?_
  refine z_iconst (n := 0) (v := 0) (q := 2) (by decide +kernel) rfl (by decide) ?_
  refine z_iconst (n := 0) (v := 0) (q := 3) (by decide +kernel) rfl (by decide) ?_
  refine z_callVU (As := [.int 0, .int 0]) (st := []) (q := 6) (ct_X3_renew g l v0 0 0) zm_RX3_25 (rc_X3_renew v0 0 0) rfl (by decide) (by decide) (Nat.le_of_ble_eq_true rfl) rfl (by decide +kernel) rfl fun x1 => ?_
  refine z_iconst (n := 0) (v := 0) (q := 7) (by decide +kernel) rfl (by decide) ?_
  refine z_istore_n (j := 3) (q := 8) (by decide +kernel) rfl (by decide) rfl ?_
  refine zsub [1, 2, 3, 0] rfl ?_
  exact sl_X3_fillFrom_8 g l v0 v1 v2 0
theorem rc_X3_fillFrom (v0 : Nat) (v1 : Nat) (v2 : Int32) : ∀ h x, dn_X3_fillFrom v0 v1 v2 h = some x → ∃ fs, zgO 3 v0 h = some fs := fun h x hd => by
  obtain ⟨fs, e, -⟩ := Option.bind_eq_some_iff.mp hd
  exact ⟨fs, e⟩
def jn_X3_sum_28 (v1 : Int64) : zAH → Option (Int64 × zAH) := fun h => some (v1, h)
theorem sj_X3_sum_28 (g : zG) (l : Launch) (v1 : Int64) : zSm g l cX3_sum 4 RX3 "sum" (some .long) 0 0 zrL 28 [(1, .long v1)] [] (jn_X3_sum_28 v1) := by
  unfold jn_X3_sum_28
  refine z_lload_n (j := 1) (q := 29) (by decide +kernel) rfl 0 rfl ?_
  exact z_lret (by decide +kernel)
def lb_X3_sum_4 (v0 : Nat) (rec : (Int64 × Int32) → zAH → Option (Int64 × zAH)) (s : Int64 × Int32) : zAH → Option (Int64 × zAH) := fun h => (zgI 3 1 v0 h).bind fun x1 => if s.2 < x1 then (zgA 3 0 v0 h).bind fun x2 => (zaI 0 x2 s.2 h).bind fun x3 => rec (s.1 + (Int32.toInt64 x3), s.2 + 1) h else jn_X3_sum_28 s.1 h
def lp_X3_sum_4 (v0 : Nat) (s : Int64 × Int32) : zAH → Option (Int64 × zAH) := zlp (lb_X3_sum_4 v0) 2000 s
theorem sl_X3_sum_4 (g : zG) (l : Launch) (v0 : Nat) (s : Int64 × Int32) : zSm g l cX3_sum 4 RX3 "sum" (some .long) 0 0 zrL 4 [(0, .ref v0), (1, .long s.1), (3, .int s.2)] [] (lp_X3_sum_4 v0 s) := by
  unfold lp_X3_sum_4
  refine z_loop (lvf := fun s => [(0, .ref v0), (1, .long s.1), (3, .int s.2)]) (fun rec hrec s => ?_) 2000 s
  unfold lb_X3_sum_4
  refine z_iload_n (j := 3) (q := 5) (by decide +kernel) rfl 2 rfl ?_
  refine z_aload_n (j := 0) (q := 6) (by decide +kernel) rfl 0 rfl ?_
  refine z_getI (q := 9) zf_RX3_9 (by decide +kernel) rfl fun x1 => ?_
  refine z_icmp_ge (off := 19) (t := 28) (q := 12) (by decide +kernel) (by decide) rfl ?_ ?_
  · refine zsub [1] rfl ?_
    exact sj_X3_sum_28 g l s.1
  · refine z_lload_n (j := 1) (q := 13) (by decide +kernel) rfl 1 rfl ?_
    refine z_aload_n (j := 0) (q := 14) (by decide +kernel) rfl 0 rfl ?_
    refine z_getA (q := 17) zf_RX3_15 (by decide +kernel) rfl fun x2 => ?_
    refine z_iload_n (j := 3) (q := 18) (by decide +kernel) rfl 2 rfl ?_
    refine z_iald (q := 19) (Or.inl ⟨rfl, rfl⟩) (by decide +kernel) rfl fun x3 => ?_
    refine z_i2l (q := 20) (by decide +kernel) rfl ?_
    refine z_ladd (q := 21) (by decide +kernel) rfl ?_
    refine z_lstore_n (j := 1) (q := 22) (by decide +kernel) rfl (by decide) rfl ?_
    refine z_iinc (j := 3) (n := 1) (v := 1) (q := 25) (by decide +kernel) rfl 2 rfl (by decide) (by decide) rfl ?_
    refine z_goto (off := (-21)) (t := 4) (by decide +kernel) (by decide) ?_
    refine zsub [2, 1, 0] rfl ?_
    exact hrec (s.1 + (Int32.toInt64 x3), s.2 + 1)
def dn_X3_sum (v0 : Nat) : zAH → Option (Int64 × zAH) := fun h => (zgO 3 v0 h).bind fun _ => lp_X3_sum_4 v0 (0, 0) h
theorem ct_X3_sum (g : zG) (l : Launch) (v0 : Nat) : zCt g l yX3_sum cX3_sum 4 (some .long) 0 0 zrL [.ref v0] (dn_X3_sum v0) := by
  refine zCt_of (lv := [(0, .ref v0)]) (by decide +kernel) (Nat.le_of_ble_eq_true rfl) rfl ?_
  show zSm g l cX3_sum 4 RX3 "sum" (some .long) 0 0 zrL 0 [(0, .ref v0)] [] (dn_X3_sum v0)
  unfold dn_X3_sum
  refine z_rec ?_
  refine z_lconst (n := 0) (v := 0) (q := 1) (by decide +kernel) rfl (by decide) ?_
  refine z_lstore_n (j := 1) (q := 2) (by decide +kernel) rfl (by decide) rfl ?_
  refine z_iconst (n := 0) (v := 0) (q := 3) (by decide +kernel) rfl (by decide) ?_
  refine z_istore_n (j := 3) (q := 4) (by decide +kernel) rfl (by decide) rfl ?_
  refine zsub [2, 1, 0] rfl ?_
  exact sl_X3_sum_4 g l v0 (0, 0)
theorem rc_X3_sum (v0 : Nat) : ∀ h x, dn_X3_sum v0 h = some x → ∃ fs, zgO 3 v0 h = some fs := fun h x hd => by
  obtain ⟨fs, e, -⟩ := Option.bind_eq_some_iff.mp hd
  exact ⟨fs, e⟩
def jn_X3_placeOf_20 (v2 : Int32) : zAH → Option (Int32 × zAH) := fun h => some (v2, h)
theorem sj_X3_placeOf_20 (g : zG) (l : Launch) (v2 : Int32) : zSm g l cX3_placeOf 3 RX3 "placeOf" (some .int) 0 0 zrI 20 [(2, .int v2)] [] (jn_X3_placeOf_20 v2) := by
  unfold jn_X3_placeOf_20
  refine z_iload_n (j := 2) (q := 21) (by decide +kernel) rfl 0 rfl ?_
  exact z_iret (by decide +kernel)
def jn_X3_placeOf_28 : zAH → Option (Int32 × zAH) := fun h => some ((-9), h)
theorem sj_X3_placeOf_28 (g : zG) (l : Launch) : zSm g l cX3_placeOf 3 RX3 "placeOf" (some .int) 0 0 zrI 28 [] [] (jn_X3_placeOf_28) := by
  unfold jn_X3_placeOf_28
  refine z_bipush (n := (-9)) (v := (-9)) (q := 30) (by decide +kernel) rfl (by decide) ?_
  exact z_iret (by decide +kernel)
def lb_X3_placeOf_2 (v0 : Nat) (v1 : Int32) (rec : (Int32) → zAH → Option (Int32 × zAH)) (s : Int32) : zAH → Option (Int32 × zAH) := fun h => (zgI 3 1 v0 h).bind fun x1 => if s < x1 then (zgA 3 0 v0 h).bind fun x2 => (zaI 0 x2 s h).bind fun x3 => if x3 = v1 then jn_X3_placeOf_20 s h else rec (s + 1) h else jn_X3_placeOf_28 h
def lp_X3_placeOf_2 (v0 : Nat) (v1 : Int32) (s : Int32) : zAH → Option (Int32 × zAH) := zlp (lb_X3_placeOf_2 v0 v1) 2000 s
theorem sl_X3_placeOf_2 (g : zG) (l : Launch) (v0 : Nat) (v1 : Int32) (s : Int32) : zSm g l cX3_placeOf 3 RX3 "placeOf" (some .int) 0 0 zrI 2 [(0, .ref v0), (1, .int v1), (2, .int s)] [] (lp_X3_placeOf_2 v0 v1 s) := by
  unfold lp_X3_placeOf_2
  refine z_loop (lvf := fun s => [(0, .ref v0), (1, .int v1), (2, .int s)]) (fun rec hrec s => ?_) 2000 s
  unfold lb_X3_placeOf_2
  refine z_iload_n (j := 2) (q := 3) (by decide +kernel) rfl 2 rfl ?_
  refine z_aload_n (j := 0) (q := 4) (by decide +kernel) rfl 0 rfl ?_
  refine z_getI (q := 7) zf_RX3_9 (by decide +kernel) rfl fun x1 => ?_
  refine z_icmp_ge (off := 21) (t := 28) (q := 10) (by decide +kernel) (by decide) rfl ?_ ?_
  · refine zsub [] rfl ?_
    exact sj_X3_placeOf_28 g l 
  · refine z_aload_n (j := 0) (q := 11) (by decide +kernel) rfl 0 rfl ?_
    refine z_getA (q := 14) zf_RX3_15 (by decide +kernel) rfl fun x2 => ?_
    refine z_iload_n (j := 2) (q := 15) (by decide +kernel) rfl 2 rfl ?_
    refine z_iald (q := 16) (Or.inl ⟨rfl, rfl⟩) (by decide +kernel) rfl fun x3 => ?_
    refine z_iload_n (j := 1) (q := 17) (by decide +kernel) rfl 1 rfl ?_
    refine z_icmp_ne (off := 5) (t := 22) (q := 20) (by decide +kernel) (by decide) rfl ?_ ?_
    · refine z_iinc (j := 2) (n := 1) (v := 1) (q := 25) (by decide +kernel) rfl 2 rfl (by decide) (by decide) rfl ?_
      refine z_goto (off := (-23)) (t := 2) (by decide +kernel) (by decide) ?_
      refine zsub [1, 2, 0] rfl ?_
      exact hrec (s + 1)
    · refine zsub [2] rfl ?_
      exact sj_X3_placeOf_20 g l s
def dn_X3_placeOf (v0 : Nat) (v1 : Int32) : zAH → Option (Int32 × zAH) := fun h => (zgO 3 v0 h).bind fun _ => lp_X3_placeOf_2 v0 v1 0 h
theorem ct_X3_placeOf (g : zG) (l : Launch) (v0 : Nat) (v1 : Int32) : zCt g l yX3_placeOf cX3_placeOf 3 (some .int) 0 0 zrI [.ref v0, .int v1] (dn_X3_placeOf v0 v1) := by
  refine zCt_of (lv := [(0, .ref v0), (1, .int v1)]) (by decide +kernel) (Nat.le_of_ble_eq_true rfl) rfl ?_
  show zSm g l cX3_placeOf 3 RX3 "placeOf" (some .int) 0 0 zrI 0 [(0, .ref v0), (1, .int v1)] [] (dn_X3_placeOf v0 v1)
  unfold dn_X3_placeOf
  refine z_rec ?_
  refine z_iconst (n := 0) (v := 0) (q := 1) (by decide +kernel) rfl (by decide) ?_
  refine z_istore_n (j := 2) (q := 2) (by decide +kernel) rfl (by decide) rfl ?_
  refine zsub [1, 2, 0] rfl ?_
  exact sl_X3_placeOf_2 g l v0 v1 0
theorem rc_X3_placeOf (v0 : Nat) (v1 : Int32) : ∀ h x, dn_X3_placeOf v0 v1 h = some x → ∃ fs, zgO 3 v0 h = some fs := fun h x hd => by
  obtain ⟨fs, e, -⟩ := Option.bind_eq_some_iff.mp hd
  exact ⟨fs, e⟩
def jn_X3_runnersIn_40 : zAH → Option (Int32 × zAH) := fun h => some ((-9), h)
theorem sj_X3_runnersIn_40 (g : zG) (l : Launch) : zSm g l cX3_runnersIn 5 RX3 "runnersIn" (some .int) 0 0 zrI 40 [] [] (jn_X3_runnersIn_40) := by
  unfold jn_X3_runnersIn_40
  refine z_bipush (n := (-9)) (v := (-9)) (q := 42) (by decide +kernel) rfl (by decide) ?_
  exact z_iret (by decide +kernel)
def jn_X3_runnersIn_56 (v2 : Int32) : zAH → Option (Int32 × zAH) := fun h => some (v2, h)
theorem sj_X3_runnersIn_56 (g : zG) (l : Launch) (v2 : Int32) : zSm g l cX3_runnersIn 5 RX3 "runnersIn" (some .int) 0 0 zrI 56 [(2, .int v2)] [] (jn_X3_runnersIn_56 v2) := by
  unfold jn_X3_runnersIn_56
  refine z_iload_n (j := 2) (q := 57) (by decide +kernel) rfl 0 rfl ?_
  exact z_iret (by decide +kernel)
def lb_X3_runnersIn_4 (v0 : Nat) (v1 : Int32) (rec : (Int32 × Int32) → zAH → Option (Int32 × zAH)) (s : Int32 × Int32) : zAH → Option (Int32 × zAH) := fun h => (zgI 3 1 v0 h).bind fun x1 => if s.2 < x1 then (zgA 3 0 v0 h).bind fun x2 => (zaI 0 x2 s.2 h).bind fun x3 => if x3 < 0 then jn_X3_runnersIn_40 h else if x3 < v1 then if (s.1 &&& (1 <<< (x3 &&& 31))) = 0 then rec (s.1 ||| (1 <<< (x3 &&& 31)), s.2 + 1) h else jn_X3_runnersIn_40 h else jn_X3_runnersIn_40 h else jn_X3_runnersIn_56 s.1 h
def lp_X3_runnersIn_4 (v0 : Nat) (v1 : Int32) (s : Int32 × Int32) : zAH → Option (Int32 × zAH) := zlp (lb_X3_runnersIn_4 v0 v1) 2000 s
theorem sl_X3_runnersIn_4 (g : zG) (l : Launch) (v0 : Nat) (v1 : Int32) (s : Int32 × Int32) : zSm g l cX3_runnersIn 5 RX3 "runnersIn" (some .int) 0 0 zrI 4 [(0, .ref v0), (1, .int v1), (2, .int s.1), (3, .int s.2)] [] (lp_X3_runnersIn_4 v0 v1 s) := by
  unfold lp_X3_runnersIn_4
  refine z_loop (lvf := fun s => [(0, .ref v0), (1, .int v1), (2, .int s.1), (3, .int s.2)]) (fun rec hrec s => ?_) 2000 s
  unfold lb_X3_runnersIn_4
  refine z_iload_n (j := 3) (q := 5) (by decide +kernel) rfl 3 rfl ?_
  refine z_aload_n (j := 0) (q := 6) (by decide +kernel) rfl 0 rfl ?_
  refine z_getI (q := 9) zf_RX3_9 (by decide +kernel) rfl fun x1 => ?_
  refine z_icmp_ge (off := 47) (t := 56) (q := 12) (by decide +kernel) (by decide) rfl ?_ ?_
  · refine zsub [2] rfl ?_
    exact sj_X3_runnersIn_56 g l s.1
  · refine z_aload_n (j := 0) (q := 13) (by decide +kernel) rfl 0 rfl ?_
    refine z_getA (q := 16) zf_RX3_15 (by decide +kernel) rfl fun x2 => ?_
    refine z_iload_n (j := 3) (q := 17) (by decide +kernel) rfl 3 rfl ?_
    refine z_iald (q := 18) (Or.inl ⟨rfl, rfl⟩) (by decide +kernel) rfl fun x3 => ?_
    refine z_istore (j := 4) (q := 20) (by decide +kernel) rfl (by decide) rfl ?_
    refine z_iload (j := 4) (q := 22) (by decide +kernel) rfl 0 rfl ?_
    refine z_if_lt (off := 18) (t := 40) (q := 25) (by decide +kernel) (by decide) rfl ?_ ?_
    · refine zsub [] rfl ?_
      exact sj_X3_runnersIn_40 g l 
    · refine z_iload (j := 4) (q := 27) (by decide +kernel) rfl 0 rfl ?_
      refine z_iload_n (j := 1) (q := 28) (by decide +kernel) rfl 2 rfl ?_
      refine z_icmp_ge (off := 12) (t := 40) (q := 31) (by decide +kernel) (by decide) rfl ?_ ?_
      · refine zsub [] rfl ?_
        exact sj_X3_runnersIn_40 g l 
      · refine z_iload_n (j := 2) (q := 32) (by decide +kernel) rfl 3 rfl ?_
        refine z_iconst (n := 1) (v := 1) (q := 33) (by decide +kernel) rfl (by decide) ?_
        refine z_iload (j := 4) (q := 35) (by decide +kernel) rfl 0 rfl ?_
        refine z_ishl (q := 36) (by decide +kernel) rfl ?_
        refine z_iand (q := 37) (by decide +kernel) rfl ?_
        refine z_if_eq (off := 6) (t := 43) (q := 40) (by decide +kernel) (by decide) rfl ?_ ?_
        · refine z_iload_n (j := 2) (q := 44) (by decide +kernel) rfl 3 rfl ?_
          refine z_iconst (n := 1) (v := 1) (q := 45) (by decide +kernel) rfl (by decide) ?_
          refine z_iload (j := 4) (q := 47) (by decide +kernel) rfl 0 rfl ?_
          refine z_ishl (q := 48) (by decide +kernel) rfl ?_
          refine z_ior (q := 49) (by decide +kernel) rfl ?_
          refine z_istore_n (j := 2) (q := 50) (by decide +kernel) rfl (by decide) rfl ?_
          refine z_iinc (j := 3) (n := 1) (v := 1) (q := 53) (by decide +kernel) rfl 4 rfl (by decide) (by decide) rfl ?_
          refine z_goto (off := (-49)) (t := 4) (by decide +kernel) (by decide) ?_
          refine zsub [3, 4, 1, 0] rfl ?_
          exact hrec (s.1 ||| (1 <<< (x3 &&& 31)), s.2 + 1)
        · refine zsub [] rfl ?_
          exact sj_X3_runnersIn_40 g l 
def dn_X3_runnersIn (v0 : Nat) (v1 : Int32) : zAH → Option (Int32 × zAH) := fun h => (zgO 3 v0 h).bind fun _ => lp_X3_runnersIn_4 v0 v1 (0, 0) h
theorem ct_X3_runnersIn (g : zG) (l : Launch) (v0 : Nat) (v1 : Int32) : zCt g l yX3_runnersIn cX3_runnersIn 5 (some .int) 0 0 zrI [.ref v0, .int v1] (dn_X3_runnersIn v0 v1) := by
  refine zCt_of (lv := [(0, .ref v0), (1, .int v1)]) (by decide +kernel) (Nat.le_of_ble_eq_true rfl) rfl ?_
  show zSm g l cX3_runnersIn 5 RX3 "runnersIn" (some .int) 0 0 zrI 0 [(0, .ref v0), (1, .int v1)] [] (dn_X3_runnersIn v0 v1)
  unfold dn_X3_runnersIn
  refine z_rec ?_
  refine z_iconst (n := 0) (v := 0) (q := 1) (by decide +kernel) rfl (by decide) ?_
  refine z_istore_n (j := 2) (q := 2) (by decide +kernel) rfl (by decide) rfl ?_
  refine z_iconst (n := 0) (v := 0) (q := 3) (by decide +kernel) rfl (by decide) ?_
  refine z_istore_n (j := 3) (q := 4) (by decide +kernel) rfl (by decide) rfl ?_
  refine zsub [2, 3, 1, 0] rfl ?_
  exact sl_X3_runnersIn_4 g l v0 v1 (0, 0)
theorem rc_X3_runnersIn (v0 : Nat) (v1 : Int32) : ∀ h x, dn_X3_runnersIn v0 v1 h = some x → ∃ fs, zgO 3 v0 h = some fs := fun h x hd => by
  obtain ⟨fs, e, -⟩ := Option.bind_eq_some_iff.mp hd
  exact ⟨fs, e⟩
def jn_X3_digestInto_56 (v3 : Int64) : zAH → Option (Int64 × zAH) := fun h => some (v3, h)
theorem sj_X3_digestInto_56 (g : zG) (l : Launch) (v3 : Int64) : zSm g l cX3_digestInto 6 RX3 "digestInto" (some .long) 1 20 zrL 56 [(3, .long v3)] [] (jn_X3_digestInto_56 v3) := by
  unfold jn_X3_digestInto_56
  refine z_lload_n (j := 3) (q := 57) (by decide +kernel) rfl 0 rfl ?_
  exact z_lret (by decide +kernel)
def lb_X3_digestInto_26 (v0 : Nat) (rec : (Int64 × Int32) → zAH → Option (Int64 × zAH)) (s : Int64 × Int32) : zAH → Option (Int64 × zAH) := fun h => (zgI 3 1 v0 h).bind fun x1 => if s.2 < x1 then (zgA 3 0 v0 h).bind fun x2 => (zaI 0 x2 s.2 h).bind fun x3 => rec ((31 * s.1) + (Int32.toInt64 x3), s.2 + 1) h else jn_X3_digestInto_56 s.1 h
def lp_X3_digestInto_26 (v0 : Nat) (s : Int64 × Int32) : zAH → Option (Int64 × zAH) := zlp (lb_X3_digestInto_26 v0) 2000 s
theorem sl_X3_digestInto_26 (g : zG) (l : Launch) (v0 : Nat) (s : Int64 × Int32) : zSm g l cX3_digestInto 6 RX3 "digestInto" (some .long) 1 20 zrL 26 [(0, .ref v0), (3, .long s.1), (5, .int s.2)] [] (lp_X3_digestInto_26 v0 s) := by
  unfold lp_X3_digestInto_26
  refine z_loop (lvf := fun s => [(0, .ref v0), (3, .long s.1), (5, .int s.2)]) (fun rec hrec s => ?_) 2000 s
  unfold lb_X3_digestInto_26
  refine z_iload (j := 5) (q := 28) (by decide +kernel) rfl 2 rfl ?_
  refine z_aload_n (j := 0) (q := 29) (by decide +kernel) rfl 0 rfl ?_
  refine z_getI (q := 32) zf_RX3_9 (by decide +kernel) rfl fun x1 => ?_
  refine z_icmp_ge (off := 24) (t := 56) (q := 35) (by decide +kernel) (by decide) rfl ?_ ?_
  · refine zsub [1] rfl ?_
    exact sj_X3_digestInto_56 g l s.1
  · refine z_ldc2 (i := 33) (v := 31) (q := 38) (by decide +kernel) rfl zw757 ?_
    refine z_lload_n (j := 3) (q := 39) (by decide +kernel) rfl 1 rfl ?_
    refine z_lmul (q := 40) (by decide +kernel) rfl ?_
    refine z_aload_n (j := 0) (q := 41) (by decide +kernel) rfl 0 rfl ?_
    refine z_getA (q := 44) zf_RX3_15 (by decide +kernel) rfl fun x2 => ?_
    refine z_iload (j := 5) (q := 46) (by decide +kernel) rfl 2 rfl ?_
    refine z_iald (q := 47) (Or.inl ⟨rfl, rfl⟩) (by decide +kernel) rfl fun x3 => ?_
    refine z_i2l (q := 48) (by decide +kernel) rfl ?_
    refine z_ladd (q := 49) (by decide +kernel) rfl ?_
    refine z_lstore_n (j := 3) (q := 50) (by decide +kernel) rfl (by decide) rfl ?_
    refine z_iinc (j := 5) (n := 1) (v := 1) (q := 53) (by decide +kernel) rfl 2 rfl (by decide) (by decide) rfl ?_
    refine z_goto (off := (-27)) (t := 26) (by decide +kernel) (by decide) ?_
    refine zsub [2, 1, 0] rfl ?_
    exact hrec ((31 * s.1) + (Int32.toInt64 x3), s.2 + 1)
def jn_X3_digestInto_20 (v0 : Nat) (w0 : Int64) (w1 : Int32) : zAH → Option (Int64 × zAH) := fun h => lp_X3_digestInto_26 v0 (w0 + (Int32.toInt64 w1), 0) h
theorem sj_X3_digestInto_20 (g : zG) (l : Launch) (v0 : Nat) (w0 : Int64) (w1 : Int32) : zSm g l cX3_digestInto 6 RX3 "digestInto" (some .long) 1 20 zrL 20 [(0, .ref v0)] [.int w1, .long w0] (jn_X3_digestInto_20 v0 w0 w1) := by
  unfold jn_X3_digestInto_20
  refine z_i2l (q := 21) (by decide +kernel) rfl ?_
  refine z_ladd (q := 22) (by decide +kernel) rfl ?_
  refine z_lstore_n (j := 3) (q := 23) (by decide +kernel) rfl (by decide) rfl ?_
  refine z_iconst (n := 0) (v := 0) (q := 24) (by decide +kernel) rfl (by decide) ?_
  refine z_istore (j := 5) (q := 26) (by decide +kernel) rfl (by decide) rfl ?_
  refine zsub [2, 1, 0] rfl ?_
  exact sl_X3_digestInto_26 g l v0 (w0 + (Int32.toInt64 w1), 0)
def dn_X3_digestInto (v0 : Nat) (v1 : Int64) : zAH → Option (Int64 × zAH) := fun h => (zgO 3 v0 h).bind fun _ => zbd (dn_X3_isMissing v0 h) fun x1 h2 => if x1 = 0 then (zgI 3 1 v0 h2).bind fun x3 => jn_X3_digestInto_20 v0 (31 * v1) x3 h2 else jn_X3_digestInto_20 v0 (31 * v1) ((-1)) h2
theorem ct_X3_digestInto (g : zG) (l : Launch) (v0 : Nat) (v1 : Int64) : zCt g l yX3_digestInto cX3_digestInto 6 (some .long) 1 20 zrL [.ref v0, .long v1] (dn_X3_digestInto v0 v1) := by
  refine zCt_of (lv := [(0, .ref v0), (1, .long v1)]) (by decide +kernel) (Nat.le_of_ble_eq_true rfl) rfl ?_
  show zSm g l cX3_digestInto 6 RX3 "digestInto" (some .long) 1 20 zrL 0 [(0, .ref v0), (1, .long v1)] [] (dn_X3_digestInto v0 v1)
  unfold dn_X3_digestInto
  refine z_rec ?_
  refine z_ldc2 (i := 33) (v := 31) (q := 3) (by decide +kernel) rfl zw757 ?_
  refine z_lload_n (j := 1) (q := 4) (by decide +kernel) rfl 1 rfl ?_
  refine z_lmul (q := 5) (by decide +kernel) rfl ?_
  refine z_aload_n (j := 0) (q := 6) (by decide +kernel) rfl 0 rfl ?_
  refine z_callVI (As := []) (st := [.long (31 * v1)]) (q := 9) (ct_X3_isMissing g l v0) zm_RX3_35 (rc_X3_isMissing v0) rfl (by decide) (by decide) (Nat.le_of_ble_eq_true rfl) rfl (by decide +kernel) rfl fun x1 => ?_
  refine z_if_eq (off := 7) (t := 16) (q := 12) (by decide +kernel) (by decide) rfl ?_ ?_
  · refine z_aload_n (j := 0) (q := 17) (by decide +kernel) rfl 0 rfl ?_
    refine z_getI (q := 20) zf_RX3_9 (by decide +kernel) rfl fun x3 => ?_
    refine zsub [0] rfl ?_
    exact sj_X3_digestInto_20 g l v0 (31 * v1) x3
  · refine z_iconst (n := (-1)) (v := (-1)) (q := 13) (by decide +kernel) rfl (by decide) ?_
    refine z_goto (off := 7) (t := 20) (by decide +kernel) (by decide) ?_
    refine zsub [0] rfl ?_
    exact sj_X3_digestInto_20 g l v0 (31 * v1) ((-1))
theorem rc_X3_digestInto (v0 : Nat) (v1 : Int64) : ∀ h x, dn_X3_digestInto v0 v1 h = some x → ∃ fs, zgO 3 v0 h = some fs := fun h x hd => by
  obtain ⟨fs, e, -⟩ := Option.bind_eq_some_iff.mp hd
  exact ⟨fs, e⟩
def jn_X4_init_226 (v0 : Nat) : zAH → Option (Unit × zAH) := fun h => (zgA 4 13 v0 h).bind fun x1 => zbd (dn_J7_fill_53178 x1 ((-1)) h) fun x2 h3 => some ((), h3)
theorem sj_X4_init_226 (g : zG) (l : Launch) (v0 : Nat) : zSm g l cX4_init 2 RX4 "<init>" none 2 33 zrV 226 [(0, .ref v0)] [] (jn_X4_init_226 v0) := by
  unfold jn_X4_init_226
  refine z_aload_n (j := 0) (q := 227) (by decide +kernel) rfl 0 rfl ?_
  refine z_getA (q := 230) zf_RX4_63 (by decide +kernel) rfl fun x1 => ?_
  refine z_iconst (n := (-1)) (v := (-1)) (q := 231) (by decide +kernel) rfl (by decide) ?_
  refine z_callSU (As := [.ref x1, .int ((-1))]) (st := []) (q := 234) (ct_J7_fill_53178 g l x1 ((-1))) zm_RX4_81 rfl (by decide) (by decide) (Nat.le_of_ble_eq_true rfl) rfl (by decide +kernel) rfl fun x2 => ?_
  exact z_vret (by decide +kernel)
def lb_X4_init_202 (v0 : Nat) (rec : (Int32) → zAH → Option (Unit × zAH)) (s : Int32) : zAH → Option (Unit × zAH) := fun h => if s < 3 then (zgA 4 6 v0 h).bind fun x1 => znw 1 zdf_1 (fun x2 h3 => zbd (dn_X1_init x2 h3) fun x4 h5 => (zaQ 4 x1 s x2 h5).bind fun h6 => rec (s + 1) h6) h else jn_X4_init_226 v0 h
def lp_X4_init_202 (v0 : Nat) (s : Int32) : zAH → Option (Unit × zAH) := zlp (lb_X4_init_202 v0) 2000 s
theorem sl_X4_init_202 (g : zG) (l : Launch) (v0 : Nat) (s : Int32) : zSm g l cX4_init 2 RX4 "<init>" none 2 33 zrV 202 [(0, .ref v0), (1, .int s)] [] (lp_X4_init_202 v0 s) := by
  unfold lp_X4_init_202
  refine z_loop (lvf := fun s => [(0, .ref v0), (1, .int s)]) (fun rec hrec s => ?_) 2000 s
  unfold lb_X4_init_202
  refine z_iload_n (j := 1) (q := 203) (by decide +kernel) rfl 1 rfl ?_
  refine z_iconst (n := 3) (v := 3) (q := 204) (by decide +kernel) rfl (by decide) ?_
  refine z_icmp_ge (off := 22) (t := 226) (q := 207) (by decide +kernel) (by decide) rfl ?_ ?_
  · refine zsub [0] rfl ?_
    exact sj_X4_init_226 g l v0
  · refine z_aload_n (j := 0) (q := 208) (by decide +kernel) rfl 0 rfl ?_
    refine z_getA (q := 211) zf_RX4_38 (by decide +kernel) rfl fun x1 => ?_
    refine z_iload_n (j := 1) (q := 212) (by decide +kernel) rfl 1 rfl ?_
    refine z_new (q := 215) zn_RX4_28 (by decide +kernel) rfl fun x2 => ?_
    refine z_dup (q := 216) (by decide +kernel) rfl rfl ?_
    refine z_callC (As := []) (st := [.ref x2, .int s, .ref x1]) (q := 219) (ct_X1_init g l x2) zm_RX4_30 (rc_X1_init x2) rfl (by decide) (by decide) (Nat.le_of_ble_eq_true rfl) rfl (by decide +kernel) rfl fun x4 => ?_
    refine z_aast (q := 220) (by decide) (by decide +kernel) rfl ?_
    refine z_iinc (j := 1) (n := 1) (v := 1) (q := 223) (by decide +kernel) rfl 1 rfl (by decide) (by decide) rfl ?_
    refine z_goto (off := (-21)) (t := 202) (by decide +kernel) (by decide) ?_
    refine zsub [1, 0] rfl ?_
    exact hrec (s + 1)
def jn_X4_init_200 (v0 : Nat) : zAH → Option (Unit × zAH) := fun h => lp_X4_init_202 v0 0 h
theorem sj_X4_init_200 (g : zG) (l : Launch) (v0 : Nat) : zSm g l cX4_init 2 RX4 "<init>" none 2 33 zrV 200 [(0, .ref v0)] [] (jn_X4_init_200 v0) := by
  unfold jn_X4_init_200
  refine z_iconst (n := 0) (v := 0) (q := 201) (by decide +kernel) rfl (by decide) ?_
  refine z_istore_n (j := 1) (q := 202) (by decide +kernel) rfl (by decide) rfl ?_
  refine zsub [1, 0] rfl ?_
  exact sl_X4_init_202 g l v0 0
def lb_X4_init_174 (v0 : Nat) (rec : (Int32) → zAH → Option (Unit × zAH)) (s : Int32) : zAH → Option (Unit × zAH) := fun h => if s < 4 then (zgA 4 1 v0 h).bind fun x1 => znw 3 zdf_3 (fun x2 h3 => zbd (dn_X3_init x2 100 h3) fun x4 h5 => (zaQ 3 x1 s x2 h5).bind fun h6 => rec (s + 1) h6) h else jn_X4_init_200 v0 h
def lp_X4_init_174 (v0 : Nat) (s : Int32) : zAH → Option (Unit × zAH) := zlp (lb_X4_init_174 v0) 2000 s
theorem sl_X4_init_174 (g : zG) (l : Launch) (v0 : Nat) (s : Int32) : zSm g l cX4_init 2 RX4 "<init>" none 2 33 zrV 174 [(0, .ref v0), (1, .int s)] [] (lp_X4_init_174 v0 s) := by
  unfold lp_X4_init_174
  refine z_loop (lvf := fun s => [(0, .ref v0), (1, .int s)]) (fun rec hrec s => ?_) 2000 s
  unfold lb_X4_init_174
  refine z_iload_n (j := 1) (q := 175) (by decide +kernel) rfl 1 rfl ?_
  refine z_iconst (n := 4) (v := 4) (q := 176) (by decide +kernel) rfl (by decide) ?_
  refine z_icmp_ge (off := 24) (t := 200) (q := 179) (by decide +kernel) (by decide) rfl ?_ ?_
  · refine zsub [0] rfl ?_
    exact sj_X4_init_200 g l v0
  · refine z_aload_n (j := 0) (q := 180) (by decide +kernel) rfl 0 rfl ?_
    refine z_getA (q := 183) zf_RX4_15 (by decide +kernel) rfl fun x1 => ?_
    refine z_iload_n (j := 1) (q := 184) (by decide +kernel) rfl 1 rfl ?_
    refine z_new (q := 187) zn_RX4_9 (by decide +kernel) rfl fun x2 => ?_
    refine z_dup (q := 188) (by decide +kernel) rfl rfl ?_
    refine z_bipush (n := 100) (v := 100) (q := 190) (by decide +kernel) rfl (by decide) ?_
    refine z_callC (As := [.int 100]) (st := [.ref x2, .int s, .ref x1]) (q := 193) (ct_X3_init g l x2 100) zm_RX4_78 (rc_X3_init x2 100) rfl (by decide) (by decide) (Nat.le_of_ble_eq_true rfl) rfl (by decide +kernel) rfl fun x4 => ?_
    refine z_aast (q := 194) (by decide) (by decide +kernel) rfl ?_
    refine z_iinc (j := 1) (n := 1) (v := 1) (q := 197) (by decide +kernel) rfl 1 rfl (by decide) (by decide) rfl ?_
    refine z_goto (off := (-23)) (t := 174) (by decide +kernel) (by decide) ?_
    refine zsub [1, 0] rfl ?_
    exact hrec (s + 1)
def jn_X4_init_172 (v0 : Nat) : zAH → Option (Unit × zAH) := fun h => lp_X4_init_174 v0 0 h
theorem sj_X4_init_172 (g : zG) (l : Launch) (v0 : Nat) : zSm g l cX4_init 2 RX4 "<init>" none 2 33 zrV 172 [(0, .ref v0)] [] (jn_X4_init_172 v0) := by
  unfold jn_X4_init_172
  refine z_iconst (n := 0) (v := 0) (q := 173) (by decide +kernel) rfl (by decide) ?_
  refine z_istore_n (j := 1) (q := 174) (by decide +kernel) rfl (by decide) rfl ?_
  refine zsub [1, 0] rfl ?_
  exact sl_X4_init_174 g l v0 0
def lb_X4_init_145 (v0 : Nat) (rec : (Int32) → zAH → Option (Unit × zAH)) (s : Int32) : zAH → Option (Unit × zAH) := fun h => if s < 6 then (zgA 4 0 v0 h).bind fun x1 => znw 3 zdf_3 (fun x2 h3 => zbd (dn_X3_init x2 60 h3) fun x4 h5 => (zaQ 3 x1 s x2 h5).bind fun h6 => rec (s + 1) h6) h else jn_X4_init_172 v0 h
def lp_X4_init_145 (v0 : Nat) (s : Int32) : zAH → Option (Unit × zAH) := zlp (lb_X4_init_145 v0) 2000 s
theorem sl_X4_init_145 (g : zG) (l : Launch) (v0 : Nat) (s : Int32) : zSm g l cX4_init 2 RX4 "<init>" none 2 33 zrV 145 [(0, .ref v0), (1, .int s)] [] (lp_X4_init_145 v0 s) := by
  unfold lp_X4_init_145
  refine z_loop (lvf := fun s => [(0, .ref v0), (1, .int s)]) (fun rec hrec s => ?_) 2000 s
  unfold lb_X4_init_145
  refine z_iload_n (j := 1) (q := 146) (by decide +kernel) rfl 1 rfl ?_
  refine z_bipush (n := 6) (v := 6) (q := 148) (by decide +kernel) rfl (by decide) ?_
  refine z_icmp_ge (off := 24) (t := 172) (q := 151) (by decide +kernel) (by decide) rfl ?_ ?_
  · refine zsub [0] rfl ?_
    exact sj_X4_init_172 g l v0
  · refine z_aload_n (j := 0) (q := 152) (by decide +kernel) rfl 0 rfl ?_
    refine z_getA (q := 155) zf_RX4_11 (by decide +kernel) rfl fun x1 => ?_
    refine z_iload_n (j := 1) (q := 156) (by decide +kernel) rfl 1 rfl ?_
    refine z_new (q := 159) zn_RX4_9 (by decide +kernel) rfl fun x2 => ?_
    refine z_dup (q := 160) (by decide +kernel) rfl rfl ?_
    refine z_bipush (n := 60) (v := 60) (q := 162) (by decide +kernel) rfl (by decide) ?_
    refine z_callC (As := [.int 60]) (st := [.ref x2, .int s, .ref x1]) (q := 165) (ct_X3_init g l x2 60) zm_RX4_78 (rc_X3_init x2 60) rfl (by decide) (by decide) (Nat.le_of_ble_eq_true rfl) rfl (by decide +kernel) rfl fun x4 => ?_
    refine z_aast (q := 166) (by decide) (by decide +kernel) rfl ?_
    refine z_iinc (j := 1) (n := 1) (v := 1) (q := 169) (by decide +kernel) rfl 1 rfl (by decide) (by decide) rfl ?_
    refine z_goto (off := (-24)) (t := 145) (by decide +kernel) (by decide) ?_
    refine zsub [1, 0] rfl ?_
    exact hrec (s + 1)
def dn_X4_init (v0 : Nat) : zAH → Option (Unit × zAH) := fun h => (zgO 4 v0 h).bind fun _ => znwR 3 6 (fun x1 h2 => (zpF 4 0 v0 (.ref x1) h2).bind fun h3 => znwR 3 4 (fun x4 h5 => (zpF 4 1 v0 (.ref x4) h5).bind fun h6 => znw 0 zdf_0 (fun x7 h8 => zbd (dn_X0_init x7 h8) fun x9 h10 => (zpF 4 2 v0 (.ref x7) h10).bind fun h11 => znw 0 zdf_0 (fun x12 h13 => zbd (dn_X0_init x12 h13) fun x14 h15 => (zpF 4 3 v0 (.ref x12) h15).bind fun h16 => znw 1 zdf_1 (fun x17 h18 => zbd (dn_X1_init x17 h18) fun x19 h20 => (zpF 4 4 v0 (.ref x17) h20).bind fun h21 => znw 1 zdf_1 (fun x22 h23 => zbd (dn_X1_init x22 h23) fun x24 h25 => (zpF 4 5 v0 (.ref x22) h25).bind fun h26 => znwR 4 3 (fun x27 h28 => (zpF 4 6 v0 (.ref x27) h28).bind fun h29 => (zpF 4 7 v0 (.int 0) h29).bind fun h30 => (zpF 4 8 v0 (.int 0) h30).bind fun h31 => (zpF 4 9 v0 (.long 0) h31).bind fun h32 => (zpF 4 10 v0 (.long 1) h32).bind fun h33 => (zpF 4 11 v0 (.int 0) h33).bind fun h34 => znwI 0 6 (fun x35 h36 => (zpF 4 12 v0 (.ref x35) h36).bind fun h37 => znwI 0 5 (fun x38 h39 => (zpF 4 13 v0 (.ref x38) h39).bind fun h40 => znwI 0 5 (fun x41 h42 => (zpF 4 14 v0 (.ref x41) h42).bind fun h43 => znwI 0 5 (fun x44 h45 => (zpF 4 15 v0 (.ref x44) h45).bind fun h46 => znwI 0 5 (fun x47 h48 => (zpF 4 16 v0 (.ref x47) h48).bind fun h49 => znwI 0 256 (fun x50 h51 => (zpF 4 17 v0 (.ref x50) h51).bind fun h52 => lp_X4_init_145 v0 0 h52) h49) h46) h43) h40) h37) h34) h26) h21) h16) h11) h6) h3) h
theorem ct_X4_init (g : zG) (l : Launch) (v0 : Nat) : zCt g l yX4_init cX4_init 2 none 2 33 zrV [.ref v0] (dn_X4_init v0) := by
  refine zCt_of (lv := [(0, .ref v0)]) (by decide +kernel) (Nat.le_of_ble_eq_true rfl) rfl ?_
  show zSm g l cX4_init 2 RX4 "<init>" none 2 33 zrV 0 [(0, .ref v0)] [] (dn_X4_init v0)
  unfold dn_X4_init
  refine z_rec ?_
  refine z_aload_n (j := 0) (q := 1) (by decide +kernel) rfl 0 rfl ?_
  refine z_obj (q := 4) zw88 zw89 zw90 (by decide) (by decide) (by decide +kernel) rfl ?_
  refine z_aload_n (j := 0) (q := 5) (by decide +kernel) rfl 0 rfl ?_
  refine z_bipush (n := 6) (v := 6) (q := 7) (by decide +kernel) rfl (by decide) ?_
  refine z_newR (C := RX3) (q := 10) (by decide +kernel) zw91 (by decide +kernel) rfl fun x1 => ?_
  refine z_putV (q := 13) zp_RX4_11 (fun _ => rfl) rfl rfl (by decide +kernel) rfl ?_
  refine z_aload_n (j := 0) (q := 14) (by decide +kernel) rfl 0 rfl ?_
  refine z_iconst (n := 4) (v := 4) (q := 15) (by decide +kernel) rfl (by decide) ?_
  refine z_newR (C := RX3) (q := 18) (by decide +kernel) zw91 (by decide +kernel) rfl fun x4 => ?_
  refine z_putV (q := 21) zp_RX4_15 (fun _ => rfl) rfl rfl (by decide +kernel) rfl ?_
  refine z_aload_n (j := 0) (q := 22) (by decide +kernel) rfl 0 rfl ?_
  refine z_new (q := 25) zn_RX4_18 (by decide +kernel) rfl fun x7 => ?_
  refine z_dup (q := 26) (by decide +kernel) rfl rfl ?_
  refine z_callC (As := []) (st := [.ref x7, .ref v0]) (q := 29) (ct_X0_init g l x7) zm_RX4_20 (rc_X0_init x7) rfl (by decide) (by decide) (Nat.le_of_ble_eq_true rfl) rfl (by decide +kernel) rfl fun x9 => ?_
  refine z_putV (q := 32) zp_RX4_21 (fun z => by cases z) rfl rfl (by decide +kernel) rfl ?_
  refine z_aload_n (j := 0) (q := 33) (by decide +kernel) rfl 0 rfl ?_
  refine z_new (q := 36) zn_RX4_18 (by decide +kernel) rfl fun x12 => ?_
  refine z_dup (q := 37) (by decide +kernel) rfl rfl ?_
  refine z_callC (As := []) (st := [.ref x12, .ref v0]) (q := 40) (ct_X0_init g l x12) zm_RX4_20 (rc_X0_init x12) rfl (by decide) (by decide) (Nat.le_of_ble_eq_true rfl) rfl (by decide +kernel) rfl fun x14 => ?_
  refine z_putV (q := 43) zp_RX4_25 (fun z => by cases z) rfl rfl (by decide +kernel) rfl ?_
  refine z_aload_n (j := 0) (q := 44) (by decide +kernel) rfl 0 rfl ?_
  refine z_new (q := 47) zn_RX4_28 (by decide +kernel) rfl fun x17 => ?_
  refine z_dup (q := 48) (by decide +kernel) rfl rfl ?_
  refine z_callC (As := []) (st := [.ref x17, .ref v0]) (q := 51) (ct_X1_init g l x17) zm_RX4_30 (rc_X1_init x17) rfl (by decide) (by decide) (Nat.le_of_ble_eq_true rfl) rfl (by decide +kernel) rfl fun x19 => ?_
  refine z_putV (q := 54) zp_RX4_31 (fun _ => rfl) rfl rfl (by decide +kernel) rfl ?_
  refine z_aload_n (j := 0) (q := 55) (by decide +kernel) rfl 0 rfl ?_
  refine z_new (q := 58) zn_RX4_28 (by decide +kernel) rfl fun x22 => ?_
  refine z_dup (q := 59) (by decide +kernel) rfl rfl ?_
  refine z_callC (As := []) (st := [.ref x22, .ref v0]) (q := 62) (ct_X1_init g l x22) zm_RX4_30 (rc_X1_init x22) rfl (by decide) (by decide) (Nat.le_of_ble_eq_true rfl) rfl (by decide +kernel) rfl fun x24 => ?_
  refine z_putV (q := 65) zp_RX4_35 (fun _ => rfl) rfl rfl (by decide +kernel) rfl ?_
  refine z_aload_n (j := 0) (q := 66) (by decide +kernel) rfl 0 rfl ?_
  refine z_iconst (n := 3) (v := 3) (q := 67) (by decide +kernel) rfl (by decide) ?_
  refine z_newR (C := RX1) (q := 70) (by decide +kernel) zw142 (by decide +kernel) rfl fun x27 => ?_
  refine z_putV (q := 73) zp_RX4_38 (fun _ => rfl) rfl rfl (by decide +kernel) rfl ?_
  refine z_aload_n (j := 0) (q := 74) (by decide +kernel) rfl 0 rfl ?_
  refine z_iconst (n := 0) (v := 0) (q := 75) (by decide +kernel) rfl (by decide) ?_
  refine z_putV (q := 78) zp_RX4_42 (fun z => by cases z) rfl rfl (by decide +kernel) rfl ?_
  refine z_aload_n (j := 0) (q := 79) (by decide +kernel) rfl 0 rfl ?_
  refine z_iconst (n := 0) (v := 0) (q := 80) (by decide +kernel) rfl (by decide) ?_
  refine z_putV (q := 83) zp_RX4_46 (fun z => by cases z) rfl rfl (by decide +kernel) rfl ?_
  refine z_aload_n (j := 0) (q := 84) (by decide +kernel) rfl 0 rfl ?_
  refine z_lconst (n := 0) (v := 0) (q := 85) (by decide +kernel) rfl (by decide) ?_
  refine z_putV (q := 88) zp_RX4_49 (fun z => by cases z) rfl rfl (by decide +kernel) rfl ?_
  refine z_aload_n (j := 0) (q := 89) (by decide +kernel) rfl 0 rfl ?_
  refine z_lconst (n := 1) (v := 1) (q := 90) (by decide +kernel) rfl (by decide) ?_
  refine z_putV (q := 93) zp_RX4_53 (fun z => by cases z) rfl rfl (by decide +kernel) rfl ?_
  refine z_aload_n (j := 0) (q := 94) (by decide +kernel) rfl 0 rfl ?_
  refine z_iconst (n := 0) (v := 0) (q := 95) (by decide +kernel) rfl (by decide) ?_
  refine z_putV (q := 98) zp_RX4_56 (fun z => by cases z) rfl rfl (by decide +kernel) rfl ?_
  refine z_aload_n (j := 0) (q := 99) (by decide +kernel) rfl 0 rfl ?_
  refine z_bipush (n := 6) (v := 6) (q := 101) (by decide +kernel) rfl (by decide) ?_
  refine z_newI (at0 := .int) (q := 103) (Or.inl ⟨rfl, rfl⟩) zw141 (by decide +kernel) rfl fun x35 => ?_
  refine z_putV (q := 106) zp_RX4_59 (fun _ => rfl) rfl rfl (by decide +kernel) rfl ?_
  refine z_aload_n (j := 0) (q := 107) (by decide +kernel) rfl 0 rfl ?_
  refine z_iconst (n := 5) (v := 5) (q := 108) (by decide +kernel) rfl (by decide) ?_
  refine z_newI (at0 := .int) (q := 110) (Or.inl ⟨rfl, rfl⟩) zw141 (by decide +kernel) rfl fun x38 => ?_
  refine z_putV (q := 113) zp_RX4_63 (fun _ => rfl) rfl rfl (by decide +kernel) rfl ?_
  refine z_aload_n (j := 0) (q := 114) (by decide +kernel) rfl 0 rfl ?_
  refine z_iconst (n := 5) (v := 5) (q := 115) (by decide +kernel) rfl (by decide) ?_
  refine z_newI (at0 := .int) (q := 117) (Or.inl ⟨rfl, rfl⟩) zw141 (by decide +kernel) rfl fun x41 => ?_
  refine z_putV (q := 120) zp_RX4_66 (fun _ => rfl) rfl rfl (by decide +kernel) rfl ?_
  refine z_aload_n (j := 0) (q := 121) (by decide +kernel) rfl 0 rfl ?_
  refine z_iconst (n := 5) (v := 5) (q := 122) (by decide +kernel) rfl (by decide) ?_
  refine z_newI (at0 := .int) (q := 124) (Or.inl ⟨rfl, rfl⟩) zw141 (by decide +kernel) rfl fun x44 => ?_
  refine z_putV (q := 127) zp_RX4_69 (fun _ => rfl) rfl rfl (by decide +kernel) rfl ?_
  refine z_aload_n (j := 0) (q := 128) (by decide +kernel) rfl 0 rfl ?_
  refine z_iconst (n := 5) (v := 5) (q := 129) (by decide +kernel) rfl (by decide) ?_
  refine z_newI (at0 := .int) (q := 131) (Or.inl ⟨rfl, rfl⟩) zw141 (by decide +kernel) rfl fun x47 => ?_
  refine z_putV (q := 134) zp_RX4_72 (fun _ => rfl) rfl rfl (by decide +kernel) rfl ?_
  refine z_aload_n (j := 0) (q := 135) (by decide +kernel) rfl 0 rfl ?_
  refine z_sipush (n := 256) (v := 256) (q := 138) (by decide +kernel) rfl (by decide) ?_
  refine z_newI (at0 := .int) (q := 140) (Or.inl ⟨rfl, rfl⟩) zw141 (by decide +kernel) rfl fun x50 => ?_
  refine z_putV (q := 143) zp_RX4_75 (fun _ => rfl) rfl rfl (by decide +kernel) rfl ?_
  refine z_iconst (n := 0) (v := 0) (q := 144) (by decide +kernel) rfl (by decide) ?_
  refine z_istore_n (j := 1) (q := 145) (by decide +kernel) rfl (by decide) rfl ?_
  refine zsub [1, 0] rfl ?_
  exact sl_X4_init_145 g l v0 0
theorem rc_X4_init (v0 : Nat) : ∀ h x, dn_X4_init v0 h = some x → ∃ fs, zgO 4 v0 h = some fs := fun h x hd => by
  obtain ⟨fs, e, -⟩ := Option.bind_eq_some_iff.mp hd
  exact ⟨fs, e⟩
def dn_X4_found (v0 : Nat) (v1 : Int32) : zAH → Option (Int32 × zAH) := fun h => (zgO 4 v0 h).bind fun _ => (zpF 4 11 v0 (.int v1) h).bind fun h1 => (zgA 4 12 v0 h1).bind fun x2 => (zaI 0 x2 v1 h1).bind fun x3 => (zaS 0 x2 v1 (x3 + 1) h1).bind fun h4 => some ((-3), h4)
theorem ct_X4_found (g : zG) (l : Launch) (v0 : Nat) (v1 : Int32) : zCt g l yX4_found cX4_found 2 (some .int) 0 0 zrI [.ref v0, .int v1] (dn_X4_found v0 v1) := by
  refine zCt_of (lv := [(0, .ref v0), (1, .int v1)]) (by decide +kernel) (Nat.le_of_ble_eq_true rfl) rfl ?_
  show zSm g l cX4_found 2 RX4 "found" (some .int) 0 0 zrI 0 [(0, .ref v0), (1, .int v1)] [] (dn_X4_found v0 v1)
  unfold dn_X4_found
  refine z_rec ?_
  refine z_aload_n (j := 0) (q := 1) (by decide +kernel) rfl 0 rfl ?_
  refine z_iload_n (j := 1) (q := 2) (by decide +kernel) rfl 1 rfl ?_
  refine z_putV (q := 5) zp_RX4_56 (fun z => by cases z) rfl rfl (by decide +kernel) rfl ?_
  refine z_aload_n (j := 0) (q := 6) (by decide +kernel) rfl 0 rfl ?_
  refine z_getA (q := 9) zf_RX4_59 (by decide +kernel) rfl fun x2 => ?_
  refine z_iload_n (j := 1) (q := 10) (by decide +kernel) rfl 1 rfl ?_
  refine z_dup2 (q := 11) (by decide +kernel) rfl rfl rfl ?_
  refine z_iald (q := 12) (Or.inl ⟨rfl, rfl⟩) (by decide +kernel) rfl fun x3 => ?_
  refine z_iconst (n := 1) (v := 1) (q := 13) (by decide +kernel) rfl (by decide) ?_
  refine z_iadd (q := 14) (by decide +kernel) rfl ?_
  refine z_iast (q := 15) (Or.inl ⟨rfl, rfl, rfl⟩) (by decide +kernel) rfl ?_
  refine z_bipush (n := (-3)) (v := (-3)) (q := 17) (by decide +kernel) rfl (by decide) ?_
  exact z_iret (by decide +kernel)
theorem rc_X4_found (v0 : Nat) (v1 : Int32) : ∀ h x, dn_X4_found v0 v1 h = some x → ∃ fs, zgO 4 v0 h = some fs := fun h x hd => by
  obtain ⟨fs, e, -⟩ := Option.bind_eq_some_iff.mp hd
  exact ⟨fs, e⟩
def jn_X4_layOut_21 : zAH → Option (Int32 × zAH) := fun h => some ((-1), h)
theorem sj_X4_layOut_21 (g : zG) (l : Launch) : zSm g l cX4_layOut 5 RX4 "layOut" (some .int) 2 45 zrI 21 [] [] (jn_X4_layOut_21) := by
  unfold jn_X4_layOut_21
  refine z_iconst (n := (-1)) (v := (-1)) (q := 22) (by decide +kernel) rfl (by decide) ?_
  exact z_iret (by decide +kernel)
def dn_X4_layOut (v0 : Nat) (v1 : Nat) (v2 : Int32) (v3 : Int32) (v4 : Int32) : zAH → Option (Int32 × zAH) := fun h => (zgO 4 v0 h).bind fun _ => if v2 < 0 then jn_X4_layOut_21 h else (zaN v1 h).bind fun x1 => if v2 < x1 then (zaR 3 v1 v2 h).bind fun x2 => (zgA 3 0 x2 h).bind fun x3 => (zaN x3 h).bind fun x4 => if x4 < v3 then jn_X4_layOut_21 h else if v3 < 0 then zbd (dn_X4_found v0 5 h) fun x8 h9 => some (x8, h9) else (zaR 3 v1 v2 h).bind fun x5 => zbd (dn_X3_renew x5 v3 v4 h) fun x6 h7 => some (v3, h7) else jn_X4_layOut_21 h
theorem ct_X4_layOut (g : zG) (l : Launch) (v0 : Nat) (v1 : Nat) (v2 : Int32) (v3 : Int32) (v4 : Int32) : zCt g l yX4_layOut cX4_layOut 5 (some .int) 2 45 zrI [.ref v0, .ref v1, .int v2, .int v3, .int v4] (dn_X4_layOut v0 v1 v2 v3 v4) := by
  refine zCt_of (lv := [(0, .ref v0), (1, .ref v1), (2, .int v2), (3, .int v3), (4, .int v4)]) (by decide +kernel) (Nat.le_of_ble_eq_true rfl) rfl ?_
  show zSm g l cX4_layOut 5 RX4 "layOut" (some .int) 2 45 zrI 0 [(0, .ref v0), (1, .ref v1), (2, .int v2), (3, .int v3), (4, .int v4)] [] (dn_X4_layOut v0 v1 v2 v3 v4)
  unfold dn_X4_layOut
  refine z_rec ?_
  refine z_iload_n (j := 2) (q := 1) (by decide +kernel) rfl 2 rfl ?_
  refine z_if_lt (off := 20) (t := 21) (q := 4) (by decide +kernel) (by decide) rfl ?_ ?_
  · refine zsub [] rfl ?_
    exact sj_X4_layOut_21 g l 
  · refine z_iload_n (j := 2) (q := 5) (by decide +kernel) rfl 2 rfl ?_
    refine z_aload_n (j := 1) (q := 6) (by decide +kernel) rfl 1 rfl ?_
    refine z_alen (q := 7) (by decide +kernel) rfl fun x1 => ?_
    refine z_icmp_ge (off := 14) (t := 21) (q := 10) (by decide +kernel) (by decide) rfl ?_ ?_
    · refine zsub [] rfl ?_
      exact sj_X4_layOut_21 g l 
    · refine z_iload_n (j := 3) (q := 11) (by decide +kernel) rfl 3 rfl ?_
      refine z_aload_n (j := 1) (q := 12) (by decide +kernel) rfl 1 rfl ?_
      refine z_iload_n (j := 2) (q := 13) (by decide +kernel) rfl 2 rfl ?_
      refine z_aald (q := 14) (by decide) (by decide +kernel) rfl fun x2 => ?_
      refine z_getA (q := 17) zf_RX4_95 (by decide +kernel) rfl fun x3 => ?_
      refine z_alen (q := 18) (by decide +kernel) rfl fun x4 => ?_
      refine z_icmp_le (off := 5) (t := 23) (q := 21) (by decide +kernel) (by decide) rfl ?_ ?_
      · refine z_iload_n (j := 3) (q := 24) (by decide +kernel) rfl 3 rfl ?_
        refine z_if_ge (off := 9) (t := 33) (q := 27) (by decide +kernel) (by decide) rfl ?_ ?_
        · refine z_aload_n (j := 1) (q := 34) (by decide +kernel) rfl 1 rfl ?_
          refine z_iload_n (j := 2) (q := 35) (by decide +kernel) rfl 2 rfl ?_
          refine z_aald (q := 36) (by decide) (by decide +kernel) rfl fun x5 => ?_
          refine z_iload_n (j := 3) (q := 37) (by decide +kernel) rfl 3 rfl ?_
          refine z_iload (j := 4) (q := 39) (by decide +kernel) rfl 4 rfl ?_
          refine z_callVU (As := [.int v3, .int v4]) (st := []) (q := 42) (ct_X3_renew g l x5 v3 v4) zm_RX4_224 (rc_X3_renew x5 v3 v4) rfl (by decide) (by decide) (Nat.le_of_ble_eq_true rfl) rfl (by decide +kernel) rfl fun x6 => ?_
          refine z_iload_n (j := 3) (q := 43) (by decide +kernel) rfl 3 rfl ?_
          exact z_iret (by decide +kernel)
        · refine z_aload_n (j := 0) (q := 28) (by decide +kernel) rfl 0 rfl ?_
          refine z_iconst (n := 5) (v := 5) (q := 29) (by decide +kernel) rfl (by decide) ?_
          refine z_callVI (As := [.int 5]) (st := []) (q := 32) (ct_X4_found g l v0 5) zm_RX4_109 (rc_X4_found v0 5) rfl (by decide) (by decide) (Nat.le_of_ble_eq_true rfl) rfl (by decide +kernel) rfl fun x8 => ?_
          exact z_iret (by decide +kernel)
      · refine zsub [] rfl ?_
        exact sj_X4_layOut_21 g l 
theorem rc_X4_layOut (v0 : Nat) (v1 : Nat) (v2 : Int32) (v3 : Int32) (v4 : Int32) : ∀ h x, dn_X4_layOut v0 v1 v2 v3 v4 h = some x → ∃ fs, zgO 4 v0 h = some fs := fun h x hd => by
  obtain ⟨fs, e, -⟩ := Option.bind_eq_some_iff.mp hd
  exact ⟨fs, e⟩
def dn_X4_row (v0 : Nat) (v1 : Int32) (v2 : Int32) : zAH → Option (Int32 × zAH) := fun h => (zgO 4 v0 h).bind fun _ => (zgA 4 0 v0 h).bind fun x1 => zbd (dn_X4_layOut v0 x1 v1 v2 0 h) fun x2 h3 => some (x2, h3)
theorem ct_X4_row (g : zG) (l : Launch) (v0 : Nat) (v1 : Int32) (v2 : Int32) : zCt g l yX4_row cX4_row 3 (some .int) 3 69 zrI [.ref v0, .int v1, .int v2] (dn_X4_row v0 v1 v2) := by
  refine zCt_of (lv := [(0, .ref v0), (1, .int v1), (2, .int v2)]) (by decide +kernel) (Nat.le_of_ble_eq_true rfl) rfl ?_
  show zSm g l cX4_row 3 RX4 "row" (some .int) 3 69 zrI 0 [(0, .ref v0), (1, .int v1), (2, .int v2)] [] (dn_X4_row v0 v1 v2)
  unfold dn_X4_row
  refine z_rec ?_
  refine z_aload_n (j := 0) (q := 1) (by decide +kernel) rfl 0 rfl ?_
  refine z_aload_n (j := 0) (q := 2) (by decide +kernel) rfl 0 rfl ?_
  refine z_getA (q := 5) zf_RX4_11 (by decide +kernel) rfl fun x1 => ?_
  refine z_iload_n (j := 1) (q := 6) (by decide +kernel) rfl 1 rfl ?_
  refine z_iload_n (j := 2) (q := 7) (by decide +kernel) rfl 2 rfl ?_
  refine z_iconst (n := 0) (v := 0) (q := 8) (by decide +kernel) rfl (by decide) ?_
  refine z_callVI (As := [.ref x1, .int v1, .int v2, .int 0]) (st := []) (q := 11) (ct_X4_layOut g l v0 x1 v1 v2 0) zm_RX4_87 (rc_X4_layOut v0 x1 v1 v2 0) rfl (by decide) (by decide) (Nat.le_of_ble_eq_true rfl) rfl (by decide +kernel) rfl fun x2 => ?_
  exact z_iret (by decide +kernel)
theorem rc_X4_row (v0 : Nat) (v1 : Int32) (v2 : Int32) : ∀ h x, dn_X4_row v0 v1 v2 h = some x → ∃ fs, zgO 4 v0 h = some fs := fun h x hd => by
  obtain ⟨fs, e, -⟩ := Option.bind_eq_some_iff.mp hd
  exact ⟨fs, e⟩
def jn_X4_refusalOf_10 : zAH → Option (Int32 × zAH) := fun h => some ((-1), h)
theorem sj_X4_refusalOf_10 (g : zG) (l : Launch) : zSm g l cX4_refusalOf 3 RX4 "refusalOf" (some .int) 1 21 zrI 10 [] [] (jn_X4_refusalOf_10) := by
  unfold jn_X4_refusalOf_10
  refine z_iconst (n := (-1)) (v := (-1)) (q := 11) (by decide +kernel) rfl (by decide) ?_
  exact z_iret (by decide +kernel)
def jn_X4_refusalOf_30 (w0 : Int32) : zAH → Option (Int32 × zAH) := fun h => some (w0, h)
theorem sj_X4_refusalOf_30 (g : zG) (l : Launch) (w0 : Int32) : zSm g l cX4_refusalOf 3 RX4 "refusalOf" (some .int) 1 21 zrI 30 [] [.int w0] (jn_X4_refusalOf_30 w0) := by
  unfold jn_X4_refusalOf_30
  exact z_iret (by decide +kernel)
def dn_X4_refusalOf (v0 : Nat) (v1 : Nat) (v2 : Int32) : zAH → Option (Int32 × zAH) := fun h => (zgO 4 v0 h).bind fun _ => if v2 < 0 then jn_X4_refusalOf_10 h else (zaN v1 h).bind fun x1 => if v2 < x1 then (zaR 3 v1 v2 h).bind fun x2 => zbd (dn_X3_isMissing x2 h) fun x3 h4 => if x3 = 0 then jn_X4_refusalOf_30 0 h4 else zbd (dn_X4_found v0 1 h4) fun x5 h6 => jn_X4_refusalOf_30 x5 h6 else jn_X4_refusalOf_10 h
theorem ct_X4_refusalOf (g : zG) (l : Launch) (v0 : Nat) (v1 : Nat) (v2 : Int32) : zCt g l yX4_refusalOf cX4_refusalOf 3 (some .int) 1 21 zrI [.ref v0, .ref v1, .int v2] (dn_X4_refusalOf v0 v1 v2) := by
  refine zCt_of (lv := [(0, .ref v0), (1, .ref v1), (2, .int v2)]) (by decide +kernel) (Nat.le_of_ble_eq_true rfl) rfl ?_
  show zSm g l cX4_refusalOf 3 RX4 "refusalOf" (some .int) 1 21 zrI 0 [(0, .ref v0), (1, .ref v1), (2, .int v2)] [] (dn_X4_refusalOf v0 v1 v2)
  unfold dn_X4_refusalOf
  refine z_rec ?_
  refine z_iload_n (j := 2) (q := 1) (by decide +kernel) rfl 2 rfl ?_
  refine z_if_lt (off := 9) (t := 10) (q := 4) (by decide +kernel) (by decide) rfl ?_ ?_
  · refine zsub [] rfl ?_
    exact sj_X4_refusalOf_10 g l 
  · refine z_iload_n (j := 2) (q := 5) (by decide +kernel) rfl 2 rfl ?_
    refine z_aload_n (j := 1) (q := 6) (by decide +kernel) rfl 1 rfl ?_
    refine z_alen (q := 7) (by decide +kernel) rfl fun x1 => ?_
    refine z_icmp_lt (off := 5) (t := 12) (q := 10) (by decide +kernel) (by decide) rfl ?_ ?_
    · refine z_aload_n (j := 1) (q := 13) (by decide +kernel) rfl 1 rfl ?_
      refine z_iload_n (j := 2) (q := 14) (by decide +kernel) rfl 2 rfl ?_
      refine z_aald (q := 15) (by decide) (by decide +kernel) rfl fun x2 => ?_
      refine z_callVI (As := []) (st := []) (q := 18) (ct_X3_isMissing g l x2) zm_RX4_113 (rc_X3_isMissing x2) rfl (by decide) (by decide) (Nat.le_of_ble_eq_true rfl) rfl (by decide +kernel) rfl fun x3 => ?_
      refine z_if_eq (off := 11) (t := 29) (q := 21) (by decide +kernel) (by decide) rfl ?_ ?_
      · refine z_iconst (n := 0) (v := 0) (q := 30) (by decide +kernel) rfl (by decide) ?_
        refine zsub [] rfl ?_
        exact sj_X4_refusalOf_30 g l 0
      · refine z_aload_n (j := 0) (q := 22) (by decide +kernel) rfl 0 rfl ?_
        refine z_iconst (n := 1) (v := 1) (q := 23) (by decide +kernel) rfl (by decide) ?_
        refine z_callVI (As := [.int 1]) (st := []) (q := 26) (ct_X4_found g l v0 1) zm_RX4_109 (rc_X4_found v0 1) rfl (by decide) (by decide) (Nat.le_of_ble_eq_true rfl) rfl (by decide +kernel) rfl fun x5 => ?_
        refine z_goto (off := 4) (t := 30) (by decide +kernel) (by decide) ?_
        refine zsub [] rfl ?_
        exact sj_X4_refusalOf_30 g l x5
    · refine zsub [] rfl ?_
      exact sj_X4_refusalOf_10 g l 
theorem rc_X4_refusalOf (v0 : Nat) (v1 : Nat) (v2 : Int32) : ∀ h x, dn_X4_refusalOf v0 v1 v2 h = some x → ∃ fs, zgO 4 v0 h = some fs := fun h x hd => by
  obtain ⟨fs, e, -⟩ := Option.bind_eq_some_iff.mp hd
  exact ⟨fs, e⟩
def jn_X4_refusalAt_35 (w0 : Int32) : zAH → Option (Int32 × zAH) := fun h => some (w0, h)
theorem sj_X4_refusalAt_35 (g : zG) (l : Launch) (w0 : Int32) : zSm g l cX4_refusalAt 5 RX4 "refusalAt" (some .int) 2 43 zrI 35 [] [.int w0] (jn_X4_refusalAt_35 w0) := by
  unfold jn_X4_refusalAt_35
  exact z_iret (by decide +kernel)
def dn_X4_refusalAt (v0 : Nat) (v1 : Nat) (v2 : Int32) (v3 : Int32) : zAH → Option (Int32 × zAH) := fun h => (zgO 4 v0 h).bind fun _ => zbd (dn_X4_refusalOf v0 v1 v2 h) fun x1 h2 => if x1 = 0 then (zaR 3 v1 v2 h2).bind fun x3 => zbd (dn_X3_has x3 v3 h2) fun x4 h5 => if x4 = 0 then zbd (dn_X4_found v0 2 h5) fun x6 h7 => jn_X4_refusalAt_35 x6 h7 else jn_X4_refusalAt_35 0 h5 else some (x1, h2)
theorem ct_X4_refusalAt (g : zG) (l : Launch) (v0 : Nat) (v1 : Nat) (v2 : Int32) (v3 : Int32) : zCt g l yX4_refusalAt cX4_refusalAt 5 (some .int) 2 43 zrI [.ref v0, .ref v1, .int v2, .int v3] (dn_X4_refusalAt v0 v1 v2 v3) := by
  refine zCt_of (lv := [(0, .ref v0), (1, .ref v1), (2, .int v2), (3, .int v3)]) (by decide +kernel) (Nat.le_of_ble_eq_true rfl) rfl ?_
  show zSm g l cX4_refusalAt 5 RX4 "refusalAt" (some .int) 2 43 zrI 0 [(0, .ref v0), (1, .ref v1), (2, .int v2), (3, .int v3)] [] (dn_X4_refusalAt v0 v1 v2 v3)
  unfold dn_X4_refusalAt
  refine z_rec ?_
  refine z_aload_n (j := 0) (q := 1) (by decide +kernel) rfl 0 rfl ?_
  refine z_aload_n (j := 1) (q := 2) (by decide +kernel) rfl 1 rfl ?_
  refine z_iload_n (j := 2) (q := 3) (by decide +kernel) rfl 2 rfl ?_
  refine z_callVI (As := [.ref v1, .int v2]) (st := []) (q := 6) (ct_X4_refusalOf g l v0 v1 v2) zm_RX4_98 (rc_X4_refusalOf v0 v1 v2) rfl (by decide) (by decide) (Nat.le_of_ble_eq_true rfl) rfl (by decide +kernel) rfl fun x1 => ?_
  refine z_istore (j := 4) (q := 8) (by decide +kernel) rfl (by decide) rfl ?_
  refine z_iload (j := 4) (q := 10) (by decide +kernel) rfl 0 rfl ?_
  refine z_if_eq (off := 6) (t := 16) (q := 13) (by decide +kernel) (by decide) rfl ?_ ?_
  · refine z_aload_n (j := 1) (q := 17) (by decide +kernel) rfl 2 rfl ?_
    refine z_iload_n (j := 2) (q := 18) (by decide +kernel) rfl 3 rfl ?_
    refine z_aald (q := 19) (by decide) (by decide +kernel) rfl fun x3 => ?_
    refine z_iload_n (j := 3) (q := 20) (by decide +kernel) rfl 4 rfl ?_
    refine z_callVI (As := [.int v3]) (st := []) (q := 23) (ct_X3_has g l x3 v3) zm_RX4_316 (rc_X3_has x3 v3) rfl (by decide) (by decide) (Nat.le_of_ble_eq_true rfl) rfl (by decide +kernel) rfl fun x4 => ?_
    refine z_if_eq (off := 7) (t := 30) (q := 26) (by decide +kernel) (by decide) rfl ?_ ?_
    · refine z_aload_n (j := 0) (q := 31) (by decide +kernel) rfl 1 rfl ?_
      refine z_iconst (n := 2) (v := 2) (q := 32) (by decide +kernel) rfl (by decide) ?_
      refine z_callVI (As := [.int 2]) (st := []) (q := 35) (ct_X4_found g l v0 2) zm_RX4_109 (rc_X4_found v0 2) rfl (by decide) (by decide) (Nat.le_of_ble_eq_true rfl) rfl (by decide +kernel) rfl fun x6 => ?_
      refine zsub [] rfl ?_
      exact sj_X4_refusalAt_35 g l x6
    · refine z_iconst (n := 0) (v := 0) (q := 27) (by decide +kernel) rfl (by decide) ?_
      refine z_goto (off := 8) (t := 35) (by decide +kernel) (by decide) ?_
      refine zsub [] rfl ?_
      exact sj_X4_refusalAt_35 g l 0
  · refine z_iload (j := 4) (q := 15) (by decide +kernel) rfl 0 rfl ?_
    exact z_iret (by decide +kernel)
theorem rc_X4_refusalAt (v0 : Nat) (v1 : Nat) (v2 : Int32) (v3 : Int32) : ∀ h x, dn_X4_refusalAt v0 v1 v2 v3 h = some x → ∃ fs, zgO 4 v0 h = some fs := fun h x hd => by
  obtain ⟨fs, e, -⟩ := Option.bind_eq_some_iff.mp hd
  exact ⟨fs, e⟩
def dn_X4_lay (v0 : Nat) (v1 : Int32) (v2 : Int32) (v3 : Int32) : zAH → Option (Int32 × zAH) := fun h => (zgO 4 v0 h).bind fun _ => (zgA 4 0 v0 h).bind fun x1 => zbd (dn_X4_refusalAt v0 x1 v1 v2 h) fun x2 h3 => if x2 = 0 then (zgA 4 0 v0 h3).bind fun x4 => (zaR 3 x4 v1 h3).bind fun x5 => (zgA 3 0 x5 h3).bind fun x6 => (zaI 0 x6 v2 h3).bind fun x7 => (zpF 4 8 v0 (.int x7) h3).bind fun h8 => (zgA 4 0 v0 h8).bind fun x9 => (zaR 3 x9 v1 h8).bind fun x10 => (zgA 3 0 x10 h8).bind fun x11 => (zaS 0 x11 v2 v3 h8).bind fun h12 => some (1, h12) else some (x2, h3)
theorem ct_X4_lay (g : zG) (l : Launch) (v0 : Nat) (v1 : Int32) (v2 : Int32) (v3 : Int32) : zCt g l yX4_lay cX4_lay 5 (some .int) 3 67 zrI [.ref v0, .int v1, .int v2, .int v3] (dn_X4_lay v0 v1 v2 v3) := by
  refine zCt_of (lv := [(0, .ref v0), (1, .int v1), (2, .int v2), (3, .int v3)]) (by decide +kernel) (Nat.le_of_ble_eq_true rfl) rfl ?_
  show zSm g l cX4_lay 5 RX4 "lay" (some .int) 3 67 zrI 0 [(0, .ref v0), (1, .int v1), (2, .int v2), (3, .int v3)] [] (dn_X4_lay v0 v1 v2 v3)
  unfold dn_X4_lay
  refine z_rec ?_
  refine z_aload_n (j := 0) (q := 1) (by decide +kernel) rfl 0 rfl ?_
  refine z_aload_n (j := 0) (q := 2) (by decide +kernel) rfl 0 rfl ?_
  refine z_getA (q := 5) zf_RX4_11 (by decide +kernel) rfl fun x1 => ?_
  refine z_iload_n (j := 1) (q := 6) (by decide +kernel) rfl 1 rfl ?_
  refine z_iload_n (j := 2) (q := 7) (by decide +kernel) rfl 2 rfl ?_
  refine z_callVI (As := [.ref x1, .int v1, .int v2]) (st := []) (q := 10) (ct_X4_refusalAt g l v0 x1 v1 v2) zm_RX4_91 (rc_X4_refusalAt v0 x1 v1 v2) rfl (by decide) (by decide) (Nat.le_of_ble_eq_true rfl) rfl (by decide +kernel) rfl fun x2 => ?_
  refine z_istore (j := 4) (q := 12) (by decide +kernel) rfl (by decide) rfl ?_
  refine z_iload (j := 4) (q := 14) (by decide +kernel) rfl 0 rfl ?_
  refine z_if_eq (off := 6) (t := 20) (q := 17) (by decide +kernel) (by decide) rfl ?_ ?_
  · refine z_aload_n (j := 0) (q := 21) (by decide +kernel) rfl 1 rfl ?_
    refine z_aload_n (j := 0) (q := 22) (by decide +kernel) rfl 1 rfl ?_
    refine z_getA (q := 25) zf_RX4_11 (by decide +kernel) rfl fun x4 => ?_
    refine z_iload_n (j := 1) (q := 26) (by decide +kernel) rfl 2 rfl ?_
    refine z_aald (q := 27) (by decide) (by decide +kernel) rfl fun x5 => ?_
    refine z_getA (q := 30) zf_RX4_95 (by decide +kernel) rfl fun x6 => ?_
    refine z_iload_n (j := 2) (q := 31) (by decide +kernel) rfl 3 rfl ?_
    refine z_iald (q := 32) (Or.inl ⟨rfl, rfl⟩) (by decide +kernel) rfl fun x7 => ?_
    refine z_putV (q := 35) zp_RX4_46 (fun z => by cases z) rfl rfl (by decide +kernel) rfl ?_
    refine z_aload_n (j := 0) (q := 36) (by decide +kernel) rfl 1 rfl ?_
    refine z_getA (q := 39) zf_RX4_11 (by decide +kernel) rfl fun x9 => ?_
    refine z_iload_n (j := 1) (q := 40) (by decide +kernel) rfl 2 rfl ?_
    refine z_aald (q := 41) (by decide) (by decide +kernel) rfl fun x10 => ?_
    refine z_getA (q := 44) zf_RX4_95 (by decide +kernel) rfl fun x11 => ?_
    refine z_iload_n (j := 2) (q := 45) (by decide +kernel) rfl 3 rfl ?_
    refine z_iload_n (j := 3) (q := 46) (by decide +kernel) rfl 4 rfl ?_
    refine z_iast (q := 47) (Or.inl ⟨rfl, rfl, rfl⟩) (by decide +kernel) rfl ?_
    refine z_iconst (n := 1) (v := 1) (q := 48) (by decide +kernel) rfl (by decide) ?_
    exact z_iret (by decide +kernel)
  · refine z_iload (j := 4) (q := 19) (by decide +kernel) rfl 0 rfl ?_
    exact z_iret (by decide +kernel)
theorem rc_X4_lay (v0 : Nat) (v1 : Int32) (v2 : Int32) (v3 : Int32) : ∀ h x, dn_X4_lay v0 v1 v2 v3 h = some x → ∃ fs, zgO 4 v0 h = some fs := fun h x hd => by
  obtain ⟨fs, e, -⟩ := Option.bind_eq_some_iff.mp hd
  exact ⟨fs, e⟩
def dn_X4_at (v0 : Nat) (v1 : Int32) (v2 : Int32) : zAH → Option (Int32 × zAH) := fun h => (zgO 4 v0 h).bind fun _ => (zgA 4 0 v0 h).bind fun x1 => zbd (dn_X4_refusalAt v0 x1 v1 v2 h) fun x2 h3 => if x2 = 0 then (zgA 4 0 v0 h3).bind fun x4 => (zaR 3 x4 v1 h3).bind fun x5 => (zgA 3 0 x5 h3).bind fun x6 => (zaI 0 x6 v2 h3).bind fun x7 => (zpF 4 8 v0 (.int x7) h3).bind fun h8 => some (1, h8) else some (x2, h3)
theorem ct_X4_at (g : zG) (l : Launch) (v0 : Nat) (v1 : Int32) (v2 : Int32) : zCt g l yX4_at cX4_at 4 (some .int) 3 67 zrI [.ref v0, .int v1, .int v2] (dn_X4_at v0 v1 v2) := by
  refine zCt_of (lv := [(0, .ref v0), (1, .int v1), (2, .int v2)]) (by decide +kernel) (Nat.le_of_ble_eq_true rfl) rfl ?_
  show zSm g l cX4_at 4 RX4 "at" (some .int) 3 67 zrI 0 [(0, .ref v0), (1, .int v1), (2, .int v2)] [] (dn_X4_at v0 v1 v2)
  unfold dn_X4_at
  refine z_rec ?_
  refine z_aload_n (j := 0) (q := 1) (by decide +kernel) rfl 0 rfl ?_
  refine z_aload_n (j := 0) (q := 2) (by decide +kernel) rfl 0 rfl ?_
  refine z_getA (q := 5) zf_RX4_11 (by decide +kernel) rfl fun x1 => ?_
  refine z_iload_n (j := 1) (q := 6) (by decide +kernel) rfl 1 rfl ?_
  refine z_iload_n (j := 2) (q := 7) (by decide +kernel) rfl 2 rfl ?_
  refine z_callVI (As := [.ref x1, .int v1, .int v2]) (st := []) (q := 10) (ct_X4_refusalAt g l v0 x1 v1 v2) zm_RX4_91 (rc_X4_refusalAt v0 x1 v1 v2) rfl (by decide) (by decide) (Nat.le_of_ble_eq_true rfl) rfl (by decide +kernel) rfl fun x2 => ?_
  refine z_istore_n (j := 3) (q := 11) (by decide +kernel) rfl (by decide) rfl ?_
  refine z_iload_n (j := 3) (q := 12) (by decide +kernel) rfl 0 rfl ?_
  refine z_if_eq (off := 5) (t := 17) (q := 15) (by decide +kernel) (by decide) rfl ?_ ?_
  · refine z_aload_n (j := 0) (q := 18) (by decide +kernel) rfl 1 rfl ?_
    refine z_aload_n (j := 0) (q := 19) (by decide +kernel) rfl 1 rfl ?_
    refine z_getA (q := 22) zf_RX4_11 (by decide +kernel) rfl fun x4 => ?_
    refine z_iload_n (j := 1) (q := 23) (by decide +kernel) rfl 2 rfl ?_
    refine z_aald (q := 24) (by decide) (by decide +kernel) rfl fun x5 => ?_
    refine z_getA (q := 27) zf_RX4_95 (by decide +kernel) rfl fun x6 => ?_
    refine z_iload_n (j := 2) (q := 28) (by decide +kernel) rfl 3 rfl ?_
    refine z_iald (q := 29) (Or.inl ⟨rfl, rfl⟩) (by decide +kernel) rfl fun x7 => ?_
    refine z_putV (q := 32) zp_RX4_46 (fun z => by cases z) rfl rfl (by decide +kernel) rfl ?_
    refine z_iconst (n := 1) (v := 1) (q := 33) (by decide +kernel) rfl (by decide) ?_
    exact z_iret (by decide +kernel)
  · refine z_iload_n (j := 3) (q := 16) (by decide +kernel) rfl 0 rfl ?_
    exact z_iret (by decide +kernel)
theorem rc_X4_at (v0 : Nat) (v1 : Int32) (v2 : Int32) : ∀ h x, dn_X4_at v0 v1 v2 h = some x → ∃ fs, zgO 4 v0 h = some fs := fun h x hd => by
  obtain ⟨fs, e, -⟩ := Option.bind_eq_some_iff.mp hd
  exact ⟨fs, e⟩
def dn_X4_tear (v0 : Nat) (v1 : Int32) : zAH → Option (Int32 × zAH) := fun h => (zgO 4 v0 h).bind fun _ => (zgA 4 0 v0 h).bind fun x1 => zbd (dn_X4_refusalOf v0 x1 v1 h) fun x2 h3 => if x2 = 0 then (zgA 4 0 v0 h3).bind fun x4 => (zaR 3 x4 v1 h3).bind fun x5 => zbd (dn_X3_remove x5 h3) fun x6 h7 => some (1, h7) else some (x2, h3)
theorem ct_X4_tear (g : zG) (l : Launch) (v0 : Nat) (v1 : Int32) : zCt g l yX4_tear cX4_tear 3 (some .int) 2 43 zrI [.ref v0, .int v1] (dn_X4_tear v0 v1) := by
  refine zCt_of (lv := [(0, .ref v0), (1, .int v1)]) (by decide +kernel) (Nat.le_of_ble_eq_true rfl) rfl ?_
  show zSm g l cX4_tear 3 RX4 "tear" (some .int) 2 43 zrI 0 [(0, .ref v0), (1, .int v1)] [] (dn_X4_tear v0 v1)
  unfold dn_X4_tear
  refine z_rec ?_
  refine z_aload_n (j := 0) (q := 1) (by decide +kernel) rfl 0 rfl ?_
  refine z_aload_n (j := 0) (q := 2) (by decide +kernel) rfl 0 rfl ?_
  refine z_getA (q := 5) zf_RX4_11 (by decide +kernel) rfl fun x1 => ?_
  refine z_iload_n (j := 1) (q := 6) (by decide +kernel) rfl 1 rfl ?_
  refine z_callVI (As := [.ref x1, .int v1]) (st := []) (q := 9) (ct_X4_refusalOf g l v0 x1 v1) zm_RX4_98 (rc_X4_refusalOf v0 x1 v1) rfl (by decide) (by decide) (Nat.le_of_ble_eq_true rfl) rfl (by decide +kernel) rfl fun x2 => ?_
  refine z_istore_n (j := 2) (q := 10) (by decide +kernel) rfl (by decide) rfl ?_
  refine z_iload_n (j := 2) (q := 11) (by decide +kernel) rfl 0 rfl ?_
  refine z_if_eq (off := 5) (t := 16) (q := 14) (by decide +kernel) (by decide) rfl ?_ ?_
  · refine z_aload_n (j := 0) (q := 17) (by decide +kernel) rfl 1 rfl ?_
    refine z_getA (q := 20) zf_RX4_11 (by decide +kernel) rfl fun x4 => ?_
    refine z_iload_n (j := 1) (q := 21) (by decide +kernel) rfl 2 rfl ?_
    refine z_aald (q := 22) (by decide) (by decide +kernel) rfl fun x5 => ?_
    refine z_callVU (As := []) (st := []) (q := 25) (ct_X3_remove g l x5) zm_RX4_102 (rc_X3_remove x5) rfl (by decide) (by decide) (Nat.le_of_ble_eq_true rfl) rfl (by decide +kernel) rfl fun x6 => ?_
    refine z_iconst (n := 1) (v := 1) (q := 26) (by decide +kernel) rfl (by decide) ?_
    exact z_iret (by decide +kernel)
  · refine z_iload_n (j := 2) (q := 15) (by decide +kernel) rfl 0 rfl ?_
    exact z_iret (by decide +kernel)
theorem rc_X4_tear (v0 : Nat) (v1 : Int32) : ∀ h x, dn_X4_tear v0 v1 h = some x → ∃ fs, zgO 4 v0 h = some fs := fun h x hd => by
  obtain ⟨fs, e, -⟩ := Option.bind_eq_some_iff.mp hd
  exact ⟨fs, e⟩
