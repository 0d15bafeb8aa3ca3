def jn_X4_isRow_15 (w0 : Int32) : zAH → Option (Int32 × zAH) := fun h => if w0 = 0 ∨ w0 = 1 then some (w0, h) else none
theorem sj_X4_isRow_15 (g : zG) (l : Launch) (w0 : Int32) : zSm g l cX4_isRow 1 RX4 "isRow" (some .boolean) 0 0 zrI 15 [] [.int w0] (jn_X4_isRow_15 w0) := by
  unfold jn_X4_isRow_15
  exact z_zret (by decide +kernel)
def jn_X4_isRow_14 : zAH → Option (Int32 × zAH) := fun h => jn_X4_isRow_15 0 h
theorem sj_X4_isRow_14 (g : zG) (l : Launch) : zSm g l cX4_isRow 1 RX4 "isRow" (some .boolean) 0 0 zrI 14 [] [] (jn_X4_isRow_14) := by
  unfold jn_X4_isRow_14
  refine z_iconst (n := 0) (v := 0) (q := 15) (by decide +kernel) rfl (by decide) ?_
  refine zsub [] rfl ?_
  exact sj_X4_isRow_15 g l 0
def dn_X4_isRow (v0 : Int32) : zAH → Option (Int32 × zAH) := fun h => if v0 < 0 then jn_X4_isRow_14 h else if v0 < 6 then jn_X4_isRow_15 1 h else jn_X4_isRow_14 h
theorem ct_X4_isRow (g : zG) (l : Launch) (v0 : Int32) : zCt g l yX4_isRow cX4_isRow 1 (some .boolean) 0 0 zrI [.int v0] (dn_X4_isRow v0) := by
  refine zCt_of (lv := [(0, .int v0)]) (by decide +kernel) (Nat.le_of_ble_eq_true rfl) rfl ?_
  show zSm g l cX4_isRow 1 RX4 "isRow" (some .boolean) 0 0 zrI 0 [(0, .int v0)] [] (dn_X4_isRow v0)
  unfold dn_X4_isRow
  refine z_iload_n (j := 0) (q := 1) (by decide +kernel) rfl 0 rfl ?_
  refine z_if_lt (off := 13) (t := 14) (q := 4) (by decide +kernel) (by decide) rfl ?_ ?_
  · refine zsub [] rfl ?_
    exact sj_X4_isRow_14 g l 
  · refine z_iload_n (j := 0) (q := 5) (by decide +kernel) rfl 0 rfl ?_
    refine z_bipush (n := 6) (v := 6) (q := 7) (by decide +kernel) rfl (by decide) ?_
    refine z_icmp_ge (off := 7) (t := 14) (q := 10) (by decide +kernel) (by decide) rfl ?_ ?_
    · refine zsub [] rfl ?_
      exact sj_X4_isRow_14 g l 
    · refine z_iconst (n := 1) (v := 1) (q := 11) (by decide +kernel) rfl (by decide) ?_
      refine z_goto (off := 4) (t := 15) (by decide +kernel) (by decide) ?_
      refine zsub [] rfl ?_
      exact sj_X4_isRow_15 g l 1
def jn_X4_copy_14 : zAH → Option (Int32 × zAH) := fun h => some ((-1), h)
theorem sj_X4_copy_14 (g : zG) (l : Launch) : zSm g l cX4_copy 6 RX4 "copy" (some .int) 1 22 zrI 14 [] [] (jn_X4_copy_14) := by
  unfold jn_X4_copy_14
  refine z_iconst (n := (-1)) (v := (-1)) (q := 15) (by decide +kernel) rfl (by decide) ?_
  exact z_iret (by decide +kernel)
def jn_X4_copy_51 (v0 : Nat) : zAH → Option (Int32 × zAH) := fun h => zbd (dn_X4_found v0 1 h) fun x1 h2 => some (x1, h2)
theorem sj_X4_copy_51 (g : zG) (l : Launch) (v0 : Nat) : zSm g l cX4_copy 6 RX4 "copy" (some .int) 1 22 zrI 51 [(0, .ref v0)] [] (jn_X4_copy_51 v0) := by
  unfold jn_X4_copy_51
  refine z_aload_n (j := 0) (q := 52) (by decide +kernel) rfl 0 rfl ?_
  refine z_iconst (n := 1) (v := 1) (q := 53) (by decide +kernel) rfl (by decide) ?_
  refine z_callVI (As := [.int 1]) (st := []) (q := 56) (ct_X4_found g l v0 1) zm_RX4_109 (rc_X4_found v0 1) rfl (by decide) (by decide) (Nat.le_of_ble_eq_true rfl) rfl (by decide +kernel) rfl fun x1 => ?_
  exact z_iret (by decide +kernel)
def jn_X4_copy_88 (v0 : Nat) : zAH → Option (Int32 × zAH) := fun h => zbd (dn_X4_found v0 2 h) fun x1 h2 => some (x1, h2)
theorem sj_X4_copy_88 (g : zG) (l : Launch) (v0 : Nat) : zSm g l cX4_copy 6 RX4 "copy" (some .int) 1 22 zrI 88 [(0, .ref v0)] [] (jn_X4_copy_88 v0) := by
  unfold jn_X4_copy_88
  refine z_aload_n (j := 0) (q := 89) (by decide +kernel) rfl 0 rfl ?_
  refine z_iconst (n := 2) (v := 2) (q := 90) (by decide +kernel) rfl (by decide) ?_
  refine z_callVI (As := [.int 2]) (st := []) (q := 93) (ct_X4_found g l v0 2) zm_RX4_109 (rc_X4_found v0 2) rfl (by decide) (by decide) (Nat.le_of_ble_eq_true rfl) rfl (by decide +kernel) rfl fun x1 => ?_
  exact z_iret (by decide +kernel)
def dn_X4_copy (v0 : Nat) (v1 : Int32) (v2 : Int32) (v3 : Int32) (v4 : Int32) (v5 : Int32) : zAH → Option (Int32 × zAH) := fun h => (zgO 4 v0 h).bind fun _ => zbd (dn_X4_isRow v1 h) fun x1 h2 => if x1 = 0 then jn_X4_copy_14 h2 else zbd (dn_X4_isRow v3 h2) fun x3 h4 => if x3 = 0 then jn_X4_copy_14 h4 else if v5 < 0 then zbd (dn_X4_found v0 5 h4) fun x28 h29 => some (x28, h29) else (zgA 4 0 v0 h4).bind fun x5 => (zaR 3 x5 v1 h4).bind fun x6 => zbd (dn_X3_isMissing x6 h4) fun x7 h8 => if x7 = 0 then (zgA 4 0 v0 h8).bind fun x9 => (zaR 3 x9 v3 h8).bind fun x10 => zbd (dn_X3_isMissing x10 h8) fun x11 h12 => if x11 = 0 then (zgA 4 0 v0 h12).bind fun x13 => (zaR 3 x13 v1 h12).bind fun x14 => zbd (dn_X3_hasFrom x14 v2 v5 h12) fun x15 h16 => if x15 = 0 then jn_X4_copy_88 v0 h16 else (zgA 4 0 v0 h16).bind fun x17 => (zaR 3 x17 v3 h16).bind fun x18 => zbd (dn_X3_hasFrom x18 v4 v5 h16) fun x19 h20 => if x19 = 0 then jn_X4_copy_88 v0 h20 else (zgA 4 0 v0 h20).bind fun x21 => (zaR 3 x21 v1 h20).bind fun x22 => (zgA 3 0 x22 h20).bind fun x23 => (zgA 4 0 v0 h20).bind fun x24 => (zaR 3 x24 v3 h20).bind fun x25 => (zgA 3 0 x25 h20).bind fun x26 => (zcp x23 v2 x26 v4 v5 h20).bind fun h27 => some (1, h27) else jn_X4_copy_51 v0 h12 else jn_X4_copy_51 v0 h8
theorem ct_X4_copy (g : zG) (l : Launch) (v0 : Nat) (v1 : Int32) (v2 : Int32) (v3 : Int32) (v4 : Int32) (v5 : Int32) : zCt g l yX4_copy cX4_copy 6 (some .int) 1 22 zrI [.ref v0, .int v1, .int v2, .int v3, .int v4, .int v5] (dn_X4_copy v0 v1 v2 v3 v4 v5) := by
  refine zCt_of (lv := [(0, .ref v0), (1, .int v1), (2, .int v2), (3, .int v3), (4, .int v4), (5, .int v5)]) (by decide +kernel) (Nat.le_of_ble_eq_true rfl) rfl ?_
  show zSm g l cX4_copy 6 RX4 "copy" (some .int) 1 22 zrI 0 [(0, .ref v0), (1, .int v1), (2, .int v2), (3, .int v3), (4, .int v4), (5, .int v5)] [] (dn_X4_copy v0 v1 v2 v3 v4 v5)
  unfold dn_X4_copy
  refine z_rec ?_
  refine z_iload_n (j := 1) (q := 1) (by decide +kernel) rfl 1 rfl ?_
  refine z_callSI (As := [.int v1]) (st := []) (q := 4) (ct_X4_isRow g l v1) zm_RX4_105 rfl (by decide) (by decide) (Nat.le_of_ble_eq_true rfl) rfl (by decide +kernel) rfl fun x1 => ?_
  refine z_if_eq (off := 10) (t := 14) (q := 7) (by decide +kernel) (by decide) rfl ?_ ?_
  · refine zsub [] rfl ?_
    exact sj_X4_copy_14 g l 
  · refine z_iload_n (j := 3) (q := 8) (by decide +kernel) rfl 3 rfl ?_
    refine z_callSI (As := [.int v3]) (st := []) (q := 11) (ct_X4_isRow g l v3) zm_RX4_105 rfl (by decide) (by decide) (Nat.le_of_ble_eq_true rfl) rfl (by decide +kernel) rfl fun x3 => ?_
    refine z_if_ne (off := 5) (t := 16) (q := 14) (by decide +kernel) (by decide) rfl ?_ ?_
    · refine z_iload (j := 5) (q := 18) (by decide +kernel) rfl 5 rfl ?_
      refine z_if_ge (off := 9) (t := 27) (q := 21) (by decide +kernel) (by decide) rfl ?_ ?_
      · refine z_aload_n (j := 0) (q := 28) (by decide +kernel) rfl 0 rfl ?_
        refine z_getA (q := 31) zf_RX4_11 (by decide +kernel) rfl fun x5 => ?_
        refine z_iload_n (j := 1) (q := 32) (by decide +kernel) rfl 1 rfl ?_
        refine z_aald (q := 33) (by decide) (by decide +kernel) rfl fun x6 => ?_
        refine z_callVI (As := []) (st := []) (q := 36) (ct_X3_isMissing g l x6) zm_RX4_113 (rc_X3_isMissing x6) rfl (by decide) (by decide) (Nat.le_of_ble_eq_true rfl) rfl (by decide +kernel) rfl fun x7 => ?_
        refine z_if_ne (off := 15) (t := 51) (q := 39) (by decide +kernel) (by decide) rfl ?_ ?_
        · refine zsub [0] rfl ?_
          exact sj_X4_copy_51 g l v0
        · refine z_aload_n (j := 0) (q := 40) (by decide +kernel) rfl 0 rfl ?_
          refine z_getA (q := 43) zf_RX4_11 (by decide +kernel) rfl fun x9 => ?_
          refine z_iload_n (j := 3) (q := 44) (by decide +kernel) rfl 3 rfl ?_
          refine z_aald (q := 45) (by decide) (by decide +kernel) rfl fun x10 => ?_
          refine z_callVI (As := []) (st := []) (q := 48) (ct_X3_isMissing g l x10) zm_RX4_113 (rc_X3_isMissing x10) rfl (by decide) (by decide) (Nat.le_of_ble_eq_true rfl) rfl (by decide +kernel) rfl fun x11 => ?_
          refine z_if_eq (off := 9) (t := 57) (q := 51) (by decide +kernel) (by decide) rfl ?_ ?_
          · refine z_aload_n (j := 0) (q := 58) (by decide +kernel) rfl 0 rfl ?_
            refine z_getA (q := 61) zf_RX4_11 (by decide +kernel) rfl fun x13 => ?_
            refine z_iload_n (j := 1) (q := 62) (by decide +kernel) rfl 1 rfl ?_
            refine z_aald (q := 63) (by decide) (by decide +kernel) rfl fun x14 => ?_
            refine z_iload_n (j := 2) (q := 64) (by decide +kernel) rfl 2 rfl ?_
            refine z_iload (j := 5) (q := 66) (by decide +kernel) rfl 5 rfl ?_
            refine z_callVI (As := [.int v2, .int v5]) (st := []) (q := 69) (ct_X3_hasFrom g l x14 v2 v5) zm_RX4_117 (rc_X3_hasFrom x14 v2 v5) rfl (by decide) (by decide) (Nat.le_of_ble_eq_true rfl) rfl (by decide +kernel) rfl fun x15 => ?_
            refine z_if_eq (off := 19) (t := 88) (q := 72) (by decide +kernel) (by decide) rfl ?_ ?_
            · refine zsub [0] rfl ?_
              exact sj_X4_copy_88 g l v0
            · refine z_aload_n (j := 0) (q := 73) (by decide +kernel) rfl 0 rfl ?_
              refine z_getA (q := 76) zf_RX4_11 (by decide +kernel) rfl fun x17 => ?_
              refine z_iload_n (j := 3) (q := 77) (by decide +kernel) rfl 3 rfl ?_
              refine z_aald (q := 78) (by decide) (by decide +kernel) rfl fun x18 => ?_
              refine z_iload (j := 4) (q := 80) (by decide +kernel) rfl 4 rfl ?_
              refine z_iload (j := 5) (q := 82) (by decide +kernel) rfl 5 rfl ?_
              refine z_callVI (As := [.int v4, .int v5]) (st := []) (q := 85) (ct_X3_hasFrom g l x18 v4 v5) zm_RX4_117 (rc_X3_hasFrom x18 v4 v5) rfl (by decide) (by decide) (Nat.le_of_ble_eq_true rfl) rfl (by decide +kernel) rfl fun x19 => ?_
              refine z_if_ne (off := 9) (t := 94) (q := 88) (by decide +kernel) (by decide) rfl ?_ ?_
              · refine z_aload_n (j := 0) (q := 95) (by decide +kernel) rfl 0 rfl ?_
                refine z_getA (q := 98) zf_RX4_11 (by decide +kernel) rfl fun x21 => ?_
                refine z_iload_n (j := 1) (q := 99) (by decide +kernel) rfl 1 rfl ?_
                refine z_aald (q := 100) (by decide) (by decide +kernel) rfl fun x22 => ?_
                refine z_getA (q := 103) zf_RX4_95 (by decide +kernel) rfl fun x23 => ?_
                refine z_iload_n (j := 2) (q := 104) (by decide +kernel) rfl 2 rfl ?_
                refine z_aload_n (j := 0) (q := 105) (by decide +kernel) rfl 0 rfl ?_
                refine z_getA (q := 108) zf_RX4_11 (by decide +kernel) rfl fun x24 => ?_
                refine z_iload_n (j := 3) (q := 109) (by decide +kernel) rfl 3 rfl ?_
                refine z_aald (q := 110) (by decide) (by decide +kernel) rfl fun x25 => ?_
                refine z_getA (q := 113) zf_RX4_95 (by decide +kernel) rfl fun x26 => ?_
                refine z_iload (j := 4) (q := 115) (by decide +kernel) rfl 4 rfl ?_
                refine z_iload (j := 5) (q := 117) (by decide +kernel) rfl 5 rfl ?_
                refine z_cp (q := 120) zw327 zw329 zw328 zw79 (by decide) (by decide) (by decide +kernel) rfl ?_
                refine z_iconst (n := 1) (v := 1) (q := 121) (by decide +kernel) rfl (by decide) ?_
                exact z_iret (by decide +kernel)
              · refine zsub [0] rfl ?_
                exact sj_X4_copy_88 g l v0
          · refine zsub [0] rfl ?_
            exact sj_X4_copy_51 g l v0
      · refine z_aload_n (j := 0) (q := 22) (by decide +kernel) rfl 0 rfl ?_
        refine z_iconst (n := 5) (v := 5) (q := 23) (by decide +kernel) rfl (by decide) ?_
        refine z_callVI (As := [.int 5]) (st := []) (q := 26) (ct_X4_found g l v0 5) zm_RX4_109 (rc_X4_found v0 5) rfl (by decide) (by decide) (Nat.le_of_ble_eq_true rfl) rfl (by decide +kernel) rfl fun x28 => ?_
        exact z_iret (by decide +kernel)
    · refine zsub [] rfl ?_
      exact sj_X4_copy_14 g l 
theorem rc_X4_copy (v0 : Nat) (v1 : Int32) (v2 : Int32) (v3 : Int32) (v4 : Int32) (v5 : Int32) : ∀ h x, dn_X4_copy v0 v1 v2 v3 v4 v5 h = some x → ∃ fs, zgO 4 v0 h = some fs := fun h x hd => by
  obtain ⟨fs, e, -⟩ := Option.bind_eq_some_iff.mp hd
  exact ⟨fs, e⟩
def dn_X4_mean (v0 : Nat) (v1 : Int32) : zAH → Option (Int32 × zAH) := fun h => (zgO 4 v0 h).bind fun _ => (zgA 4 0 v0 h).bind fun x1 => zbd (dn_X4_refusalOf v0 x1 v1 h) fun x2 h3 => if x2 = 0 then (zgA 4 0 v0 h3).bind fun x4 => (zaR 3 x4 v1 h3).bind fun x5 => (zgI 3 1 x5 h3).bind fun x6 => if 0 < x6 then (zgA 4 0 v0 h3).bind fun x7 => (zaR 3 x7 v1 h3).bind fun x8 => zbd (dn_X3_sum x8 h3) fun x9 h10 => if Int32.toInt64 x6 = 0 then none else (zpF 4 8 v0 (.int (Int64.toInt32 (x9 / (Int32.toInt64 x6)))) h10).bind fun h11 => some (1, h11) else zbd (dn_X4_found v0 4 h3) fun x12 h13 => some (x12, h13) else some (x2, h3)
theorem ct_X4_mean (g : zG) (l : Launch) (v0 : Nat) (v1 : Int32) : zCt g l yX4_mean cX4_mean 4 (some .int) 2 43 zrI [.ref v0, .int v1] (dn_X4_mean v0 v1) := by
  refine zCt_of (lv := [(0, .ref v0), (1, .int v1)]) (by decide +kernel) (Nat.le_of_ble_eq_true rfl) rfl ?_
  show zSm g l cX4_mean 4 RX4 "mean" (some .int) 2 43 zrI 0 [(0, .ref v0), (1, .int v1)] [] (dn_X4_mean v0 v1)
  unfold dn_X4_mean
  refine z_rec ?_
  refine z_aload_n (j := 0) (q := 1) (by decide +kernel) rfl 0 rfl ?_
  refine z_aload_n (j := 0) (q := 2) (by decide +kernel) rfl 0 rfl ?_
  refine z_getA (q := 5) zf_RX4_11 (by decide +kernel) rfl fun x1 => ?_
  refine z_iload_n (j := 1) (q := 6) (by decide +kernel) rfl 1 rfl ?_
  refine z_callVI (As := [.ref x1, .int v1]) (st := []) (q := 9) (ct_X4_refusalOf g l v0 x1 v1) zm_RX4_98 (rc_X4_refusalOf v0 x1 v1) rfl (by decide) (by decide) (Nat.le_of_ble_eq_true rfl) rfl (by decide +kernel) rfl fun x2 => ?_
  refine z_istore_n (j := 2) (q := 10) (by decide +kernel) rfl (by decide) rfl ?_
  refine z_iload_n (j := 2) (q := 11) (by decide +kernel) rfl 0 rfl ?_
  refine z_if_eq (off := 5) (t := 16) (q := 14) (by decide +kernel) (by decide) rfl ?_ ?_
  · refine z_aload_n (j := 0) (q := 17) (by decide +kernel) rfl 1 rfl ?_
    refine z_getA (q := 20) zf_RX4_11 (by decide +kernel) rfl fun x4 => ?_
    refine z_iload_n (j := 1) (q := 21) (by decide +kernel) rfl 2 rfl ?_
    refine z_aald (q := 22) (by decide) (by decide +kernel) rfl fun x5 => ?_
    refine z_getI (q := 25) zf_RX4_127 (by decide +kernel) rfl fun x6 => ?_
    refine z_istore_n (j := 3) (q := 26) (by decide +kernel) rfl (by decide) rfl ?_
    refine z_iload_n (j := 3) (q := 27) (by decide +kernel) rfl 0 rfl ?_
    refine z_if_gt (off := 9) (t := 36) (q := 30) (by decide +kernel) (by decide) rfl ?_ ?_
    · refine z_aload_n (j := 0) (q := 37) (by decide +kernel) rfl 2 rfl ?_
      refine z_aload_n (j := 0) (q := 38) (by decide +kernel) rfl 2 rfl ?_
      refine z_getA (q := 41) zf_RX4_11 (by decide +kernel) rfl fun x7 => ?_
      refine z_iload_n (j := 1) (q := 42) (by decide +kernel) rfl 3 rfl ?_
      refine z_aald (q := 43) (by decide) (by decide +kernel) rfl fun x8 => ?_
      refine z_callVL (As := []) (st := [.ref v0]) (q := 46) (ct_X3_sum g l x8) zm_RX4_130 (rc_X3_sum x8) rfl (by decide) (by decide) (Nat.le_of_ble_eq_true rfl) rfl (by decide +kernel) rfl fun x9 => ?_
      refine z_iload_n (j := 3) (q := 47) (by decide +kernel) rfl 0 rfl ?_
      refine z_i2l (q := 48) (by decide +kernel) rfl ?_
      refine z_ldiv (q := 49) (by decide +kernel) rfl ?_
      refine z_l2i (q := 50) (by decide +kernel) rfl ?_
      refine z_putV (q := 53) zp_RX4_46 (fun z => by cases z) rfl rfl (by decide +kernel) rfl ?_
      refine z_iconst (n := 1) (v := 1) (q := 54) (by decide +kernel) rfl (by decide) ?_
      exact z_iret (by decide +kernel)
    · refine z_aload_n (j := 0) (q := 31) (by decide +kernel) rfl 2 rfl ?_
      refine z_iconst (n := 4) (v := 4) (q := 32) (by decide +kernel) rfl (by decide) ?_
      refine z_callVI (As := [.int 4]) (st := []) (q := 35) (ct_X4_found g l v0 4) zm_RX4_109 (rc_X4_found v0 4) rfl (by decide) (by decide) (Nat.le_of_ble_eq_true rfl) rfl (by decide +kernel) rfl fun x12 => ?_
      exact z_iret (by decide +kernel)
  · refine z_iload_n (j := 2) (q := 15) (by decide +kernel) rfl 0 rfl ?_
    exact z_iret (by decide +kernel)
theorem rc_X4_mean (v0 : Nat) (v1 : Int32) : ∀ h x, dn_X4_mean v0 v1 h = some x → ∃ fs, zgO 4 v0 h = some fs := fun h x hd => by
  obtain ⟨fs, e, -⟩ := Option.bind_eq_some_iff.mp hd
  exact ⟨fs, e⟩
def dn_X4_text (v0 : Nat) (v1 : Int32) (v2 : Int32) : zAH → Option (Int32 × zAH) := fun h => (zgO 4 v0 h).bind fun _ => (zgA 4 1 v0 h).bind fun x1 => zbd (dn_X4_layOut v0 x1 v1 v2 32 h) fun x2 h3 => some (x2, h3)
theorem ct_X4_text (g : zG) (l : Launch) (v0 : Nat) (v1 : Int32) (v2 : Int32) : zCt g l yX4_text cX4_text 3 (some .int) 3 69 zrI [.ref v0, .int v1, .int v2] (dn_X4_text v0 v1 v2) := by
  refine zCt_of (lv := [(0, .ref v0), (1, .int v1), (2, .int v2)]) (by decide +kernel) (Nat.le_of_ble_eq_true rfl) rfl ?_
  show zSm g l cX4_text 3 RX4 "text" (some .int) 3 69 zrI 0 [(0, .ref v0), (1, .int v1), (2, .int v2)] [] (dn_X4_text v0 v1 v2)
  unfold dn_X4_text
  refine z_rec ?_
  refine z_aload_n (j := 0) (q := 1) (by decide +kernel) rfl 0 rfl ?_
  refine z_aload_n (j := 0) (q := 2) (by decide +kernel) rfl 0 rfl ?_
  refine z_getA (q := 5) zf_RX4_15 (by decide +kernel) rfl fun x1 => ?_
  refine z_iload_n (j := 1) (q := 6) (by decide +kernel) rfl 1 rfl ?_
  refine z_iload_n (j := 2) (q := 7) (by decide +kernel) rfl 2 rfl ?_
  refine z_bipush (n := 32) (v := 32) (q := 9) (by decide +kernel) rfl (by decide) ?_
  refine z_callVI (As := [.ref x1, .int v1, .int v2, .int 32]) (st := []) (q := 12) (ct_X4_layOut g l v0 x1 v1 v2 32) zm_RX4_87 (rc_X4_layOut v0 x1 v1 v2 32) rfl (by decide) (by decide) (Nat.le_of_ble_eq_true rfl) rfl (by decide +kernel) rfl fun x2 => ?_
  exact z_iret (by decide +kernel)
theorem rc_X4_text (v0 : Nat) (v1 : Int32) (v2 : Int32) : ∀ h x, dn_X4_text v0 v1 v2 h = some x → ∃ fs, zgO 4 v0 h = some fs := fun h x hd => by
  obtain ⟨fs, e, -⟩ := Option.bind_eq_some_iff.mp hd
  exact ⟨fs, e⟩
def dn_X4_put (v0 : Nat) (v1 : Int32) (v2 : Int32) (v3 : Int32) : zAH → Option (Int32 × zAH) := fun h => (zgO 4 v0 h).bind fun _ => (zgA 4 1 v0 h).bind fun x1 => zbd (dn_X4_refusalAt v0 x1 v1 v2 h) fun x2 h3 => if x2 = 0 then (zgA 4 1 v0 h3).bind fun x4 => (zaR 3 x4 v1 h3).bind fun x5 => (zgA 3 0 x5 h3).bind fun x6 => (zaI 0 x6 v2 h3).bind fun x7 => (zgA 4 1 v0 h3).bind fun x8 => (zaR 3 x8 v1 h3).bind fun x9 => (zgA 3 0 x9 h3).bind fun x10 => (zaS 0 x10 v2 ((Int32.toInt8 v3).toInt32) h3).bind fun h11 => some (x7 + 1000, h11) else some (x2, h3)
theorem ct_X4_put (g : zG) (l : Launch) (v0 : Nat) (v1 : Int32) (v2 : Int32) (v3 : Int32) : zCt g l yX4_put cX4_put 6 (some .int) 3 67 zrI [.ref v0, .int v1, .int v2, .int v3] (dn_X4_put v0 v1 v2 v3) := by
  refine zCt_of (lv := [(0, .ref v0), (1, .int v1), (2, .int v2), (3, .int v3)]) (by decide +kernel) (Nat.le_of_ble_eq_true rfl) rfl ?_
  show zSm g l cX4_put 6 RX4 "put" (some .int) 3 67 zrI 0 [(0, .ref v0), (1, .int v1), (2, .int v2), (3, .int v3)] [] (dn_X4_put v0 v1 v2 v3)
  unfold dn_X4_put
  refine z_rec ?_
  refine z_aload_n (j := 0) (q := 1) (by decide +kernel) rfl 0 rfl ?_
  refine z_aload_n (j := 0) (q := 2) (by decide +kernel) rfl 0 rfl ?_
  refine z_getA (q := 5) zf_RX4_15 (by decide +kernel) rfl fun x1 => ?_
  refine z_iload_n (j := 1) (q := 6) (by decide +kernel) rfl 1 rfl ?_
  refine z_iload_n (j := 2) (q := 7) (by decide +kernel) rfl 2 rfl ?_
  refine z_callVI (As := [.ref x1, .int v1, .int v2]) (st := []) (q := 10) (ct_X4_refusalAt g l v0 x1 v1 v2) zm_RX4_91 (rc_X4_refusalAt v0 x1 v1 v2) rfl (by decide) (by decide) (Nat.le_of_ble_eq_true rfl) rfl (by decide +kernel) rfl fun x2 => ?_
  refine z_istore (j := 4) (q := 12) (by decide +kernel) rfl (by decide) rfl ?_
  refine z_iload (j := 4) (q := 14) (by decide +kernel) rfl 0 rfl ?_
  refine z_if_eq (off := 6) (t := 20) (q := 17) (by decide +kernel) (by decide) rfl ?_ ?_
  · refine z_aload_n (j := 0) (q := 21) (by decide +kernel) rfl 1 rfl ?_
    refine z_getA (q := 24) zf_RX4_15 (by decide +kernel) rfl fun x4 => ?_
    refine z_iload_n (j := 1) (q := 25) (by decide +kernel) rfl 2 rfl ?_
    refine z_aald (q := 26) (by decide) (by decide +kernel) rfl fun x5 => ?_
    refine z_getA (q := 29) zf_RX4_95 (by decide +kernel) rfl fun x6 => ?_
    refine z_iload_n (j := 2) (q := 30) (by decide +kernel) rfl 3 rfl ?_
    refine z_iald (q := 31) (Or.inl ⟨rfl, rfl⟩) (by decide +kernel) rfl fun x7 => ?_
    refine z_istore (j := 5) (q := 33) (by decide +kernel) rfl (by decide) rfl ?_
    refine z_aload_n (j := 0) (q := 34) (by decide +kernel) rfl 2 rfl ?_
    refine z_getA (q := 37) zf_RX4_15 (by decide +kernel) rfl fun x8 => ?_
    refine z_iload_n (j := 1) (q := 38) (by decide +kernel) rfl 3 rfl ?_
    refine z_aald (q := 39) (by decide) (by decide +kernel) rfl fun x9 => ?_
    refine z_getA (q := 42) zf_RX4_95 (by decide +kernel) rfl fun x10 => ?_
    refine z_iload_n (j := 2) (q := 43) (by decide +kernel) rfl 4 rfl ?_
    refine z_iload_n (j := 3) (q := 44) (by decide +kernel) rfl 5 rfl ?_
    refine z_i2b (q := 45) (by decide +kernel) rfl ?_
    refine z_iast (q := 46) (Or.inl ⟨rfl, rfl, rfl⟩) (by decide +kernel) rfl ?_
    refine z_iload (j := 5) (q := 48) (by decide +kernel) rfl 0 rfl ?_
    refine z_sipush (n := 1000) (v := 1000) (q := 51) (by decide +kernel) rfl (by decide) ?_
    refine z_iadd (q := 52) (by decide +kernel) rfl ?_
    exact z_iret (by decide +kernel)
  · refine z_iload (j := 4) (q := 19) (by decide +kernel) rfl 0 rfl ?_
    exact z_iret (by decide +kernel)
theorem rc_X4_put (v0 : Nat) (v1 : Int32) (v2 : Int32) (v3 : Int32) : ∀ h x, dn_X4_put v0 v1 v2 v3 h = some x → ∃ fs, zgO 4 v0 h = some fs := fun h x hd => by
  obtain ⟨fs, e, -⟩ := Option.bind_eq_some_iff.mp hd
  exact ⟨fs, e⟩
def dn_X4_fault (v0 : Nat) (v1 : Int32) : zAH → Option (Int32 × zAH) := fun h => (zgO 4 v0 h).bind fun _ => (zgA 4 1 v0 h).bind fun x1 => zbd (dn_X4_refusalOf v0 x1 v1 h) fun x2 h3 => if x2 = 0 then znw 2 zdf_2 (fun x4 h5 => (zgA 4 1 v0 h5).bind fun x6 => (zaR 3 x6 v1 h5).bind fun x7 => (zgA 4 3 v0 h5).bind fun x8 => zbd (dn_X2_init x4 x7 x8 h5) fun x9 h10 => zbd (dn_X2_readHill x4 h10) fun x11 h12 => some (x11, h12)) h3 else some (x2, h3)
theorem ct_X4_fault (g : zG) (l : Launch) (v0 : Nat) (v1 : Int32) : zCt g l yX4_fault cX4_fault 3 (some .int) 5 108 zrI [.ref v0, .int v1] (dn_X4_fault v0 v1) := by
  refine zCt_of (lv := [(0, .ref v0), (1, .int v1)]) (by decide +kernel) (Nat.le_of_ble_eq_true rfl) rfl ?_
  show zSm g l cX4_fault 3 RX4 "fault" (some .int) 5 108 zrI 0 [(0, .ref v0), (1, .int v1)] [] (dn_X4_fault v0 v1)
  unfold dn_X4_fault
  refine z_rec ?_
  refine z_aload_n (j := 0) (q := 1) (by decide +kernel) rfl 0 rfl ?_
  refine z_aload_n (j := 0) (q := 2) (by decide +kernel) rfl 0 rfl ?_
  refine z_getA (q := 5) zf_RX4_15 (by decide +kernel) rfl fun x1 => ?_
  refine z_iload_n (j := 1) (q := 6) (by decide +kernel) rfl 1 rfl ?_
  refine z_callVI (As := [.ref x1, .int v1]) (st := []) (q := 9) (ct_X4_refusalOf g l v0 x1 v1) zm_RX4_98 (rc_X4_refusalOf v0 x1 v1) rfl (by decide) (by decide) (Nat.le_of_ble_eq_true rfl) rfl (by decide +kernel) rfl fun x2 => ?_
  refine z_istore_n (j := 2) (q := 10) (by decide +kernel) rfl (by decide) rfl ?_
  refine z_iload_n (j := 2) (q := 11) (by decide +kernel) rfl 0 rfl ?_
  refine z_if_eq (off := 5) (t := 16) (q := 14) (by decide +kernel) (by decide) rfl ?_ ?_
  · refine z_new (q := 19) zn_RX4_134 (by decide +kernel) rfl fun x4 => ?_
    refine z_dup (q := 20) (by decide +kernel) rfl rfl ?_
    refine z_aload_n (j := 0) (q := 21) (by decide +kernel) rfl 1 rfl ?_
    refine z_getA (q := 24) zf_RX4_15 (by decide +kernel) rfl fun x6 => ?_
    refine z_iload_n (j := 1) (q := 25) (by decide +kernel) rfl 2 rfl ?_
    refine z_aald (q := 26) (by decide) (by decide +kernel) rfl fun x7 => ?_
    refine z_aload_n (j := 0) (q := 27) (by decide +kernel) rfl 1 rfl ?_
    refine z_getA (q := 30) zf_RX4_25 (by decide +kernel) rfl fun x8 => ?_
    refine z_callC (As := [.ref x7, .ref x8]) (st := [.ref x4]) (q := 33) (ct_X2_init g l x4 x7 x8) zm_RX4_136 (rc_X2_init x4 x7 x8) rfl (by decide) (by decide) (Nat.le_of_ble_eq_true rfl) rfl (by decide +kernel) rfl fun x9 => ?_
    refine z_callVI (As := []) (st := []) (q := 36) (ct_X2_readHill g l x4) zm_RX4_139 (rc_X2_readHill x4) rfl (by decide) (by decide) (Nat.le_of_ble_eq_true rfl) rfl (by decide +kernel) rfl fun x11 => ?_
    exact z_iret (by decide +kernel)
  · refine z_iload_n (j := 2) (q := 15) (by decide +kernel) rfl 0 rfl ?_
    exact z_iret (by decide +kernel)
theorem rc_X4_fault (v0 : Nat) (v1 : Int32) : ∀ h x, dn_X4_fault v0 v1 h = some x → ∃ fs, zgO 4 v0 h = some fs := fun h x hd => by
  obtain ⟨fs, e, -⟩ := Option.bind_eq_some_iff.mp hd
  exact ⟨fs, e⟩
def jn_X4_hill_93 (v0 : Nat) : zAH → Option (Int32 × zAH) := fun h => (zgA 4 4 v0 h).bind fun x1 => (zgA 4 2 v0 h).bind fun x2 => (zgA 4 2 v0 h).bind fun x3 => (zgA 0 5 x3 h).bind fun x4 => (zgA 4 2 v0 h).bind fun x5 => (zgA 0 4 x5 h).bind fun x6 => zbd (dn_X1_setOff x1 x2 x4 x6 h) fun x7 h8 => (zgA 4 2 v0 h8).bind fun x9 => (zgI 0 2 x9 h8).bind fun x10 => some (x10, h8)
theorem sj_X4_hill_93 (g : zG) (l : Launch) (v0 : Nat) : zSm g l cX4_hill 5 RX4 "hill" (some .int) 5 108 zrI 93 [(0, .ref v0)] [] (jn_X4_hill_93 v0) := by
  unfold jn_X4_hill_93
  refine z_aload_n (j := 0) (q := 94) (by decide +kernel) rfl 0 rfl ?_
  refine z_getA (q := 97) zf_RX4_31 (by decide +kernel) rfl fun x1 => ?_
  refine z_aload_n (j := 0) (q := 98) (by decide +kernel) rfl 0 rfl ?_
  refine z_getA (q := 101) zf_RX4_21 (by decide +kernel) rfl fun x2 => ?_
  refine z_aload_n (j := 0) (q := 102) (by decide +kernel) rfl 0 rfl ?_
  refine z_getA (q := 105) zf_RX4_21 (by decide +kernel) rfl fun x3 => ?_
  refine z_getA (q := 108) zf_RX4_147 (by decide +kernel) rfl fun x4 => ?_
  refine z_aload_n (j := 0) (q := 109) (by decide +kernel) rfl 0 rfl ?_
  refine z_getA (q := 112) zf_RX4_21 (by decide +kernel) rfl fun x5 => ?_
  refine z_getA (q := 115) zf_RX4_150 (by decide +kernel) rfl fun x6 => ?_
  refine z_callVU (As := [.ref x2, .ref x4, .ref x6]) (st := []) (q := 118) (ct_X1_setOff g l x1 x2 x4 x6) zm_RX4_153 (rc_X1_setOff x1 x2 x4 x6) rfl (by decide) (by decide) (Nat.le_of_ble_eq_true rfl) rfl (by decide +kernel) rfl fun x7 => ?_
  refine z_aload_n (j := 0) (q := 119) (by decide +kernel) rfl 0 rfl ?_
  refine z_getA (q := 122) zf_RX4_21 (by decide +kernel) rfl fun x9 => ?_
  refine z_getI (q := 125) zf_RX4_157 (by decide +kernel) rfl fun x10 => ?_
  exact z_iret (by decide +kernel)
def lb_X4_hill_70 (v0 : Nat) (rec : (Int32) → zAH → Option (Int32 × zAH)) (s : Int32) : zAH → Option (Int32 × zAH) := fun h => if s < 3 then (zgA 4 6 v0 h).bind fun x1 => (zaR 4 x1 s h).bind fun x2 => (zpF 1 5 x2 (.int 0) h).bind fun h3 => rec (s + 1) h3 else jn_X4_hill_93 v0 h
def lp_X4_hill_70 (v0 : Nat) (s : Int32) : zAH → Option (Int32 × zAH) := zlp (lb_X4_hill_70 v0) 2000 s
theorem sl_X4_hill_70 (g : zG) (l : Launch) (v0 : Nat) (s : Int32) : zSm g l cX4_hill 5 RX4 "hill" (some .int) 5 108 zrI 70 [(0, .ref v0), (4, .int s)] [] (lp_X4_hill_70 v0 s) := by
  unfold lp_X4_hill_70
  refine z_loop (lvf := fun s => [(0, .ref v0), (4, .int s)]) (fun rec hrec s => ?_) 2000 s
  unfold lb_X4_hill_70
  refine z_iload (j := 4) (q := 72) (by decide +kernel) rfl 1 rfl ?_
  refine z_iconst (n := 3) (v := 3) (q := 73) (by decide +kernel) rfl (by decide) ?_
  refine z_icmp_ge (off := 20) (t := 93) (q := 76) (by decide +kernel) (by decide) rfl ?_ ?_
  · refine zsub [0] rfl ?_
    exact sj_X4_hill_93 g l v0
  · refine z_aload_n (j := 0) (q := 77) (by decide +kernel) rfl 0 rfl ?_
    refine z_getA (q := 80) zf_RX4_38 (by decide +kernel) rfl fun x1 => ?_
    refine z_iload (j := 4) (q := 82) (by decide +kernel) rfl 1 rfl ?_
    refine z_aald (q := 83) (by decide) (by decide +kernel) rfl fun x2 => ?_
    refine z_iconst (n := 0) (v := 0) (q := 84) (by decide +kernel) rfl (by decide) ?_
    refine z_putV (q := 87) zp_RX4_143 (fun z => by cases z) rfl rfl (by decide +kernel) rfl ?_
    refine z_iinc (j := 4) (n := 1) (v := 1) (q := 90) (by decide +kernel) rfl 1 rfl (by decide) (by decide) rfl ?_
    refine z_goto (off := (-20)) (t := 70) (by decide +kernel) (by decide) ?_
    refine zsub [1, 0] rfl ?_
    exact hrec (s + 1)
def dn_X4_hill (v0 : Nat) (v1 : Int32) : zAH → Option (Int32 × zAH) := fun h => (zgO 4 v0 h).bind fun _ => (zgA 4 1 v0 h).bind fun x1 => zbd (dn_X4_refusalOf v0 x1 v1 h) fun x2 h3 => if x2 = 0 then znw 2 zdf_2 (fun x4 h5 => (zgA 4 1 v0 h5).bind fun x6 => (zaR 3 x6 v1 h5).bind fun x7 => (zgA 4 3 v0 h5).bind fun x8 => zbd (dn_X2_init x4 x7 x8 h5) fun x9 h10 => zbd (dn_X2_readHill x4 h10) fun x11 h12 => if x11 = ((-9)) then (zgA 4 2 v0 h12).bind fun x13 => (zgA 4 3 v0 h12).bind fun x14 => (zpF 4 2 v0 (.ref x14) h12).bind fun h15 => (zpF 4 3 v0 (.ref x13) h15).bind fun h16 => (zpF 4 7 v0 (.int 0) h16).bind fun h17 => lp_X4_hill_70 v0 0 h17 else some ((-4), h12)) h3 else some (x2, h3)
theorem ct_X4_hill (g : zG) (l : Launch) (v0 : Nat) (v1 : Int32) : zCt g l yX4_hill cX4_hill 5 (some .int) 5 108 zrI [.ref v0, .int v1] (dn_X4_hill v0 v1) := by
  refine zCt_of (lv := [(0, .ref v0), (1, .int v1)]) (by decide +kernel) (Nat.le_of_ble_eq_true rfl) rfl ?_
  show zSm g l cX4_hill 5 RX4 "hill" (some .int) 5 108 zrI 0 [(0, .ref v0), (1, .int v1)] [] (dn_X4_hill v0 v1)
  unfold dn_X4_hill
  refine z_rec ?_
  refine z_aload_n (j := 0) (q := 1) (by decide +kernel) rfl 0 rfl ?_
  refine z_aload_n (j := 0) (q := 2) (by decide +kernel) rfl 0 rfl ?_
  refine z_getA (q := 5) zf_RX4_15 (by decide +kernel) rfl fun x1 => ?_
  refine z_iload_n (j := 1) (q := 6) (by decide +kernel) rfl 1 rfl ?_
  refine z_callVI (As := [.ref x1, .int v1]) (st := []) (q := 9) (ct_X4_refusalOf g l v0 x1 v1) zm_RX4_98 (rc_X4_refusalOf v0 x1 v1) rfl (by decide) (by decide) (Nat.le_of_ble_eq_true rfl) rfl (by decide +kernel) rfl fun x2 => ?_
  refine z_istore_n (j := 2) (q := 10) (by decide +kernel) rfl (by decide) rfl ?_
  refine z_iload_n (j := 2) (q := 11) (by decide +kernel) rfl 0 rfl ?_
  refine z_if_eq (off := 5) (t := 16) (q := 14) (by decide +kernel) (by decide) rfl ?_ ?_
  · refine z_new (q := 19) zn_RX4_134 (by decide +kernel) rfl fun x4 => ?_
    refine z_dup (q := 20) (by decide +kernel) rfl rfl ?_
    refine z_aload_n (j := 0) (q := 21) (by decide +kernel) rfl 1 rfl ?_
    refine z_getA (q := 24) zf_RX4_15 (by decide +kernel) rfl fun x6 => ?_
    refine z_iload_n (j := 1) (q := 25) (by decide +kernel) rfl 2 rfl ?_
    refine z_aald (q := 26) (by decide) (by decide +kernel) rfl fun x7 => ?_
    refine z_aload_n (j := 0) (q := 27) (by decide +kernel) rfl 1 rfl ?_
    refine z_getA (q := 30) zf_RX4_25 (by decide +kernel) rfl fun x8 => ?_
    refine z_callC (As := [.ref x7, .ref x8]) (st := [.ref x4]) (q := 33) (ct_X2_init g l x4 x7 x8) zm_RX4_136 (rc_X2_init x4 x7 x8) rfl (by decide) (by decide) (Nat.le_of_ble_eq_true rfl) rfl (by decide +kernel) rfl fun x9 => ?_
    refine z_callVI (As := []) (st := []) (q := 36) (ct_X2_readHill g l x4) zm_RX4_139 (rc_X2_readHill x4) rfl (by decide) (by decide) (Nat.le_of_ble_eq_true rfl) rfl (by decide +kernel) rfl fun x11 => ?_
    refine z_bipush (n := (-9)) (v := (-9)) (q := 38) (by decide +kernel) rfl (by decide) ?_
    refine z_icmp_eq (off := 6) (t := 44) (q := 41) (by decide +kernel) (by decide) rfl ?_ ?_
    · refine z_aload_n (j := 0) (q := 45) (by decide +kernel) rfl 1 rfl ?_
      refine z_getA (q := 48) zf_RX4_21 (by decide +kernel) rfl fun x13 => ?_
      refine z_astore_n (j := 3) (q := 49) (by decide +kernel) rfl (by decide) rfl ?_
      refine z_aload_n (j := 0) (q := 50) (by decide +kernel) rfl 2 rfl ?_
      refine z_aload_n (j := 0) (q := 51) (by decide +kernel) rfl 2 rfl ?_
      refine z_getA (q := 54) zf_RX4_25 (by decide +kernel) rfl fun x14 => ?_
      refine z_putV (q := 57) zp_RX4_21 (fun z => by cases z) rfl rfl (by decide +kernel) rfl ?_
      refine z_aload_n (j := 0) (q := 58) (by decide +kernel) rfl 2 rfl ?_
      refine z_aload_n (j := 3) (q := 59) (by decide +kernel) rfl 0 rfl ?_
      refine z_putV (q := 62) zp_RX4_25 (fun z => by cases z) rfl rfl (by decide +kernel) rfl ?_
      refine z_aload_n (j := 0) (q := 63) (by decide +kernel) rfl 2 rfl ?_
      refine z_iconst (n := 0) (v := 0) (q := 64) (by decide +kernel) rfl (by decide) ?_
      refine z_putV (q := 67) zp_RX4_42 (fun z => by cases z) rfl rfl (by decide +kernel) rfl ?_
      refine z_iconst (n := 0) (v := 0) (q := 68) (by decide +kernel) rfl (by decide) ?_
      refine z_istore (j := 4) (q := 70) (by decide +kernel) rfl (by decide) rfl ?_
      refine zsub [3, 0] rfl ?_
      exact sl_X4_hill_70 g l v0 0
    · refine z_bipush (n := (-4)) (v := (-4)) (q := 43) (by decide +kernel) rfl (by decide) ?_
      exact z_iret (by decide +kernel)
  · refine z_iload_n (j := 2) (q := 15) (by decide +kernel) rfl 0 rfl ?_
    exact z_iret (by decide +kernel)
theorem rc_X4_hill (v0 : Nat) (v1 : Int32) : ∀ h x, dn_X4_hill v0 v1 h = some x → ∃ fs, zgO 4 v0 h = some fs := fun h x hd => by
  obtain ⟨fs, e, -⟩ := Option.bind_eq_some_iff.mp hd
  exact ⟨fs, e⟩
def jn_X4_road_10 : zAH → Option (Int32 × zAH) := fun h => some ((-1), h)
theorem sj_X4_road_10 (g : zG) (l : Launch) : zSm g l cX4_road 2 RX4 "road" (some .int) 1 21 zrI 10 [] [] (jn_X4_road_10) := by
  unfold jn_X4_road_10
  refine z_iconst (n := (-1)) (v := (-1)) (q := 11) (by decide +kernel) rfl (by decide) ?_
  exact z_iret (by decide +kernel)
def dn_X4_road (v0 : Nat) (v1 : Int32) : zAH → Option (Int32 × zAH) := fun h => (zgO 4 v0 h).bind fun _ => if v1 < 0 then jn_X4_road_10 h else if v1 < 40 then (zgA 4 2 v0 h).bind fun x1 => (zgI 0 0 x1 h).bind fun x2 => if v1 < x2 then (zgA 4 2 v0 h).bind fun x3 => (zgA 0 1 x3 h).bind fun x4 => (zaI 0 x4 v1 h).bind fun x5 => (zpF 4 8 v0 (.int x5) h).bind fun h6 => some (1, h6) else zbd (dn_X4_found v0 2 h) fun x7 h8 => some (x7, h8) else jn_X4_road_10 h
theorem ct_X4_road (g : zG) (l : Launch) (v0 : Nat) (v1 : Int32) : zCt g l yX4_road cX4_road 2 (some .int) 1 21 zrI [.ref v0, .int v1] (dn_X4_road v0 v1) := by
  refine zCt_of (lv := [(0, .ref v0), (1, .int v1)]) (by decide +kernel) (Nat.le_of_ble_eq_true rfl) rfl ?_
  show zSm g l cX4_road 2 RX4 "road" (some .int) 1 21 zrI 0 [(0, .ref v0), (1, .int v1)] [] (dn_X4_road v0 v1)
  unfold dn_X4_road
  refine z_rec ?_
  refine z_iload_n (j := 1) (q := 1) (by decide +kernel) rfl 1 rfl ?_
  refine z_if_lt (off := 9) (t := 10) (q := 4) (by decide +kernel) (by decide) rfl ?_ ?_
  · refine zsub [] rfl ?_
    exact sj_X4_road_10 g l 
  · refine z_iload_n (j := 1) (q := 5) (by decide +kernel) rfl 1 rfl ?_
    refine z_bipush (n := 40) (v := 40) (q := 7) (by decide +kernel) rfl (by decide) ?_
    refine z_icmp_lt (off := 5) (t := 12) (q := 10) (by decide +kernel) (by decide) rfl ?_ ?_
    · refine z_iload_n (j := 1) (q := 13) (by decide +kernel) rfl 1 rfl ?_
      refine z_aload_n (j := 0) (q := 14) (by decide +kernel) rfl 0 rfl ?_
      refine z_getA (q := 17) zf_RX4_21 (by decide +kernel) rfl fun x1 => ?_
      refine z_getI (q := 20) zf_RX4_160 (by decide +kernel) rfl fun x2 => ?_
      refine z_icmp_lt (off := 9) (t := 29) (q := 23) (by decide +kernel) (by decide) rfl ?_ ?_
      · refine z_aload_n (j := 0) (q := 30) (by decide +kernel) rfl 0 rfl ?_
        refine z_aload_n (j := 0) (q := 31) (by decide +kernel) rfl 0 rfl ?_
        refine z_getA (q := 34) zf_RX4_21 (by decide +kernel) rfl fun x3 => ?_
        refine z_getA (q := 37) zf_RX4_163 (by decide +kernel) rfl fun x4 => ?_
        refine z_iload_n (j := 1) (q := 38) (by decide +kernel) rfl 1 rfl ?_
        refine z_iald (q := 39) (Or.inl ⟨rfl, rfl⟩) (by decide +kernel) rfl fun x5 => ?_
        refine z_putV (q := 42) zp_RX4_46 (fun z => by cases z) rfl rfl (by decide +kernel) rfl ?_
        refine z_iconst (n := 1) (v := 1) (q := 43) (by decide +kernel) rfl (by decide) ?_
        exact z_iret (by decide +kernel)
      · refine z_aload_n (j := 0) (q := 24) (by decide +kernel) rfl 0 rfl ?_
        refine z_iconst (n := 2) (v := 2) (q := 25) (by decide +kernel) rfl (by decide) ?_
        refine z_callVI (As := [.int 2]) (st := []) (q := 28) (ct_X4_found g l v0 2) zm_RX4_109 (rc_X4_found v0 2) rfl (by decide) (by decide) (Nat.le_of_ble_eq_true rfl) rfl (by decide +kernel) rfl fun x7 => ?_
        exact z_iret (by decide +kernel)
    · refine zsub [] rfl ?_
      exact sj_X4_road_10 g l 
theorem rc_X4_road (v0 : Nat) (v1 : Int32) : ∀ h x, dn_X4_road v0 v1 h = some x → ∃ fs, zgO 4 v0 h = some fs := fun h x hd => by
  obtain ⟨fs, e, -⟩ := Option.bind_eq_some_iff.mp hd
  exact ⟨fs, e⟩
def jn_X4_isRunner_20 (w0 : Int32) : zAH → Option (Int32 × zAH) := fun h => if w0 = 0 ∨ w0 = 1 then some (w0, h) else none
theorem sj_X4_isRunner_20 (g : zG) (l : Launch) (w0 : Int32) : zSm g l cX4_isRunner 2 RX4 "isRunner" (some .boolean) 0 0 zrI 20 [] [.int w0] (jn_X4_isRunner_20 w0) := by
  unfold jn_X4_isRunner_20
  exact z_zret (by decide +kernel)
def jn_X4_isRunner_19 : zAH → Option (Int32 × zAH) := fun h => jn_X4_isRunner_20 0 h
theorem sj_X4_isRunner_19 (g : zG) (l : Launch) : zSm g l cX4_isRunner 2 RX4 "isRunner" (some .boolean) 0 0 zrI 19 [] [] (jn_X4_isRunner_19) := by
  unfold jn_X4_isRunner_19
  refine z_iconst (n := 0) (v := 0) (q := 20) (by decide +kernel) rfl (by decide) ?_
  refine zsub [] rfl ?_
  exact sj_X4_isRunner_20 g l 0
def dn_X4_isRunner (v0 : Nat) (v1 : Int32) : zAH → Option (Int32 × zAH) := fun h => (zgO 4 v0 h).bind fun _ => if v1 < 0 then jn_X4_isRunner_19 h else (zgA 4 2 v0 h).bind fun x1 => (zgI 0 2 x1 h).bind fun x2 => if v1 < x2 then jn_X4_isRunner_20 1 h else jn_X4_isRunner_19 h
theorem ct_X4_isRunner (g : zG) (l : Launch) (v0 : Nat) (v1 : Int32) : zCt g l yX4_isRunner cX4_isRunner 2 (some .boolean) 0 0 zrI [.ref v0, .int v1] (dn_X4_isRunner v0 v1) := by
  refine zCt_of (lv := [(0, .ref v0), (1, .int v1)]) (by decide +kernel) (Nat.le_of_ble_eq_true rfl) rfl ?_
  show zSm g l cX4_isRunner 2 RX4 "isRunner" (some .boolean) 0 0 zrI 0 [(0, .ref v0), (1, .int v1)] [] (dn_X4_isRunner v0 v1)
  unfold dn_X4_isRunner
  refine z_rec ?_
  refine z_iload_n (j := 1) (q := 1) (by decide +kernel) rfl 1 rfl ?_
  refine z_if_lt (off := 18) (t := 19) (q := 4) (by decide +kernel) (by decide) rfl ?_ ?_
  · refine zsub [] rfl ?_
    exact sj_X4_isRunner_19 g l 
  · refine z_iload_n (j := 1) (q := 5) (by decide +kernel) rfl 1 rfl ?_
    refine z_aload_n (j := 0) (q := 6) (by decide +kernel) rfl 0 rfl ?_
    refine z_getA (q := 9) zf_RX4_21 (by decide +kernel) rfl fun x1 => ?_
    refine z_getI (q := 12) zf_RX4_157 (by decide +kernel) rfl fun x2 => ?_
    refine z_icmp_ge (off := 7) (t := 19) (q := 15) (by decide +kernel) (by decide) rfl ?_ ?_
    · refine zsub [] rfl ?_
      exact sj_X4_isRunner_19 g l 
    · refine z_iconst (n := 1) (v := 1) (q := 16) (by decide +kernel) rfl (by decide) ?_
      refine z_goto (off := 4) (t := 20) (by decide +kernel) (by decide) ?_
      refine zsub [] rfl ?_
      exact sj_X4_isRunner_20 g l 1
theorem rc_X4_isRunner (v0 : Nat) (v1 : Int32) : ∀ h x, dn_X4_isRunner v0 v1 h = some x → ∃ fs, zgO 4 v0 h = some fs := fun h x hd => by
  obtain ⟨fs, e, -⟩ := Option.bind_eq_some_iff.mp hd
  exact ⟨fs, e⟩
def jn_X4_about_17 : zAH → Option (Int32 × zAH) := fun h => some ((-1), h)
theorem sj_X4_about_17 (g : zG) (l : Launch) : zSm g l cX4_about 3 RX4 "about" (some .int) 1 22 zrI 17 [] [] (jn_X4_about_17) := by
  unfold jn_X4_about_17
  refine z_iconst (n := (-1)) (v := (-1)) (q := 18) (by decide +kernel) rfl (by decide) ?_
  exact z_iret (by decide +kernel)
def dn_X4_about (v0 : Nat) (v1 : Int32) (v2 : Int32) : zAH → Option (Int32 × zAH) := fun h => (zgO 4 v0 h).bind fun _ => zbd (dn_X4_isRunner v0 v1 h) fun x1 h2 => if x1 = 0 then jn_X4_about_17 h2 else if v2 < 0 then jn_X4_about_17 h2 else if 3 < v2 then jn_X4_about_17 h2 else (zgA 4 2 v0 h2).bind fun x3 => zbd (dn_X0_detail x3 v1 v2 h2) fun x4 h5 => (zpF 4 8 v0 (.int x4) h5).bind fun h6 => some (1, h6)
theorem ct_X4_about (g : zG) (l : Launch) (v0 : Nat) (v1 : Int32) (v2 : Int32) : zCt g l yX4_about cX4_about 3 (some .int) 1 22 zrI [.ref v0, .int v1, .int v2] (dn_X4_about v0 v1 v2) := by
  refine zCt_of (lv := [(0, .ref v0), (1, .int v1), (2, .int v2)]) (by decide +kernel) (Nat.le_of_ble_eq_true rfl) rfl ?_
  show zSm g l cX4_about 3 RX4 "about" (some .int) 1 22 zrI 0 [(0, .ref v0), (1, .int v1), (2, .int v2)] [] (dn_X4_about v0 v1 v2)
  unfold dn_X4_about
  refine z_rec ?_
  refine z_aload_n (j := 0) (q := 1) (by decide +kernel) rfl 0 rfl ?_
  refine z_iload_n (j := 1) (q := 2) (by decide +kernel) rfl 1 rfl ?_
  refine z_callVI (As := [.int v1]) (st := []) (q := 5) (ct_X4_isRunner g l v0 v1) zm_RX4_166 (rc_X4_isRunner v0 v1) rfl (by decide) (by decide) (Nat.le_of_ble_eq_true rfl) rfl (by decide +kernel) rfl fun x1 => ?_
  refine z_if_eq (off := 12) (t := 17) (q := 8) (by decide +kernel) (by decide) rfl ?_ ?_
  · refine zsub [] rfl ?_
    exact sj_X4_about_17 g l 
  · refine z_iload_n (j := 2) (q := 9) (by decide +kernel) rfl 2 rfl ?_
    refine z_if_lt (off := 8) (t := 17) (q := 12) (by decide +kernel) (by decide) rfl ?_ ?_
    · refine zsub [] rfl ?_
      exact sj_X4_about_17 g l 
    · refine z_iload_n (j := 2) (q := 13) (by decide +kernel) rfl 2 rfl ?_
      refine z_iconst (n := 3) (v := 3) (q := 14) (by decide +kernel) rfl (by decide) ?_
      refine z_icmp_le (off := 5) (t := 19) (q := 17) (by decide +kernel) (by decide) rfl ?_ ?_
      · refine z_aload_n (j := 0) (q := 20) (by decide +kernel) rfl 0 rfl ?_
        refine z_aload_n (j := 0) (q := 21) (by decide +kernel) rfl 0 rfl ?_
        refine z_getA (q := 24) zf_RX4_21 (by decide +kernel) rfl fun x3 => ?_
        refine z_iload_n (j := 1) (q := 25) (by decide +kernel) rfl 1 rfl ?_
        refine z_iload_n (j := 2) (q := 26) (by decide +kernel) rfl 2 rfl ?_
        refine z_callVI (As := [.int v1, .int v2]) (st := [.ref v0]) (q := 29) (ct_X0_detail g l x3 v1 v2) zm_RX4_169 (rc_X0_detail x3 v1 v2) rfl (by decide) (by decide) (Nat.le_of_ble_eq_true rfl) rfl (by decide +kernel) rfl fun x4 => ?_
        refine z_putV (q := 32) zp_RX4_46 (fun z => by cases z) rfl rfl (by decide +kernel) rfl ?_
        refine z_iconst (n := 1) (v := 1) (q := 33) (by decide +kernel) rfl (by decide) ?_
        exact z_iret (by decide +kernel)
      · refine zsub [] rfl ?_
        exact sj_X4_about_17 g l 
theorem rc_X4_about (v0 : Nat) (v1 : Int32) (v2 : Int32) : ∀ h x, dn_X4_about v0 v1 v2 h = some x → ∃ fs, zgO 4 v0 h = some fs := fun h x hd => by
  obtain ⟨fs, e, -⟩ := Option.bind_eq_some_iff.mp hd
  exact ⟨fs, e⟩
def jn_X4_pace_27 (v0 : Nat) : zAH → Option (Int32 × zAH) := fun h => zbd (dn_X4_found v0 2 h) fun x1 h2 => some (x1, h2)
theorem sj_X4_pace_27 (g : zG) (l : Launch) (v0 : Nat) : zSm g l cX4_pace 3 RX4 "pace" (some .int) 1 22 zrI 27 [(0, .ref v0)] [] (jn_X4_pace_27 v0) := by
  unfold jn_X4_pace_27
  refine z_aload_n (j := 0) (q := 28) (by decide +kernel) rfl 0 rfl ?_
  refine z_iconst (n := 2) (v := 2) (q := 29) (by decide +kernel) rfl (by decide) ?_
  refine z_callVI (As := [.int 2]) (st := []) (q := 32) (ct_X4_found g l v0 2) zm_RX4_109 (rc_X4_found v0 2) rfl (by decide) (by decide) (Nat.le_of_ble_eq_true rfl) rfl (by decide +kernel) rfl fun x1 => ?_
  exact z_iret (by decide +kernel)
def dn_X4_pace (v0 : Nat) (v1 : Int32) (v2 : Int32) : zAH → Option (Int32 × zAH) := fun h => (zgO 4 v0 h).bind fun _ => zbd (dn_X4_isRunner v0 v1 h) fun x1 h2 => if x1 = 0 then some ((-1), h2) else if v2 < 0 then jn_X4_pace_27 v0 h2 else (zgA 4 2 v0 h2).bind fun x3 => (zgA 0 6 x3 h2).bind fun x4 => (zaI 0 x4 v1 h2).bind fun x5 => if v2 < x5 then (zgA 4 2 v0 h2).bind fun x6 => zbd (dn_X0_paceAt x6 v1 v2 h2) fun x7 h8 => some (x7, h8) else jn_X4_pace_27 v0 h2
theorem ct_X4_pace (g : zG) (l : Launch) (v0 : Nat) (v1 : Int32) (v2 : Int32) : zCt g l yX4_pace cX4_pace 3 (some .int) 1 22 zrI [.ref v0, .int v1, .int v2] (dn_X4_pace v0 v1 v2) := by
  refine zCt_of (lv := [(0, .ref v0), (1, .int v1), (2, .int v2)]) (by decide +kernel) (Nat.le_of_ble_eq_true rfl) rfl ?_
  show zSm g l cX4_pace 3 RX4 "pace" (some .int) 1 22 zrI 0 [(0, .ref v0), (1, .int v1), (2, .int v2)] [] (dn_X4_pace v0 v1 v2)
  unfold dn_X4_pace
  refine z_rec ?_
  refine z_aload_n (j := 0) (q := 1) (by decide +kernel) rfl 0 rfl ?_
  refine z_iload_n (j := 1) (q := 2) (by decide +kernel) rfl 1 rfl ?_
  refine z_callVI (As := [.int v1]) (st := []) (q := 5) (ct_X4_isRunner g l v0 v1) zm_RX4_166 (rc_X4_isRunner v0 v1) rfl (by decide) (by decide) (Nat.le_of_ble_eq_true rfl) rfl (by decide +kernel) rfl fun x1 => ?_
  refine z_if_ne (off := 5) (t := 10) (q := 8) (by decide +kernel) (by decide) rfl ?_ ?_
  · refine z_iload_n (j := 2) (q := 11) (by decide +kernel) rfl 2 rfl ?_
    refine z_if_lt (off := 16) (t := 27) (q := 14) (by decide +kernel) (by decide) rfl ?_ ?_
    · refine zsub [0] rfl ?_
      exact sj_X4_pace_27 g l v0
    · refine z_iload_n (j := 2) (q := 15) (by decide +kernel) rfl 2 rfl ?_
      refine z_aload_n (j := 0) (q := 16) (by decide +kernel) rfl 0 rfl ?_
      refine z_getA (q := 19) zf_RX4_21 (by decide +kernel) rfl fun x3 => ?_
      refine z_getA (q := 22) zf_RX4_173 (by decide +kernel) rfl fun x4 => ?_
      refine z_iload_n (j := 1) (q := 23) (by decide +kernel) rfl 1 rfl ?_
      refine z_iald (q := 24) (Or.inl ⟨rfl, rfl⟩) (by decide +kernel) rfl fun x5 => ?_
      refine z_icmp_lt (off := 9) (t := 33) (q := 27) (by decide +kernel) (by decide) rfl ?_ ?_
      · refine z_aload_n (j := 0) (q := 34) (by decide +kernel) rfl 0 rfl ?_
        refine z_getA (q := 37) zf_RX4_21 (by decide +kernel) rfl fun x6 => ?_
        refine z_iload_n (j := 1) (q := 38) (by decide +kernel) rfl 1 rfl ?_
        refine z_iload_n (j := 2) (q := 39) (by decide +kernel) rfl 2 rfl ?_
        refine z_callVI (As := [.int v1, .int v2]) (st := []) (q := 42) (ct_X0_paceAt g l x6 v1 v2) zm_RX4_176 (rc_X0_paceAt x6 v1 v2) rfl (by decide) (by decide) (Nat.le_of_ble_eq_true rfl) rfl (by decide +kernel) rfl fun x7 => ?_
        exact z_iret (by decide +kernel)
      · refine zsub [0] rfl ?_
        exact sj_X4_pace_27 g l v0
  · refine z_iconst (n := (-1)) (v := (-1)) (q := 9) (by decide +kernel) rfl (by decide) ?_
    exact z_iret (by decide +kernel)
theorem rc_X4_pace (v0 : Nat) (v1 : Int32) (v2 : Int32) : ∀ h x, dn_X4_pace v0 v1 v2 h = some x → ∃ fs, zgO 4 v0 h = some fs := fun h x hd => by
  obtain ⟨fs, e, -⟩ := Option.bind_eq_some_iff.mp hd
  exact ⟨fs, e⟩
def jn_X4_mark_18 : zAH → Option (Int32 × zAH) := fun h => some ((-1), h)
theorem sj_X4_mark_18 (g : zG) (l : Launch) : zSm g l cX4_mark 3 RX4 "mark" (some .int) 2 46 zrI 18 [] [] (jn_X4_mark_18) := by
  unfold jn_X4_mark_18
  refine z_iconst (n := (-1)) (v := (-1)) (q := 19) (by decide +kernel) rfl (by decide) ?_
  exact z_iret (by decide +kernel)
def jn_X4_mark_100 (v0 : Nat) (v1 : Int32) : zAH → Option (Int32 × zAH) := fun h => (zgA 4 2 v0 h).bind fun x1 => zbd (dn_X0_pacesOf x1 v1 3 h) fun x2 h3 => some (x2, h3)
theorem sj_X4_mark_100 (g : zG) (l : Launch) (v0 : Nat) (v1 : Int32) : zSm g l cX4_mark 3 RX4 "mark" (some .int) 2 46 zrI 100 [(0, .ref v0), (1, .int v1)] [] (jn_X4_mark_100 v0 v1) := by
  unfold jn_X4_mark_100
  refine z_aload_n (j := 0) (q := 101) (by decide +kernel) rfl 0 rfl ?_
  refine z_getA (q := 104) zf_RX4_21 (by decide +kernel) rfl fun x1 => ?_
  refine z_iload_n (j := 1) (q := 105) (by decide +kernel) rfl 1 rfl ?_
  refine z_iconst (n := 3) (v := 3) (q := 106) (by decide +kernel) rfl (by decide) ?_
  refine z_callVI (As := [.int v1, .int 3]) (st := []) (q := 109) (ct_X0_pacesOf g l x1 v1 3) zm_RX4_188 (rc_X0_pacesOf x1 v1 3) rfl (by decide) (by decide) (Nat.le_of_ble_eq_true rfl) rfl (by decide +kernel) rfl fun x2 => ?_
  exact z_iret (by decide +kernel)
def dn_X4_mark (v0 : Nat) (v1 : Int32) (v2 : Int32) : zAH → Option (Int32 × zAH) := fun h => (zgO 4 v0 h).bind fun _ => zbd (dn_X4_isRunner v0 v1 h) fun x1 h2 => if x1 = 0 then jn_X4_mark_18 h2 else if v2 < 1 then jn_X4_mark_18 h2 else if 5 < v2 then jn_X4_mark_18 h2 else (zgA 4 2 v0 h2).bind fun x3 => (zgA 0 3 x3 h2).bind fun x4 => (zaI 0 x4 v1 h2).bind fun x5 => zbd (dn_X0_isOf x5 v2 h2) fun x6 h7 => if x6 = 0 then zbd (dn_X4_found v0 3 h7) fun x20 h21 => some (x20, h21) else if v2 = 1 then (zgA 4 2 v0 h7).bind fun x8 => zbd (dn_X0_climbs x8 h7) fun x9 h10 => some (x9, h10) else if v2 = 2 then (zgA 4 2 v0 h7).bind fun x12 => (zgA 0 4 x12 h7).bind fun x13 => (zaI 0 x13 v1 h7).bind fun x14 => some (x14, h7) else if v2 = 4 then (zgA 4 2 v0 h7).bind fun x16 => zbd (dn_X0_pacesOf x16 v1 0 h7) fun x17 h18 => some (x17, h18) else jn_X4_mark_100 v0 v1 h7
theorem ct_X4_mark (g : zG) (l : Launch) (v0 : Nat) (v1 : Int32) (v2 : Int32) : zCt g l yX4_mark cX4_mark 3 (some .int) 2 46 zrI [.ref v0, .int v1, .int v2] (dn_X4_mark v0 v1 v2) := by
  refine zCt_of (lv := [(0, .ref v0), (1, .int v1), (2, .int v2)]) (by decide +kernel) (Nat.le_of_ble_eq_true rfl) rfl ?_
  show zSm g l cX4_mark 3 RX4 "mark" (some .int) 2 46 zrI 0 [(0, .ref v0), (1, .int v1), (2, .int v2)] [] (dn_X4_mark v0 v1 v2)
  unfold dn_X4_mark
  refine z_rec ?_
  refine z_aload_n (j := 0) (q := 1) (by decide +kernel) rfl 0 rfl ?_
  refine z_iload_n (j := 1) (q := 2) (by decide +kernel) rfl 1 rfl ?_
  refine z_callVI (As := [.int v1]) (st := []) (q := 5) (ct_X4_isRunner g l v0 v1) zm_RX4_166 (rc_X4_isRunner v0 v1) rfl (by decide) (by decide) (Nat.le_of_ble_eq_true rfl) rfl (by decide +kernel) rfl fun x1 => ?_
  refine z_if_eq (off := 13) (t := 18) (q := 8) (by decide +kernel) (by decide) rfl ?_ ?_
  · refine zsub [] rfl ?_
    exact sj_X4_mark_18 g l 
  · refine z_iload_n (j := 2) (q := 9) (by decide +kernel) rfl 2 rfl ?_
    refine z_iconst (n := 1) (v := 1) (q := 10) (by decide +kernel) rfl (by decide) ?_
    refine z_icmp_lt (off := 8) (t := 18) (q := 13) (by decide +kernel) (by decide) rfl ?_ ?_
    · refine zsub [] rfl ?_
      exact sj_X4_mark_18 g l 
    · refine z_iload_n (j := 2) (q := 14) (by decide +kernel) rfl 2 rfl ?_
      refine z_iconst (n := 5) (v := 5) (q := 15) (by decide +kernel) rfl (by decide) ?_
      refine z_icmp_le (off := 5) (t := 20) (q := 18) (by decide +kernel) (by decide) rfl ?_ ?_
      · refine z_aload_n (j := 0) (q := 21) (by decide +kernel) rfl 0 rfl ?_
        refine z_getA (q := 24) zf_RX4_21 (by decide +kernel) rfl fun x3 => ?_
        refine z_getA (q := 27) zf_RX4_179 (by decide +kernel) rfl fun x4 => ?_
        refine z_iload_n (j := 1) (q := 28) (by decide +kernel) rfl 1 rfl ?_
        refine z_iald (q := 29) (Or.inl ⟨rfl, rfl⟩) (by decide +kernel) rfl fun x5 => ?_
        refine z_iload_n (j := 2) (q := 30) (by decide +kernel) rfl 2 rfl ?_
        refine z_callSI (As := [.int x5, .int v2]) (st := []) (q := 33) (ct_X0_isOf g l x5 v2) zm_RX4_182 rfl (by decide) (by decide) (Nat.le_of_ble_eq_true rfl) rfl (by decide +kernel) rfl fun x6 => ?_
        refine z_if_ne (off := 9) (t := 42) (q := 36) (by decide +kernel) (by decide) rfl ?_ ?_
        · refine z_iload_n (j := 2) (q := 43) (by decide +kernel) rfl 2 rfl ?_
          refine z_case (fun c11 => ?_) (fun c11 => ?_)
          · refine z_tabIn (v := 1) (off := 29) (t := 72) c11 (by decide +kernel : decode cX4_mark 43 = .ok (.tableswitch 57 1 4 #[29, 37, 57, 47], 29)) (by decide) (by decide) (by decide) (by decide) ?_
            refine z_aload_n (j := 0) (q := 73) (by decide +kernel) rfl 0 rfl ?_
            refine z_getA (q := 76) zf_RX4_21 (by decide +kernel) rfl fun x8 => ?_
            refine z_callVI (As := []) (st := []) (q := 79) (ct_X0_climbs g l x8) zm_RX4_185 (rc_X0_climbs x8) rfl (by decide) (by decide) (Nat.le_of_ble_eq_true rfl) rfl (by decide +kernel) rfl fun x9 => ?_
            exact z_iret (by decide +kernel)
          · skip
            refine z_case (fun c15 => ?_) (fun c15 => ?_)
            · refine z_tabIn (v := 2) (off := 37) (t := 80) c15 (by decide +kernel : decode cX4_mark 43 = .ok (.tableswitch 57 1 4 #[29, 37, 57, 47], 29)) (by decide) (by decide) (by decide) (by decide) ?_
              refine z_aload_n (j := 0) (q := 81) (by decide +kernel) rfl 0 rfl ?_
              refine z_getA (q := 84) zf_RX4_21 (by decide +kernel) rfl fun x12 => ?_
              refine z_getA (q := 87) zf_RX4_150 (by decide +kernel) rfl fun x13 => ?_
              refine z_iload_n (j := 1) (q := 88) (by decide +kernel) rfl 1 rfl ?_
              refine z_iald (q := 89) (Or.inl ⟨rfl, rfl⟩) (by decide +kernel) rfl fun x14 => ?_
              exact z_iret (by decide +kernel)
            · skip
              refine z_case (fun c19 => ?_) (fun c19 => ?_)
              · refine z_tabIn (v := 4) (off := 47) (t := 90) c19 (by decide +kernel : decode cX4_mark 43 = .ok (.tableswitch 57 1 4 #[29, 37, 57, 47], 29)) (by decide) (by decide) (by decide) (by decide) ?_
                refine z_aload_n (j := 0) (q := 91) (by decide +kernel) rfl 0 rfl ?_
                refine z_getA (q := 94) zf_RX4_21 (by decide +kernel) rfl fun x16 => ?_
                refine z_iload_n (j := 1) (q := 95) (by decide +kernel) rfl 1 rfl ?_
                refine z_iconst (n := 0) (v := 0) (q := 96) (by decide +kernel) rfl (by decide) ?_
                refine z_callVI (As := [.int v1, .int 0]) (st := []) (q := 99) (ct_X0_pacesOf g l x16 v1 0) zm_RX4_188 (rc_X0_pacesOf x16 v1 0) rfl (by decide) (by decide) (Nat.le_of_ble_eq_true rfl) rfl (by decide +kernel) rfl fun x17 => ?_
                exact z_iret (by decide +kernel)
              · skip
                have nc11 := lv_neT (a := 1) c11 (by decide)
                have nc15 := lv_neT (a := 2) c15 (by decide)
                have nc19 := lv_neT (a := 4) c19 (by decide)
                refine z_tabOut (t := 100) (by decide +kernel : decode cX4_mark 43 = .ok (.tableswitch 57 1 4 #[29, 37, 57, 47], 29)) (by
                    by_cases ho : (v2).toInt < 1 ∨ 4 < (v2).toInt
                    · exact Or.inl ho
                    · refine Or.inr ⟨by omega, by omega, ?_⟩
                      have hh : (v2).toInt = 3 := by omega
                      rcases hh with hh <;> rw [hh] <;> rfl) (by decide) ?_
                refine zsub [0, 1] rfl ?_
                exact sj_X4_mark_100 g l v0 v1
        · refine z_aload_n (j := 0) (q := 37) (by decide +kernel) rfl 0 rfl ?_
          refine z_iconst (n := 3) (v := 3) (q := 38) (by decide +kernel) rfl (by decide) ?_
          refine z_callVI (As := [.int 3]) (st := []) (q := 41) (ct_X4_found g l v0 3) zm_RX4_109 (rc_X4_found v0 3) rfl (by decide) (by decide) (Nat.le_of_ble_eq_true rfl) rfl (by decide +kernel) rfl fun x20 => ?_
          exact z_iret (by decide +kernel)
      · refine zsub [] rfl ?_
        exact sj_X4_mark_18 g l 
theorem rc_X4_mark (v0 : Nat) (v1 : Int32) (v2 : Int32) : ∀ h x, dn_X4_mark v0 v1 v2 h = some x → ∃ fs, zgO 4 v0 h = some fs := fun h x hd => by
  obtain ⟨fs, e, -⟩ := Option.bind_eq_some_iff.mp hd
  exact ⟨fs, e⟩
def jn_X4_head_18 : zAH → Option (Int32 × zAH) := fun h => some ((-1), h)
theorem sj_X4_head_18 (g : zG) (l : Launch) : zSm g l cX4_head 4 RX4 "head" (some .int) 1 21 zrI 18 [] [] (jn_X4_head_18) := by
  unfold jn_X4_head_18
  refine z_iconst (n := (-1)) (v := (-1)) (q := 19) (by decide +kernel) rfl (by decide) ?_
  exact z_iret (by decide +kernel)
def dn_X4_head (v0 : Nat) (v1 : Int32) (v2 : Int32) : zAH → Option (Int32 × zAH) := fun h => (zgO 4 v0 h).bind fun _ => zbd (dn_X4_isRunner v0 v1 h) fun x1 h2 => if x1 = 0 then jn_X4_head_18 h2 else if v2 < 0 then jn_X4_head_18 h2 else if 9 < v2 then jn_X4_head_18 h2 else (zgA 4 2 v0 h2).bind fun x3 => (zgA 0 5 x3 h2).bind fun x4 => (zaI 0 x4 v1 h2).bind fun x5 => (zgA 4 2 v0 h2).bind fun x6 => (zgA 0 5 x6 h2).bind fun x7 => (zaS 0 x7 v1 v2 h2).bind fun h8 => some (x5, h8)
theorem ct_X4_head (g : zG) (l : Launch) (v0 : Nat) (v1 : Int32) (v2 : Int32) : zCt g l yX4_head cX4_head 4 (some .int) 1 21 zrI [.ref v0, .int v1, .int v2] (dn_X4_head v0 v1 v2) := by
  refine zCt_of (lv := [(0, .ref v0), (1, .int v1), (2, .int v2)]) (by decide +kernel) (Nat.le_of_ble_eq_true rfl) rfl ?_
  show zSm g l cX4_head 4 RX4 "head" (some .int) 1 21 zrI 0 [(0, .ref v0), (1, .int v1), (2, .int v2)] [] (dn_X4_head v0 v1 v2)
  unfold dn_X4_head
  refine z_rec ?_
  refine z_aload_n (j := 0) (q := 1) (by decide +kernel) rfl 0 rfl ?_
  refine z_iload_n (j := 1) (q := 2) (by decide +kernel) rfl 1 rfl ?_
  refine z_callVI (As := [.int v1]) (st := []) (q := 5) (ct_X4_isRunner g l v0 v1) zm_RX4_166 (rc_X4_isRunner v0 v1) rfl (by decide) (by decide) (Nat.le_of_ble_eq_true rfl) rfl (by decide +kernel) rfl fun x1 => ?_
  refine z_if_eq (off := 13) (t := 18) (q := 8) (by decide +kernel) (by decide) rfl ?_ ?_
  · refine zsub [] rfl ?_
    exact sj_X4_head_18 g l 
  · refine z_iload_n (j := 2) (q := 9) (by decide +kernel) rfl 2 rfl ?_
    refine z_if_lt (off := 9) (t := 18) (q := 12) (by decide +kernel) (by decide) rfl ?_ ?_
    · refine zsub [] rfl ?_
      exact sj_X4_head_18 g l 
    · refine z_iload_n (j := 2) (q := 13) (by decide +kernel) rfl 2 rfl ?_
      refine z_bipush (n := 9) (v := 9) (q := 15) (by decide +kernel) rfl (by decide) ?_
      refine z_icmp_le (off := 5) (t := 20) (q := 18) (by decide +kernel) (by decide) rfl ?_ ?_
      · refine z_aload_n (j := 0) (q := 21) (by decide +kernel) rfl 0 rfl ?_
        refine z_getA (q := 24) zf_RX4_21 (by decide +kernel) rfl fun x3 => ?_
        refine z_getA (q := 27) zf_RX4_147 (by decide +kernel) rfl fun x4 => ?_
        refine z_iload_n (j := 1) (q := 28) (by decide +kernel) rfl 1 rfl ?_
        refine z_iald (q := 29) (Or.inl ⟨rfl, rfl⟩) (by decide +kernel) rfl fun x5 => ?_
        refine z_istore_n (j := 3) (q := 30) (by decide +kernel) rfl (by decide) rfl ?_
        refine z_aload_n (j := 0) (q := 31) (by decide +kernel) rfl 1 rfl ?_
        refine z_getA (q := 34) zf_RX4_21 (by decide +kernel) rfl fun x6 => ?_
        refine z_getA (q := 37) zf_RX4_147 (by decide +kernel) rfl fun x7 => ?_
        refine z_iload_n (j := 1) (q := 38) (by decide +kernel) rfl 2 rfl ?_
        refine z_iload_n (j := 2) (q := 39) (by decide +kernel) rfl 3 rfl ?_
        refine z_iast (q := 40) (Or.inl ⟨rfl, rfl, rfl⟩) (by decide +kernel) rfl ?_
        refine z_iload_n (j := 3) (q := 41) (by decide +kernel) rfl 0 rfl ?_
        exact z_iret (by decide +kernel)
      · refine zsub [] rfl ?_
        exact sj_X4_head_18 g l 
theorem rc_X4_head (v0 : Nat) (v1 : Int32) (v2 : Int32) : ∀ h x, dn_X4_head v0 v1 v2 h = some x → ∃ fs, zgO 4 v0 h = some fs := fun h x hd => by
  obtain ⟨fs, e, -⟩ := Option.bind_eq_some_iff.mp hd
  exact ⟨fs, e⟩
def jn_X4_law_9 : zAH → Option (Int32 × zAH) := fun h => some ((-1), h)
theorem sj_X4_law_9 (g : zG) (l : Launch) : zSm g l cX4_law 3 RX4 "law" (some .int) 0 0 zrI 9 [] [] (jn_X4_law_9) := by
  unfold jn_X4_law_9
  refine z_iconst (n := (-1)) (v := (-1)) (q := 10) (by decide +kernel) rfl (by decide) ?_
  exact z_iret (by decide +kernel)
def dn_X4_law (v0 : Nat) (v1 : Int32) : zAH → Option (Int32 × zAH) := fun h => (zgO 4 v0 h).bind fun _ => if v1 < 0 then jn_X4_law_9 h else if v1 < 3 then (zgI 4 7 v0 h).bind fun x1 => (zpF 4 7 v0 (.int v1) h).bind fun h2 => some (x1, h2) else jn_X4_law_9 h
theorem ct_X4_law (g : zG) (l : Launch) (v0 : Nat) (v1 : Int32) : zCt g l yX4_law cX4_law 3 (some .int) 0 0 zrI [.ref v0, .int v1] (dn_X4_law v0 v1) := by
  refine zCt_of (lv := [(0, .ref v0), (1, .int v1)]) (by decide +kernel) (Nat.le_of_ble_eq_true rfl) rfl ?_
  show zSm g l cX4_law 3 RX4 "law" (some .int) 0 0 zrI 0 [(0, .ref v0), (1, .int v1)] [] (dn_X4_law v0 v1)
  unfold dn_X4_law
  refine z_rec ?_
  refine z_iload_n (j := 1) (q := 1) (by decide +kernel) rfl 1 rfl ?_
  refine z_if_lt (off := 8) (t := 9) (q := 4) (by decide +kernel) (by decide) rfl ?_ ?_
  · refine zsub [] rfl ?_
    exact sj_X4_law_9 g l 
  · refine z_iload_n (j := 1) (q := 5) (by decide +kernel) rfl 1 rfl ?_
    refine z_iconst (n := 3) (v := 3) (q := 6) (by decide +kernel) rfl (by decide) ?_
    refine z_icmp_lt (off := 5) (t := 11) (q := 9) (by decide +kernel) (by decide) rfl ?_ ?_
    · refine z_aload_n (j := 0) (q := 12) (by decide +kernel) rfl 0 rfl ?_
      refine z_getI (q := 15) zf_RX4_42 (by decide +kernel) rfl fun x1 => ?_
      refine z_istore_n (j := 2) (q := 16) (by decide +kernel) rfl (by decide) rfl ?_
      refine z_aload_n (j := 0) (q := 17) (by decide +kernel) rfl 1 rfl ?_
      refine z_iload_n (j := 1) (q := 18) (by decide +kernel) rfl 2 rfl ?_
      refine z_putV (q := 21) zp_RX4_42 (fun z => by cases z) rfl rfl (by decide +kernel) rfl ?_
      refine z_iload_n (j := 2) (q := 22) (by decide +kernel) rfl 0 rfl ?_
      exact z_iret (by decide +kernel)
    · refine zsub [] rfl ?_
      exact sj_X4_law_9 g l 
theorem rc_X4_law (v0 : Nat) (v1 : Int32) : ∀ h x, dn_X4_law v0 v1 h = some x → ∃ fs, zgO 4 v0 h = some fs := fun h x hd => by
  obtain ⟨fs, e, -⟩ := Option.bind_eq_some_iff.mp hd
  exact ⟨fs, e⟩
def dn_X4_begin (v0 : Nat) : zAH → Option (Int32 × zAH) := fun h => (zgO 4 v0 h).bind fun _ => (zgA 4 2 v0 h).bind fun x1 => zbd (dn_X0_hasRoad x1 h) fun x2 h3 => if x2 = 0 then some ((-4), h3) else (zgA 4 4 v0 h3).bind fun x4 => (zgA 4 2 v0 h3).bind fun x5 => (zgA 4 2 v0 h3).bind fun x6 => (zgA 0 5 x6 h3).bind fun x7 => (zgA 4 2 v0 h3).bind fun x8 => (zgA 0 4 x8 h3).bind fun x9 => zbd (dn_X1_setOff x4 x5 x7 x9 h3) fun x10 h11 => (zgA 4 2 v0 h11).bind fun x12 => (zgI 0 2 x12 h11).bind fun x13 => some (x13, h11)
theorem ct_X4_begin (g : zG) (l : Launch) (v0 : Nat) : zCt g l yX4_begin cX4_begin 1 (some .int) 2 46 zrI [.ref v0] (dn_X4_begin v0) := by
  refine zCt_of (lv := [(0, .ref v0)]) (by decide +kernel) (Nat.le_of_ble_eq_true rfl) rfl ?_
  show zSm g l cX4_begin 1 RX4 "begin" (some .int) 2 46 zrI 0 [(0, .ref v0)] [] (dn_X4_begin v0)
  unfold dn_X4_begin
  refine z_rec ?_
  refine z_aload_n (j := 0) (q := 1) (by decide +kernel) rfl 0 rfl ?_
  refine z_getA (q := 4) zf_RX4_21 (by decide +kernel) rfl fun x1 => ?_
  refine z_callVI (As := []) (st := []) (q := 7) (ct_X0_hasRoad g l x1) zm_RX4_191 (rc_X0_hasRoad x1) rfl (by decide) (by decide) (Nat.le_of_ble_eq_true rfl) rfl (by decide +kernel) rfl fun x2 => ?_
  refine z_if_ne (off := 6) (t := 13) (q := 10) (by decide +kernel) (by decide) rfl ?_ ?_
  · refine z_aload_n (j := 0) (q := 14) (by decide +kernel) rfl 0 rfl ?_
    refine z_getA (q := 17) zf_RX4_31 (by decide +kernel) rfl fun x4 => ?_
    refine z_aload_n (j := 0) (q := 18) (by decide +kernel) rfl 0 rfl ?_
    refine z_getA (q := 21) zf_RX4_21 (by decide +kernel) rfl fun x5 => ?_
    refine z_aload_n (j := 0) (q := 22) (by decide +kernel) rfl 0 rfl ?_
    refine z_getA (q := 25) zf_RX4_21 (by decide +kernel) rfl fun x6 => ?_
    refine z_getA (q := 28) zf_RX4_147 (by decide +kernel) rfl fun x7 => ?_
    refine z_aload_n (j := 0) (q := 29) (by decide +kernel) rfl 0 rfl ?_
    refine z_getA (q := 32) zf_RX4_21 (by decide +kernel) rfl fun x8 => ?_
    refine z_getA (q := 35) zf_RX4_150 (by decide +kernel) rfl fun x9 => ?_
    refine z_callVU (As := [.ref x5, .ref x7, .ref x9]) (st := []) (q := 38) (ct_X1_setOff g l x4 x5 x7 x9) zm_RX4_153 (rc_X1_setOff x4 x5 x7 x9) rfl (by decide) (by decide) (Nat.le_of_ble_eq_true rfl) rfl (by decide +kernel) rfl fun x10 => ?_
    refine z_aload_n (j := 0) (q := 39) (by decide +kernel) rfl 0 rfl ?_
    refine z_getA (q := 42) zf_RX4_21 (by decide +kernel) rfl fun x12 => ?_
    refine z_getI (q := 45) zf_RX4_157 (by decide +kernel) rfl fun x13 => ?_
    exact z_iret (by decide +kernel)
  · refine z_bipush (n := (-4)) (v := (-4)) (q := 12) (by decide +kernel) rfl (by decide) ?_
    exact z_iret (by decide +kernel)
theorem rc_X4_begin (v0 : Nat) : ∀ h x, dn_X4_begin v0 h = some x → ∃ fs, zgO 4 v0 h = some fs := fun h x hd => by
  obtain ⟨fs, e, -⟩ := Option.bind_eq_some_iff.mp hd
  exact ⟨fs, e⟩
def jn_X4_go_10 : zAH → Option (Int32 × zAH) := fun h => some ((-1), h)
theorem sj_X4_go_10 (g : zG) (l : Launch) : zSm g l cX4_go 3 RX4 "go" (some .int) 4 104 zrI 10 [] [] (jn_X4_go_10) := by
  unfold jn_X4_go_10
  refine z_iconst (n := (-1)) (v := (-1)) (q := 11) (by decide +kernel) rfl (by decide) ?_
  exact z_iret (by decide +kernel)
def jn_X4_go_67 (v0 : Nat) : zAH → Option (Int32 × zAH) := fun h => (zgA 4 4 v0 h).bind fun x1 => (zgI 1 1 x1 h).bind fun x2 => some (x2, h)
theorem sj_X4_go_67 (g : zG) (l : Launch) (v0 : Nat) : zSm g l cX4_go 3 RX4 "go" (some .int) 4 104 zrI 67 [(0, .ref v0)] [] (jn_X4_go_67 v0) := by
  unfold jn_X4_go_67
  refine z_aload_n (j := 0) (q := 68) (by decide +kernel) rfl 0 rfl ?_
  refine z_getA (q := 71) zf_RX4_31 (by decide +kernel) rfl fun x1 => ?_
  refine z_getI (q := 74) zf_RX4_201 (by decide +kernel) rfl fun x2 => ?_
  exact z_iret (by decide +kernel)
def lb_X4_go_27 (v0 : Nat) (v1 : Int32) (rec : (Int32) → zAH → Option (Int32 × zAH)) (s : Int32) : zAH → Option (Int32 × zAH) := fun h => if s < v1 then (zgA 4 4 v0 h).bind fun x1 => zbd (dn_X1_isOver x1 h) fun x2 h3 => if x2 = 0 then (zgA 4 4 v0 h3).bind fun x4 => (zgA 4 2 v0 h3).bind fun x5 => (zgI 4 7 v0 h3).bind fun x6 => (zgA 4 13 v0 h3).bind fun x7 => zbd (dn_X1_takeStep x4 x5 x6 x7 h3) fun x8 h9 => rec (s + 1) h9 else jn_X4_go_67 v0 h3 else jn_X4_go_67 v0 h
def lp_X4_go_27 (v0 : Nat) (v1 : Int32) (s : Int32) : zAH → Option (Int32 × zAH) := zlp (lb_X4_go_27 v0 v1) 2000 s
theorem sl_X4_go_27 (g : zG) (l : Launch) (v0 : Nat) (v1 : Int32) (s : Int32) : zSm g l cX4_go 3 RX4 "go" (some .int) 4 104 zrI 27 [(0, .ref v0), (1, .int v1), (2, .int s)] [] (lp_X4_go_27 v0 v1 s) := by
  unfold lp_X4_go_27
  refine z_loop (lvf := fun s => [(0, .ref v0), (1, .int v1), (2, .int s)]) (fun rec hrec s => ?_) 2000 s
  unfold lb_X4_go_27
  refine z_iload_n (j := 2) (q := 28) (by decide +kernel) rfl 2 rfl ?_
  refine z_iload_n (j := 1) (q := 29) (by decide +kernel) rfl 1 rfl ?_
  refine z_icmp_ge (off := 38) (t := 67) (q := 32) (by decide +kernel) (by decide) rfl ?_ ?_
  · refine zsub [0] rfl ?_
    exact sj_X4_go_67 g l v0
  · refine z_aload_n (j := 0) (q := 33) (by decide +kernel) rfl 0 rfl ?_
    refine z_getA (q := 36) zf_RX4_31 (by decide +kernel) rfl fun x1 => ?_
    refine z_callVI (As := []) (st := []) (q := 39) (ct_X1_isOver g l x1) zm_RX4_194 (rc_X1_isOver x1) rfl (by decide) (by decide) (Nat.le_of_ble_eq_true rfl) rfl (by decide +kernel) rfl fun x2 => ?_
    refine z_if_ne (off := 28) (t := 67) (q := 42) (by decide +kernel) (by decide) rfl ?_ ?_
    · refine zsub [0] rfl ?_
      exact sj_X4_go_67 g l v0
    · refine z_aload_n (j := 0) (q := 43) (by decide +kernel) rfl 0 rfl ?_
      refine z_getA (q := 46) zf_RX4_31 (by decide +kernel) rfl fun x4 => ?_
      refine z_aload_n (j := 0) (q := 47) (by decide +kernel) rfl 0 rfl ?_
      refine z_getA (q := 50) zf_RX4_21 (by decide +kernel) rfl fun x5 => ?_
      refine z_aload_n (j := 0) (q := 51) (by decide +kernel) rfl 0 rfl ?_
      refine z_getI (q := 54) zf_RX4_42 (by decide +kernel) rfl fun x6 => ?_
      refine z_aload_n (j := 0) (q := 55) (by decide +kernel) rfl 0 rfl ?_
      refine z_getA (q := 58) zf_RX4_63 (by decide +kernel) rfl fun x7 => ?_
      refine z_callVU (As := [.ref x5, .int x6, .ref x7]) (st := []) (q := 61) (ct_X1_takeStep g l x4 x5 x6 x7) zm_RX4_197 (rc_X1_takeStep x4 x5 x6 x7) rfl (by decide) (by decide) (Nat.le_of_ble_eq_true rfl) rfl (by decide +kernel) rfl fun x8 => ?_
      refine z_iinc (j := 2) (n := 1) (v := 1) (q := 64) (by decide +kernel) rfl 2 rfl (by decide) (by decide) rfl ?_
      refine z_goto (off := (-37)) (t := 27) (by decide +kernel) (by decide) ?_
      refine zsub [1, 2, 0] rfl ?_
      exact hrec (s + 1)
def dn_X4_go (v0 : Nat) (v1 : Int32) : zAH → Option (Int32 × zAH) := fun h => (zgO 4 v0 h).bind fun _ => if v1 < 0 then jn_X4_go_10 h else if 60 < v1 then jn_X4_go_10 h else (zgA 4 2 v0 h).bind fun x1 => zbd (dn_X0_hasRoad x1 h) fun x2 h3 => if x2 = 0 then some ((-4), h3) else lp_X4_go_27 v0 v1 0 h3
theorem ct_X4_go (g : zG) (l : Launch) (v0 : Nat) (v1 : Int32) : zCt g l yX4_go cX4_go 3 (some .int) 4 104 zrI [.ref v0, .int v1] (dn_X4_go v0 v1) := by
  refine zCt_of (lv := [(0, .ref v0), (1, .int v1)]) (by decide +kernel) (Nat.le_of_ble_eq_true rfl) rfl ?_
  show zSm g l cX4_go 3 RX4 "go" (some .int) 4 104 zrI 0 [(0, .ref v0), (1, .int v1)] [] (dn_X4_go v0 v1)
  unfold dn_X4_go
  refine z_rec ?_
  refine z_iload_n (j := 1) (q := 1) (by decide +kernel) rfl 1 rfl ?_
  refine z_if_lt (off := 9) (t := 10) (q := 4) (by decide +kernel) (by decide) rfl ?_ ?_
  · refine zsub [] rfl ?_
    exact sj_X4_go_10 g l 
  · refine z_iload_n (j := 1) (q := 5) (by decide +kernel) rfl 1 rfl ?_
    refine z_bipush (n := 60) (v := 60) (q := 7) (by decide +kernel) rfl (by decide) ?_
    refine z_icmp_le (off := 5) (t := 12) (q := 10) (by decide +kernel) (by decide) rfl ?_ ?_
    · refine z_aload_n (j := 0) (q := 13) (by decide +kernel) rfl 0 rfl ?_
      refine z_getA (q := 16) zf_RX4_21 (by decide +kernel) rfl fun x1 => ?_
      refine z_callVI (As := []) (st := []) (q := 19) (ct_X0_hasRoad g l x1) zm_RX4_191 (rc_X0_hasRoad x1) rfl (by decide) (by decide) (Nat.le_of_ble_eq_true rfl) rfl (by decide +kernel) rfl fun x2 => ?_
      refine z_if_ne (off := 6) (t := 25) (q := 22) (by decide +kernel) (by decide) rfl ?_ ?_
      · refine z_iconst (n := 0) (v := 0) (q := 26) (by decide +kernel) rfl (by decide) ?_
        refine z_istore_n (j := 2) (q := 27) (by decide +kernel) rfl (by decide) rfl ?_
        refine zsub [1, 2, 0] rfl ?_
        exact sl_X4_go_27 g l v0 v1 0
      · refine z_bipush (n := (-4)) (v := (-4)) (q := 24) (by decide +kernel) rfl (by decide) ?_
        exact z_iret (by decide +kernel)
    · refine zsub [] rfl ?_
      exact sj_X4_go_10 g l 
theorem rc_X4_go (v0 : Nat) (v1 : Int32) : ∀ h x, dn_X4_go v0 v1 h = some x → ∃ fs, zgO 4 v0 h = some fs := fun h x hd => by
  obtain ⟨fs, e, -⟩ := Option.bind_eq_some_iff.mp hd
  exact ⟨fs, e⟩
def jn_X4_told_17 : zAH → Option (Int32 × zAH) := fun h => some ((-1), h)
theorem sj_X4_told_17 (g : zG) (l : Launch) : zSm g l cX4_told 3 RX4 "told" (some .int) 4 88 zrI 17 [] [] (jn_X4_told_17) := by
  unfold jn_X4_told_17
  refine z_iconst (n := (-1)) (v := (-1)) (q := 18) (by decide +kernel) rfl (by decide) ?_
  exact z_iret (by decide +kernel)
def dn_X4_told (v0 : Nat) (v1 : Int32) (v2 : Int32) : zAH → Option (Int32 × zAH) := fun h => (zgO 4 v0 h).bind fun _ => zbd (dn_X4_isRunner v0 v1 h) fun x1 h2 => if x1 = 0 then jn_X4_told_17 h2 else if v2 < 0 then jn_X4_told_17 h2 else if 4 < v2 then jn_X4_told_17 h2 else (zgA 4 4 v0 h2).bind fun x3 => zbd (dn_X1_detail x3 v1 v2 h2) fun x4 h5 => (zpF 4 8 v0 (.int x4) h5).bind fun h6 => some (1, h6)
theorem ct_X4_told (g : zG) (l : Launch) (v0 : Nat) (v1 : Int32) (v2 : Int32) : zCt g l yX4_told cX4_told 3 (some .int) 4 88 zrI [.ref v0, .int v1, .int v2] (dn_X4_told v0 v1 v2) := by
  refine zCt_of (lv := [(0, .ref v0), (1, .int v1), (2, .int v2)]) (by decide +kernel) (Nat.le_of_ble_eq_true rfl) rfl ?_
  show zSm g l cX4_told 3 RX4 "told" (some .int) 4 88 zrI 0 [(0, .ref v0), (1, .int v1), (2, .int v2)] [] (dn_X4_told v0 v1 v2)
  unfold dn_X4_told
  refine z_rec ?_
  refine z_aload_n (j := 0) (q := 1) (by decide +kernel) rfl 0 rfl ?_
  refine z_iload_n (j := 1) (q := 2) (by decide +kernel) rfl 1 rfl ?_
  refine z_callVI (As := [.int v1]) (st := []) (q := 5) (ct_X4_isRunner g l v0 v1) zm_RX4_166 (rc_X4_isRunner v0 v1) rfl (by decide) (by decide) (Nat.le_of_ble_eq_true rfl) rfl (by decide +kernel) rfl fun x1 => ?_
  refine z_if_eq (off := 12) (t := 17) (q := 8) (by decide +kernel) (by decide) rfl ?_ ?_
  · refine zsub [] rfl ?_
    exact sj_X4_told_17 g l 
  · refine z_iload_n (j := 2) (q := 9) (by decide +kernel) rfl 2 rfl ?_
    refine z_if_lt (off := 8) (t := 17) (q := 12) (by decide +kernel) (by decide) rfl ?_ ?_
    · refine zsub [] rfl ?_
      exact sj_X4_told_17 g l 
    · refine z_iload_n (j := 2) (q := 13) (by decide +kernel) rfl 2 rfl ?_
      refine z_iconst (n := 4) (v := 4) (q := 14) (by decide +kernel) rfl (by decide) ?_
      refine z_icmp_le (off := 5) (t := 19) (q := 17) (by decide +kernel) (by decide) rfl ?_ ?_
      · refine z_aload_n (j := 0) (q := 20) (by decide +kernel) rfl 0 rfl ?_
        refine z_aload_n (j := 0) (q := 21) (by decide +kernel) rfl 0 rfl ?_
        refine z_getA (q := 24) zf_RX4_31 (by decide +kernel) rfl fun x3 => ?_
        refine z_iload_n (j := 1) (q := 25) (by decide +kernel) rfl 1 rfl ?_
        refine z_iload_n (j := 2) (q := 26) (by decide +kernel) rfl 2 rfl ?_
        refine z_callVI (As := [.int v1, .int v2]) (st := [.ref v0]) (q := 29) (ct_X1_detail g l x3 v1 v2) zm_RX4_204 (rc_X1_detail x3 v1 v2) rfl (by decide) (by decide) (Nat.le_of_ble_eq_true rfl) rfl (by decide +kernel) rfl fun x4 => ?_
        refine z_putV (q := 32) zp_RX4_46 (fun z => by cases z) rfl rfl (by decide +kernel) rfl ?_
        refine z_iconst (n := 1) (v := 1) (q := 33) (by decide +kernel) rfl (by decide) ?_
        exact z_iret (by decide +kernel)
      · refine zsub [] rfl ?_
        exact sj_X4_told_17 g l 
theorem rc_X4_told (v0 : Nat) (v1 : Int32) (v2 : Int32) : ∀ h x, dn_X4_told v0 v1 v2 h = some x → ∃ fs, zgO 4 v0 h = some fs := fun h x hd => by
  obtain ⟨fs, e, -⟩ := Option.bind_eq_some_iff.mp hd
  exact ⟨fs, e⟩
def dn_X4_sack (v0 : Nat) : zAH → Option (Int32 × zAH) := fun h => (zgO 4 v0 h).bind fun _ => (zgA 4 2 v0 h).bind fun x1 => (zgI 0 2 x1 h).bind fun x2 => if x2 = 0 then some ((-4), h) else (zgA 4 4 v0 h).bind fun x3 => (zgI 1 4 x3 h).bind fun x4 => (zpF 4 8 v0 (.int x4) h).bind fun h5 => (zgA 4 4 v0 h5).bind fun x6 => (zgI 1 3 x6 h5).bind fun x7 => some (x7, h5)
theorem ct_X4_sack (g : zG) (l : Launch) (v0 : Nat) : zCt g l yX4_sack cX4_sack 1 (some .int) 0 0 zrI [.ref v0] (dn_X4_sack v0) := by
  refine zCt_of (lv := [(0, .ref v0)]) (by decide +kernel) (Nat.le_of_ble_eq_true rfl) rfl ?_
  show zSm g l cX4_sack 1 RX4 "sack" (some .int) 0 0 zrI 0 [(0, .ref v0)] [] (dn_X4_sack v0)
  unfold dn_X4_sack
  refine z_rec ?_
  refine z_aload_n (j := 0) (q := 1) (by decide +kernel) rfl 0 rfl ?_
  refine z_getA (q := 4) zf_RX4_21 (by decide +kernel) rfl fun x1 => ?_
  refine z_getI (q := 7) zf_RX4_157 (by decide +kernel) rfl fun x2 => ?_
  refine z_if_ne (off := 6) (t := 13) (q := 10) (by decide +kernel) (by decide) rfl ?_ ?_
  · refine z_aload_n (j := 0) (q := 14) (by decide +kernel) rfl 0 rfl ?_
    refine z_aload_n (j := 0) (q := 15) (by decide +kernel) rfl 0 rfl ?_
    refine z_getA (q := 18) zf_RX4_31 (by decide +kernel) rfl fun x3 => ?_
    refine z_getI (q := 21) zf_RX4_205 (by decide +kernel) rfl fun x4 => ?_
    refine z_putV (q := 24) zp_RX4_46 (fun z => by cases z) rfl rfl (by decide +kernel) rfl ?_
    refine z_aload_n (j := 0) (q := 25) (by decide +kernel) rfl 0 rfl ?_
    refine z_getA (q := 28) zf_RX4_31 (by decide +kernel) rfl fun x6 => ?_
    refine z_getI (q := 31) zf_RX4_208 (by decide +kernel) rfl fun x7 => ?_
    exact z_iret (by decide +kernel)
  · refine z_bipush (n := (-4)) (v := (-4)) (q := 12) (by decide +kernel) rfl (by decide) ?_
    exact z_iret (by decide +kernel)
theorem rc_X4_sack (v0 : Nat) : ∀ h x, dn_X4_sack v0 h = some x → ∃ fs, zgO 4 v0 h = some fs := fun h x hd => by
  obtain ⟨fs, e, -⟩ := Option.bind_eq_some_iff.mp hd
  exact ⟨fs, e⟩
def dn_X4_passed (v0 : Nat) (v1 : Int32) : zAH → Option (Int32 × zAH) := fun h => (zgO 4 v0 h).bind fun _ => zbd (dn_X4_isRunner v0 v1 h) fun x1 h2 => if x1 = 0 then some ((-1), h2) else (zgA 4 4 v0 h2).bind fun x3 => (zgA 1 11 x3 h2).bind fun x4 => (zaI 0 x4 v1 h2).bind fun x5 => some (x5, h2)
theorem ct_X4_passed (g : zG) (l : Launch) (v0 : Nat) (v1 : Int32) : zCt g l yX4_passed cX4_passed 2 (some .int) 1 21 zrI [.ref v0, .int v1] (dn_X4_passed v0 v1) := by
  refine zCt_of (lv := [(0, .ref v0), (1, .int v1)]) (by decide +kernel) (Nat.le_of_ble_eq_true rfl) rfl ?_
  show zSm g l cX4_passed 2 RX4 "passed" (some .int) 1 21 zrI 0 [(0, .ref v0), (1, .int v1)] [] (dn_X4_passed v0 v1)
  unfold dn_X4_passed
  refine z_rec ?_
  refine z_aload_n (j := 0) (q := 1) (by decide +kernel) rfl 0 rfl ?_
  refine z_iload_n (j := 1) (q := 2) (by decide +kernel) rfl 1 rfl ?_
  refine z_callVI (As := [.int v1]) (st := []) (q := 5) (ct_X4_isRunner g l v0 v1) zm_RX4_166 (rc_X4_isRunner v0 v1) rfl (by decide) (by decide) (Nat.le_of_ble_eq_true rfl) rfl (by decide +kernel) rfl fun x1 => ?_
  refine z_if_ne (off := 5) (t := 10) (q := 8) (by decide +kernel) (by decide) rfl ?_ ?_
  · refine z_aload_n (j := 0) (q := 11) (by decide +kernel) rfl 0 rfl ?_
    refine z_getA (q := 14) zf_RX4_31 (by decide +kernel) rfl fun x3 => ?_
    refine z_getA (q := 17) zf_RX4_211 (by decide +kernel) rfl fun x4 => ?_
    refine z_iload_n (j := 1) (q := 18) (by decide +kernel) rfl 1 rfl ?_
    refine z_iald (q := 19) (Or.inl ⟨rfl, rfl⟩) (by decide +kernel) rfl fun x5 => ?_
    exact z_iret (by decide +kernel)
  · refine z_iconst (n := (-1)) (v := (-1)) (q := 9) (by decide +kernel) rfl (by decide) ?_
    exact z_iret (by decide +kernel)
theorem rc_X4_passed (v0 : Nat) (v1 : Int32) : ∀ h x, dn_X4_passed v0 v1 h = some x → ∃ fs, zgO 4 v0 h = some fs := fun h x hd => by
  obtain ⟨fs, e, -⟩ := Option.bind_eq_some_iff.mp hd
  exact ⟨fs, e⟩
def jn_X4_isKeptPlace_14 (w0 : Int32) : zAH → Option (Int32 × zAH) := fun h => if w0 = 0 ∨ w0 = 1 then some (w0, h) else none
theorem sj_X4_isKeptPlace_14 (g : zG) (l : Launch) (w0 : Int32) : zSm g l cX4_isKeptPlace 1 RX4 "isKeptPlace" (some .boolean) 0 0 zrI 14 [] [.int w0] (jn_X4_isKeptPlace_14 w0) := by
  unfold jn_X4_isKeptPlace_14
  exact z_zret (by decide +kernel)
def jn_X4_isKeptPlace_13 : zAH → Option (Int32 × zAH) := fun h => jn_X4_isKeptPlace_14 0 h
theorem sj_X4_isKeptPlace_13 (g : zG) (l : Launch) : zSm g l cX4_isKeptPlace 1 RX4 "isKeptPlace" (some .boolean) 0 0 zrI 13 [] [] (jn_X4_isKeptPlace_13) := by
  unfold jn_X4_isKeptPlace_13
  refine z_iconst (n := 0) (v := 0) (q := 14) (by decide +kernel) rfl (by decide) ?_
  refine zsub [] rfl ?_
  exact sj_X4_isKeptPlace_14 g l 0
def dn_X4_isKeptPlace (v0 : Int32) : zAH → Option (Int32 × zAH) := fun h => if v0 < 0 then jn_X4_isKeptPlace_13 h else if v0 < 3 then jn_X4_isKeptPlace_14 1 h else jn_X4_isKeptPlace_13 h
theorem ct_X4_isKeptPlace (g : zG) (l : Launch) (v0 : Int32) : zCt g l yX4_isKeptPlace cX4_isKeptPlace 1 (some .boolean) 0 0 zrI [.int v0] (dn_X4_isKeptPlace v0) := by
  refine zCt_of (lv := [(0, .int v0)]) (by decide +kernel) (Nat.le_of_ble_eq_true rfl) rfl ?_
  show zSm g l cX4_isKeptPlace 1 RX4 "isKeptPlace" (some .boolean) 0 0 zrI 0 [(0, .int v0)] [] (dn_X4_isKeptPlace v0)
  unfold dn_X4_isKeptPlace
  refine z_iload_n (j := 0) (q := 1) (by decide +kernel) rfl 0 rfl ?_
  refine z_if_lt (off := 12) (t := 13) (q := 4) (by decide +kernel) (by decide) rfl ?_ ?_
  · refine zsub [] rfl ?_
    exact sj_X4_isKeptPlace_13 g l 
  · refine z_iload_n (j := 0) (q := 5) (by decide +kernel) rfl 0 rfl ?_
    refine z_iconst (n := 3) (v := 3) (q := 6) (by decide +kernel) rfl (by decide) ?_
    refine z_icmp_ge (off := 7) (t := 13) (q := 9) (by decide +kernel) (by decide) rfl ?_ ?_
    · refine zsub [] rfl ?_
      exact sj_X4_isKeptPlace_13 g l 
    · refine z_iconst (n := 1) (v := 1) (q := 10) (by decide +kernel) rfl (by decide) ?_
      refine z_goto (off := 4) (t := 14) (by decide +kernel) (by decide) ?_
      refine zsub [] rfl ?_
      exact sj_X4_isKeptPlace_14 g l 1
def dn_X4_keep (v0 : Nat) (v1 : Int32) : zAH → Option (Int32 × zAH) := fun h => (zgO 4 v0 h).bind fun _ => zbd (dn_X4_isKeptPlace v1 h) fun x1 h2 => if x1 = 0 then some ((-1), h2) else (zgA 4 2 v0 h2).bind fun x3 => zbd (dn_X0_hasRoad x3 h2) fun x4 h5 => if x4 = 0 then some ((-4), h5) else (zgA 4 6 v0 h5).bind fun x6 => (zaR 4 x6 v1 h5).bind fun x7 => (zgA 4 4 v0 h5).bind fun x8 => zbd (dn_X1_becomeLike x7 x8 h5) fun x9 h10 => (zgA 4 6 v0 h10).bind fun x11 => (zaR 4 x11 v1 h10).bind fun x12 => (zpF 1 5 x12 (.int 1) h10).bind fun h13 => (zgA 4 4 v0 h13).bind fun x14 => (zgI 1 1 x14 h13).bind fun x15 => some (x15, h13)
theorem ct_X4_keep (g : zG) (l : Launch) (v0 : Nat) (v1 : Int32) : zCt g l yX4_keep cX4_keep 2 (some .int) 1 22 zrI [.ref v0, .int v1] (dn_X4_keep v0 v1) := by
  refine zCt_of (lv := [(0, .ref v0), (1, .int v1)]) (by decide +kernel) (Nat.le_of_ble_eq_true rfl) rfl ?_
  show zSm g l cX4_keep 2 RX4 "keep" (some .int) 1 22 zrI 0 [(0, .ref v0), (1, .int v1)] [] (dn_X4_keep v0 v1)
  unfold dn_X4_keep
  refine z_rec ?_
  refine z_iload_n (j := 1) (q := 1) (by decide +kernel) rfl 1 rfl ?_
  refine z_callSI (As := [.int v1]) (st := []) (q := 4) (ct_X4_isKeptPlace g l v1) zm_RX4_214 rfl (by decide) (by decide) (Nat.le_of_ble_eq_true rfl) rfl (by decide +kernel) rfl fun x1 => ?_
  refine z_if_ne (off := 5) (t := 9) (q := 7) (by decide +kernel) (by decide) rfl ?_ ?_
  · refine z_aload_n (j := 0) (q := 10) (by decide +kernel) rfl 0 rfl ?_
    refine z_getA (q := 13) zf_RX4_21 (by decide +kernel) rfl fun x3 => ?_
    refine z_callVI (As := []) (st := []) (q := 16) (ct_X0_hasRoad g l x3) zm_RX4_191 (rc_X0_hasRoad x3) rfl (by decide) (by decide) (Nat.le_of_ble_eq_true rfl) rfl (by decide +kernel) rfl fun x4 => ?_
    refine z_if_ne (off := 6) (t := 22) (q := 19) (by decide +kernel) (by decide) rfl ?_ ?_
    · refine z_aload_n (j := 0) (q := 23) (by decide +kernel) rfl 0 rfl ?_
      refine z_getA (q := 26) zf_RX4_38 (by decide +kernel) rfl fun x6 => ?_
      refine z_iload_n (j := 1) (q := 27) (by decide +kernel) rfl 1 rfl ?_
      refine z_aald (q := 28) (by decide) (by decide +kernel) rfl fun x7 => ?_
      refine z_aload_n (j := 0) (q := 29) (by decide +kernel) rfl 0 rfl ?_
      refine z_getA (q := 32) zf_RX4_31 (by decide +kernel) rfl fun x8 => ?_
      refine z_callVU (As := [.ref x8]) (st := []) (q := 35) (ct_X1_becomeLike g l x7 x8) zm_RX4_217 (rc_X1_becomeLike x7 x8) rfl (by decide) (by decide) (Nat.le_of_ble_eq_true rfl) rfl (by decide +kernel) rfl fun x9 => ?_
      refine z_aload_n (j := 0) (q := 36) (by decide +kernel) rfl 0 rfl ?_
      refine z_getA (q := 39) zf_RX4_38 (by decide +kernel) rfl fun x11 => ?_
      refine z_iload_n (j := 1) (q := 40) (by decide +kernel) rfl 1 rfl ?_
      refine z_aald (q := 41) (by decide) (by decide +kernel) rfl fun x12 => ?_
      refine z_iconst (n := 1) (v := 1) (q := 42) (by decide +kernel) rfl (by decide) ?_
      refine z_putV (q := 45) zp_RX4_143 (fun z => by cases z) rfl rfl (by decide +kernel) rfl ?_
      refine z_aload_n (j := 0) (q := 46) (by decide +kernel) rfl 0 rfl ?_
      refine z_getA (q := 49) zf_RX4_31 (by decide +kernel) rfl fun x14 => ?_
      refine z_getI (q := 52) zf_RX4_201 (by decide +kernel) rfl fun x15 => ?_
      exact z_iret (by decide +kernel)
    · refine z_bipush (n := (-4)) (v := (-4)) (q := 21) (by decide +kernel) rfl (by decide) ?_
      exact z_iret (by decide +kernel)
  · refine z_iconst (n := (-1)) (v := (-1)) (q := 8) (by decide +kernel) rfl (by decide) ?_
    exact z_iret (by decide +kernel)
theorem rc_X4_keep (v0 : Nat) (v1 : Int32) : ∀ h x, dn_X4_keep v0 v1 h = some x → ∃ fs, zgO 4 v0 h = some fs := fun h x hd => by
  obtain ⟨fs, e, -⟩ := Option.bind_eq_some_iff.mp hd
  exact ⟨fs, e⟩
def dn_X4_on (v0 : Nat) (v1 : Int32) : zAH → Option (Int32 × zAH) := fun h => (zgO 4 v0 h).bind fun _ => zbd (dn_X4_isKeptPlace v1 h) fun x1 h2 => if x1 = 0 then some ((-1), h2) else (zgA 4 6 v0 h2).bind fun x3 => (zaR 4 x3 v1 h2).bind fun x4 => (zgI 1 5 x4 h2).bind fun x5 => if x5 = 0 then zbd (dn_X4_found v0 1 h2) fun x13 h14 => some (x13, h14) else (zgA 4 4 v0 h2).bind fun x6 => (zgA 4 6 v0 h2).bind fun x7 => (zaR 4 x7 v1 h2).bind fun x8 => zbd (dn_X1_becomeLike x6 x8 h2) fun x9 h10 => (zgA 4 4 v0 h10).bind fun x11 => (zgI 1 1 x11 h10).bind fun x12 => some (x12, h10)
theorem ct_X4_on (g : zG) (l : Launch) (v0 : Nat) (v1 : Int32) : zCt g l yX4_on cX4_on 2 (some .int) 1 22 zrI [.ref v0, .int v1] (dn_X4_on v0 v1) := by
  refine zCt_of (lv := [(0, .ref v0), (1, .int v1)]) (by decide +kernel) (Nat.le_of_ble_eq_true rfl) rfl ?_
  show zSm g l cX4_on 2 RX4 "on" (some .int) 1 22 zrI 0 [(0, .ref v0), (1, .int v1)] [] (dn_X4_on v0 v1)
  unfold dn_X4_on
  refine z_rec ?_
  refine z_iload_n (j := 1) (q := 1) (by decide +kernel) rfl 1 rfl ?_
  refine z_callSI (As := [.int v1]) (st := []) (q := 4) (ct_X4_isKeptPlace g l v1) zm_RX4_214 rfl (by decide) (by decide) (Nat.le_of_ble_eq_true rfl) rfl (by decide +kernel) rfl fun x1 => ?_
  refine z_if_ne (off := 5) (t := 9) (q := 7) (by decide +kernel) (by decide) rfl ?_ ?_
  · refine z_aload_n (j := 0) (q := 10) (by decide +kernel) rfl 0 rfl ?_
    refine z_getA (q := 13) zf_RX4_38 (by decide +kernel) rfl fun x3 => ?_
    refine z_iload_n (j := 1) (q := 14) (by decide +kernel) rfl 1 rfl ?_
    refine z_aald (q := 15) (by decide) (by decide +kernel) rfl fun x4 => ?_
    refine z_getI (q := 18) zf_RX4_143 (by decide +kernel) rfl fun x5 => ?_
    refine z_if_ne (off := 9) (t := 27) (q := 21) (by decide +kernel) (by decide) rfl ?_ ?_
    · refine z_aload_n (j := 0) (q := 28) (by decide +kernel) rfl 0 rfl ?_
      refine z_getA (q := 31) zf_RX4_31 (by decide +kernel) rfl fun x6 => ?_
      refine z_aload_n (j := 0) (q := 32) (by decide +kernel) rfl 0 rfl ?_
      refine z_getA (q := 35) zf_RX4_38 (by decide +kernel) rfl fun x7 => ?_
      refine z_iload_n (j := 1) (q := 36) (by decide +kernel) rfl 1 rfl ?_
      refine z_aald (q := 37) (by decide) (by decide +kernel) rfl fun x8 => ?_
      refine z_callVU (As := [.ref x8]) (st := []) (q := 40) (ct_X1_becomeLike g l x6 x8) zm_RX4_217 (rc_X1_becomeLike x6 x8) rfl (by decide) (by decide) (Nat.le_of_ble_eq_true rfl) rfl (by decide +kernel) rfl fun x9 => ?_
      refine z_aload_n (j := 0) (q := 41) (by decide +kernel) rfl 0 rfl ?_
      refine z_getA (q := 44) zf_RX4_31 (by decide +kernel) rfl fun x11 => ?_
      refine z_getI (q := 47) zf_RX4_201 (by decide +kernel) rfl fun x12 => ?_
      exact z_iret (by decide +kernel)
    · refine z_aload_n (j := 0) (q := 22) (by decide +kernel) rfl 0 rfl ?_
      refine z_iconst (n := 1) (v := 1) (q := 23) (by decide +kernel) rfl (by decide) ?_
      refine z_callVI (As := [.int 1]) (st := []) (q := 26) (ct_X4_found g l v0 1) zm_RX4_109 (rc_X4_found v0 1) rfl (by decide) (by decide) (Nat.le_of_ble_eq_true rfl) rfl (by decide +kernel) rfl fun x13 => ?_
      exact z_iret (by decide +kernel)
  · refine z_iconst (n := (-1)) (v := (-1)) (q := 8) (by decide +kernel) rfl (by decide) ?_
    exact z_iret (by decide +kernel)
theorem rc_X4_on (v0 : Nat) (v1 : Int32) : ∀ h x, dn_X4_on v0 v1 h = some x → ∃ fs, zgO 4 v0 h = some fs := fun h x hd => by
  obtain ⟨fs, e, -⟩ := Option.bind_eq_some_iff.mp hd
  exact ⟨fs, e⟩
def dn_X4_finishTrial (v0 : Nat) (v1 : Int32) : zAH → Option (Unit × zAH) := fun h => (zgO 4 v0 h).bind fun _ => (zgA 4 5 v0 h).bind fun x1 => (zgA 4 4 v0 h).bind fun x2 => zbd (dn_X1_becomeLike x1 x2 h) fun x3 h4 => (zgA 4 5 v0 h4).bind fun x5 => (zgA 4 2 v0 h4).bind fun x6 => (zgA 4 13 v0 h4).bind fun x7 => zbd (dn_X1_runOut x5 x6 v1 x7 h4) fun x8 h9 => some ((), h9)
theorem ct_X4_finishTrial (g : zG) (l : Launch) (v0 : Nat) (v1 : Int32) : zCt g l yX4_finishTrial cX4_finishTrial 2 none 5 128 zrV [.ref v0, .int v1] (dn_X4_finishTrial v0 v1) := by
  refine zCt_of (lv := [(0, .ref v0), (1, .int v1)]) (by decide +kernel) (Nat.le_of_ble_eq_true rfl) rfl ?_
  show zSm g l cX4_finishTrial 2 RX4 "finishTrial" none 5 128 zrV 0 [(0, .ref v0), (1, .int v1)] [] (dn_X4_finishTrial v0 v1)
  unfold dn_X4_finishTrial
  refine z_rec ?_
  refine z_aload_n (j := 0) (q := 1) (by decide +kernel) rfl 0 rfl ?_
  refine z_getA (q := 4) zf_RX4_35 (by decide +kernel) rfl fun x1 => ?_
  refine z_aload_n (j := 0) (q := 5) (by decide +kernel) rfl 0 rfl ?_
  refine z_getA (q := 8) zf_RX4_31 (by decide +kernel) rfl fun x2 => ?_
  refine z_callVU (As := [.ref x2]) (st := []) (q := 11) (ct_X1_becomeLike g l x1 x2) zm_RX4_217 (rc_X1_becomeLike x1 x2) rfl (by decide) (by decide) (Nat.le_of_ble_eq_true rfl) rfl (by decide +kernel) rfl fun x3 => ?_
  refine z_aload_n (j := 0) (q := 12) (by decide +kernel) rfl 0 rfl ?_
  refine z_getA (q := 15) zf_RX4_35 (by decide +kernel) rfl fun x5 => ?_
  refine z_aload_n (j := 0) (q := 16) (by decide +kernel) rfl 0 rfl ?_
  refine z_getA (q := 19) zf_RX4_21 (by decide +kernel) rfl fun x6 => ?_
  refine z_iload_n (j := 1) (q := 20) (by decide +kernel) rfl 1 rfl ?_
  refine z_aload_n (j := 0) (q := 21) (by decide +kernel) rfl 0 rfl ?_
  refine z_getA (q := 24) zf_RX4_63 (by decide +kernel) rfl fun x7 => ?_
  refine z_callVU (As := [.ref x6, .int v1, .ref x7]) (st := []) (q := 27) (ct_X1_runOut g l x5 x6 v1 x7) zm_RX4_319 (rc_X1_runOut x5 x6 v1 x7) rfl (by decide) (by decide) (Nat.le_of_ble_eq_true rfl) rfl (by decide +kernel) rfl fun x8 => ?_
  exact z_vret (by decide +kernel)
theorem rc_X4_finishTrial (v0 : Nat) (v1 : Int32) : ∀ h x, dn_X4_finishTrial v0 v1 h = some x → ∃ fs, zgO 4 v0 h = some fs := fun h x hd => by
  obtain ⟨fs, e, -⟩ := Option.bind_eq_some_iff.mp hd
  exact ⟨fs, e⟩
def dn_X4_pays (v0 : Nat) : zAH → Option (Int32 × zAH) := fun h => (zgO 4 v0 h).bind fun _ => (zgA 4 2 v0 h).bind fun x1 => (zgI 0 2 x1 h).bind fun x2 => if x2 = 0 then some ((-4), h) else (zgI 4 7 v0 h).bind fun x3 => zbd (dn_X4_finishTrial v0 x3 h) fun x4 h5 => (zgA 4 5 v0 h5).bind fun x6 => (zgI 1 1 x6 h5).bind fun x7 => (zpF 4 8 v0 (.int x7) h5).bind fun h8 => (zgA 4 5 v0 h8).bind fun x9 => (zgI 1 3 x9 h8).bind fun x10 => some (x10, h8)
theorem ct_X4_pays (g : zG) (l : Launch) (v0 : Nat) : zCt g l yX4_pays cX4_pays 1 (some .int) 6 149 zrI [.ref v0] (dn_X4_pays v0) := by
  refine zCt_of (lv := [(0, .ref v0)]) (by decide +kernel) (Nat.le_of_ble_eq_true rfl) rfl ?_
  show zSm g l cX4_pays 1 RX4 "pays" (some .int) 6 149 zrI 0 [(0, .ref v0)] [] (dn_X4_pays v0)
  unfold dn_X4_pays
  refine z_rec ?_
  refine z_aload_n (j := 0) (q := 1) (by decide +kernel) rfl 0 rfl ?_
  refine z_getA (q := 4) zf_RX4_21 (by decide +kernel) rfl fun x1 => ?_
  refine z_getI (q := 7) zf_RX4_157 (by decide +kernel) rfl fun x2 => ?_
  refine z_if_ne (off := 6) (t := 13) (q := 10) (by decide +kernel) (by decide) rfl ?_ ?_
  · refine z_aload_n (j := 0) (q := 14) (by decide +kernel) rfl 0 rfl ?_
    refine z_aload_n (j := 0) (q := 15) (by decide +kernel) rfl 0 rfl ?_
    refine z_getI (q := 18) zf_RX4_42 (by decide +kernel) rfl fun x3 => ?_
    refine z_callVU (As := [.int x3]) (st := []) (q := 21) (ct_X4_finishTrial g l v0 x3) zm_RX4_221 (rc_X4_finishTrial v0 x3) rfl (by decide) (by decide) (Nat.le_of_ble_eq_true rfl) rfl (by decide +kernel) rfl fun x4 => ?_
    refine z_aload_n (j := 0) (q := 22) (by decide +kernel) rfl 0 rfl ?_
    refine z_aload_n (j := 0) (q := 23) (by decide +kernel) rfl 0 rfl ?_
    refine z_getA (q := 26) zf_RX4_35 (by decide +kernel) rfl fun x6 => ?_
    refine z_getI (q := 29) zf_RX4_201 (by decide +kernel) rfl fun x7 => ?_
    refine z_putV (q := 32) zp_RX4_46 (fun z => by cases z) rfl rfl (by decide +kernel) rfl ?_
    refine z_aload_n (j := 0) (q := 33) (by decide +kernel) rfl 0 rfl ?_
    refine z_getA (q := 36) zf_RX4_35 (by decide +kernel) rfl fun x9 => ?_
    refine z_getI (q := 39) zf_RX4_208 (by decide +kernel) rfl fun x10 => ?_
    exact z_iret (by decide +kernel)
  · refine z_bipush (n := (-4)) (v := (-4)) (q := 12) (by decide +kernel) rfl (by decide) ?_
    exact z_iret (by decide +kernel)
theorem rc_X4_pays (v0 : Nat) : ∀ h x, dn_X4_pays v0 h = some x → ∃ fs, zgO 4 v0 h = some fs := fun h x hd => by
  obtain ⟨fs, e, -⟩ := Option.bind_eq_some_iff.mp hd
  exact ⟨fs, e⟩
def jn_X4_ranks_93 (kc51 : (Int32 × Int32) → zAH → Option (Int32 × zAH)) (v0 : Nat) (v1 : Int32) (v2 : Int32) (v3 : Int32) : zAH → Option (Int32 × zAH) := fun h => kc51 (v2, v3 + 1) h
theorem sj_X4_ranks_93 (g : zG) (l : Launch) (kc51 : (Int32 × Int32) → zAH → Option (Int32 × zAH)) (v0 : Nat) (v1 : Int32) (v2 : Int32) (v3 : Int32) (hkc51 : ∀ s, zSm g l cX4_ranks 5 RX4 "ranks" (some .int) 6 149 zrI 51 [(0, .ref v0), (1, .int v1), (2, .int s.1), (3, .int s.2)] [] (kc51 s)) : zSm g l cX4_ranks 5 RX4 "ranks" (some .int) 6 149 zrI 93 [(0, .ref v0), (1, .int v1), (2, .int v2), (3, .int v3)] [] (jn_X4_ranks_93 kc51 v0 v1 v2 v3) := by
  unfold jn_X4_ranks_93
  refine z_iinc (j := 3) (n := 1) (v := 1) (q := 96) (by decide +kernel) rfl 3 rfl (by decide) (by decide) rfl ?_
  refine z_goto (off := (-45)) (t := 51) (by decide +kernel) (by decide) ?_
  refine zsub [1, 2, 3, 0] rfl ?_
  exact hkc51 (v2, v3 + 1)
def jn_X4_ranks_99 (v2 : Int32) : zAH → Option (Int32 × zAH) := fun h => some (v2, h)
theorem sj_X4_ranks_99 (g : zG) (l : Launch) (v2 : Int32) : zSm g l cX4_ranks 5 RX4 "ranks" (some .int) 6 149 zrI 99 [(2, .int v2)] [] (jn_X4_ranks_99 v2) := by
  unfold jn_X4_ranks_99
  refine z_iload_n (j := 2) (q := 100) (by decide +kernel) rfl 0 rfl ?_
  exact z_iret (by decide +kernel)
def lb_X4_ranks_51 (v0 : Nat) (v1 : Int32) (rec : (Int32 × Int32) → zAH → Option (Int32 × zAH)) (s : Int32 × Int32) : zAH → Option (Int32 × zAH) := fun h => (zgA 4 2 v0 h).bind fun x1 => (zgI 0 2 x1 h).bind fun x2 => if s.2 < x2 then (zgA 4 5 v0 h).bind fun x3 => zbd (dn_X1_rankOf x3 s.2 h) fun x4 h5 => (zgA 4 0 v0 h5).bind fun x6 => (zaR 3 x6 v1 h5).bind fun x7 => (zgA 3 0 x7 h5).bind fun x8 => (zaS 0 x8 s.2 x4 h5).bind fun h9 => if x4 = 1 then jn_X4_ranks_93 rec v0 v1 s.2 s.2 h9 else jn_X4_ranks_93 rec v0 v1 s.1 s.2 h9 else jn_X4_ranks_99 s.1 h
def lp_X4_ranks_51 (v0 : Nat) (v1 : Int32) (s : Int32 × Int32) : zAH → Option (Int32 × zAH) := zlp (lb_X4_ranks_51 v0 v1) 2000 s
theorem sl_X4_ranks_51 (g : zG) (l : Launch) (v0 : Nat) (v1 : Int32) (s : Int32 × Int32) : zSm g l cX4_ranks 5 RX4 "ranks" (some .int) 6 149 zrI 51 [(0, .ref v0), (1, .int v1), (2, .int s.1), (3, .int s.2)] [] (lp_X4_ranks_51 v0 v1 s) := by
  unfold lp_X4_ranks_51
  refine z_loop (lvf := fun s => [(0, .ref v0), (1, .int v1), (2, .int s.1), (3, .int s.2)]) (fun rec hrec s => ?_) 2000 s
  unfold lb_X4_ranks_51
  refine z_iload_n (j := 3) (q := 52) (by decide +kernel) rfl 3 rfl ?_
  refine z_aload_n (j := 0) (q := 53) (by decide +kernel) rfl 0 rfl ?_
  refine z_getA (q := 56) zf_RX4_21 (by decide +kernel) rfl fun x1 => ?_
  refine z_getI (q := 59) zf_RX4_157 (by decide +kernel) rfl fun x2 => ?_
  refine z_icmp_ge (off := 40) (t := 99) (q := 62) (by decide +kernel) (by decide) rfl ?_ ?_
  · refine zsub [2] rfl ?_
    exact sj_X4_ranks_99 g l s.1
  · refine z_aload_n (j := 0) (q := 63) (by decide +kernel) rfl 0 rfl ?_
    refine z_getA (q := 66) zf_RX4_35 (by decide +kernel) rfl fun x3 => ?_
    refine z_iload_n (j := 3) (q := 67) (by decide +kernel) rfl 3 rfl ?_
    refine z_callVI (As := [.int s.2]) (st := []) (q := 70) (ct_X1_rankOf g l x3 s.2) zm_RX4_228 (rc_X1_rankOf x3 s.2) rfl (by decide) (by decide) (Nat.le_of_ble_eq_true rfl) rfl (by decide +kernel) rfl fun x4 => ?_
    refine z_istore (j := 4) (q := 72) (by decide +kernel) rfl (by decide) rfl ?_
    refine z_aload_n (j := 0) (q := 73) (by decide +kernel) rfl 1 rfl ?_
    refine z_getA (q := 76) zf_RX4_11 (by decide +kernel) rfl fun x6 => ?_
    refine z_iload_n (j := 1) (q := 77) (by decide +kernel) rfl 2 rfl ?_
    refine z_aald (q := 78) (by decide) (by decide +kernel) rfl fun x7 => ?_
    refine z_getA (q := 81) zf_RX4_95 (by decide +kernel) rfl fun x8 => ?_
    refine z_iload_n (j := 3) (q := 82) (by decide +kernel) rfl 4 rfl ?_
    refine z_iload (j := 4) (q := 84) (by decide +kernel) rfl 0 rfl ?_
    refine z_iast (q := 85) (Or.inl ⟨rfl, rfl, rfl⟩) (by decide +kernel) rfl ?_
    refine z_iload (j := 4) (q := 87) (by decide +kernel) rfl 0 rfl ?_
    refine z_iconst (n := 1) (v := 1) (q := 88) (by decide +kernel) rfl (by decide) ?_
    refine z_icmp_ne (off := 5) (t := 93) (q := 91) (by decide +kernel) (by decide) rfl ?_ ?_
    · refine zsub [1, 2, 3, 4] rfl ?_
      exact sj_X4_ranks_93 g l rec v0 v1 s.1 s.2 hrec
    · refine z_iload_n (j := 3) (q := 92) (by decide +kernel) rfl 4 rfl ?_
      refine z_istore_n (j := 2) (q := 93) (by decide +kernel) rfl (by decide) rfl ?_
      refine zsub [2, 3, 0, 4] rfl ?_
      exact sj_X4_ranks_93 g l rec v0 v1 s.2 s.2 hrec
def dn_X4_ranks (v0 : Nat) (v1 : Int32) : zAH → Option (Int32 × zAH) := fun h => (zgO 4 v0 h).bind fun _ => zbd (dn_X4_isRow v1 h) fun x1 h2 => if x1 = 0 then some ((-1), h2) else (zgA 4 2 v0 h2).bind fun x3 => (zgI 0 2 x3 h2).bind fun x4 => if x4 = 0 then some ((-4), h2) else (zgI 4 7 v0 h2).bind fun x5 => zbd (dn_X4_finishTrial v0 x5 h2) fun x6 h7 => (zgA 4 0 v0 h7).bind fun x8 => (zaR 3 x8 v1 h7).bind fun x9 => (zgA 4 2 v0 h7).bind fun x10 => (zgI 0 2 x10 h7).bind fun x11 => zbd (dn_X3_renew x9 x11 0 h7) fun x12 h13 => lp_X4_ranks_51 v0 v1 (0, 0) h13
theorem ct_X4_ranks (g : zG) (l : Launch) (v0 : Nat) (v1 : Int32) : zCt g l yX4_ranks cX4_ranks 5 (some .int) 6 149 zrI [.ref v0, .int v1] (dn_X4_ranks v0 v1) := by
  refine zCt_of (lv := [(0, .ref v0), (1, .int v1)]) (by decide +kernel) (Nat.le_of_ble_eq_true rfl) rfl ?_
  show zSm g l cX4_ranks 5 RX4 "ranks" (some .int) 6 149 zrI 0 [(0, .ref v0), (1, .int v1)] [] (dn_X4_ranks v0 v1)
  unfold dn_X4_ranks
  refine z_rec ?_
  refine z_iload_n (j := 1) (q := 1) (by decide +kernel) rfl 1 rfl ?_
  refine z_callSI (As := [.int v1]) (st := []) (q := 4) (ct_X4_isRow g l v1) zm_RX4_105 rfl (by decide) (by decide) (Nat.le_of_ble_eq_true rfl) rfl (by decide +kernel) rfl fun x1 => ?_
  refine z_if_ne (off := 5) (t := 9) (q := 7) (by decide +kernel) (by decide) rfl ?_ ?_
  · refine z_aload_n (j := 0) (q := 10) (by decide +kernel) rfl 0 rfl ?_
    refine z_getA (q := 13) zf_RX4_21 (by decide +kernel) rfl fun x3 => ?_
    refine z_getI (q := 16) zf_RX4_157 (by decide +kernel) rfl fun x4 => ?_
    refine z_if_ne (off := 6) (t := 22) (q := 19) (by decide +kernel) (by decide) rfl ?_ ?_
    · refine z_aload_n (j := 0) (q := 23) (by decide +kernel) rfl 0 rfl ?_
      refine z_aload_n (j := 0) (q := 24) (by decide +kernel) rfl 0 rfl ?_
      refine z_getI (q := 27) zf_RX4_42 (by decide +kernel) rfl fun x5 => ?_
      refine z_callVU (As := [.int x5]) (st := []) (q := 30) (ct_X4_finishTrial g l v0 x5) zm_RX4_221 (rc_X4_finishTrial v0 x5) rfl (by decide) (by decide) (Nat.le_of_ble_eq_true rfl) rfl (by decide +kernel) rfl fun x6 => ?_
      refine z_aload_n (j := 0) (q := 31) (by decide +kernel) rfl 0 rfl ?_
      refine z_getA (q := 34) zf_RX4_11 (by decide +kernel) rfl fun x8 => ?_
      refine z_iload_n (j := 1) (q := 35) (by decide +kernel) rfl 1 rfl ?_
      refine z_aald (q := 36) (by decide) (by decide +kernel) rfl fun x9 => ?_
      refine z_aload_n (j := 0) (q := 37) (by decide +kernel) rfl 0 rfl ?_
      refine z_getA (q := 40) zf_RX4_21 (by decide +kernel) rfl fun x10 => ?_
      refine z_getI (q := 43) zf_RX4_157 (by decide +kernel) rfl fun x11 => ?_
      refine z_iconst (n := 0) (v := 0) (q := 44) (by decide +kernel) rfl (by decide) ?_
      refine z_callVU (As := [.int x11, .int 0]) (st := []) (q := 47) (ct_X3_renew g l x9 x11 0) zm_RX4_224 (rc_X3_renew x9 x11 0) rfl (by decide) (by decide) (Nat.le_of_ble_eq_true rfl) rfl (by decide +kernel) rfl fun x12 => ?_
      refine z_iconst (n := 0) (v := 0) (q := 48) (by decide +kernel) rfl (by decide) ?_
      refine z_istore_n (j := 2) (q := 49) (by decide +kernel) rfl (by decide) rfl ?_
      refine z_iconst (n := 0) (v := 0) (q := 50) (by decide +kernel) rfl (by decide) ?_
      refine z_istore_n (j := 3) (q := 51) (by decide +kernel) rfl (by decide) rfl ?_
      refine zsub [2, 3, 1, 0] rfl ?_
      exact sl_X4_ranks_51 g l v0 v1 (0, 0)
    · refine z_bipush (n := (-4)) (v := (-4)) (q := 21) (by decide +kernel) rfl (by decide) ?_
      exact z_iret (by decide +kernel)
  · refine z_iconst (n := (-1)) (v := (-1)) (q := 8) (by decide +kernel) rfl (by decide) ?_
    exact z_iret (by decide +kernel)
theorem rc_X4_ranks (v0 : Nat) (v1 : Int32) : ∀ h x, dn_X4_ranks v0 v1 h = some x → ∃ fs, zgO 4 v0 h = some fs := fun h x hd => by
  obtain ⟨fs, e, -⟩ := Option.bind_eq_some_iff.mp hd
  exact ⟨fs, e⟩
