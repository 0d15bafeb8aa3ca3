def jn_X4_keptCount_24 (kc4 : (Int32 × Int32) → zAH → Option (Int32 × zAH)) (v0 : Nat) (v1 : Int32) (v2 : Int32) : zAH → Option (Int32 × zAH) := fun h => kc4 (v1, v2 + 1) h
theorem sj_X4_keptCount_24 (g : zG) (l : Launch) (kc4 : (Int32 × Int32) → zAH → Option (Int32 × zAH)) (v0 : Nat) (v1 : Int32) (v2 : Int32) (hkc4 : ∀ s, zSm g l cX4_keptCount 3 RX4 "keptCount" (some .int) 0 0 zrI 4 [(0, .ref v0), (1, .int s.1), (2, .int s.2)] [] (kc4 s)) : zSm g l cX4_keptCount 3 RX4 "keptCount" (some .int) 0 0 zrI 24 [(0, .ref v0), (1, .int v1), (2, .int v2)] [] (jn_X4_keptCount_24 kc4 v0 v1 v2) := by
  unfold jn_X4_keptCount_24
  refine z_iinc (j := 2) (n := 1) (v := 1) (q := 27) (by decide +kernel) rfl 2 rfl (by decide) (by decide) rfl ?_
  refine z_goto (off := (-23)) (t := 4) (by decide +kernel) (by decide) ?_
  refine zsub [1, 2, 0] rfl ?_
  exact hkc4 (v1, v2 + 1)
def jn_X4_keptCount_30 (v1 : Int32) : zAH → Option (Int32 × zAH) := fun h => some (v1, h)
theorem sj_X4_keptCount_30 (g : zG) (l : Launch) (v1 : Int32) : zSm g l cX4_keptCount 3 RX4 "keptCount" (some .int) 0 0 zrI 30 [(1, .int v1)] [] (jn_X4_keptCount_30 v1) := by
  unfold jn_X4_keptCount_30
  refine z_iload_n (j := 1) (q := 31) (by decide +kernel) rfl 0 rfl ?_
  exact z_iret (by decide +kernel)
def lb_X4_keptCount_4 (v0 : Nat) (rec : (Int32 × Int32) → zAH → Option (Int32 × zAH)) (s : Int32 × Int32) : zAH → Option (Int32 × zAH) := fun h => if s.2 < 3 then (zgA 4 6 v0 h).bind fun x1 => (zaR 4 x1 s.2 h).bind fun x2 => (zgI 1 5 x2 h).bind fun x3 => if x3 = 0 then jn_X4_keptCount_24 rec v0 s.1 s.2 h else jn_X4_keptCount_24 rec v0 (s.1 + 1) s.2 h else jn_X4_keptCount_30 s.1 h
def lp_X4_keptCount_4 (v0 : Nat) (s : Int32 × Int32) : zAH → Option (Int32 × zAH) := zlp (lb_X4_keptCount_4 v0) 2000 s
theorem sl_X4_keptCount_4 (g : zG) (l : Launch) (v0 : Nat) (s : Int32 × Int32) : zSm g l cX4_keptCount 3 RX4 "keptCount" (some .int) 0 0 zrI 4 [(0, .ref v0), (1, .int s.1), (2, .int s.2)] [] (lp_X4_keptCount_4 v0 s) := by
  unfold lp_X4_keptCount_4
  refine z_loop (lvf := fun s => [(0, .ref v0), (1, .int s.1), (2, .int s.2)]) (fun rec hrec s => ?_) 2000 s
  unfold lb_X4_keptCount_4
  refine z_iload_n (j := 2) (q := 5) (by decide +kernel) rfl 2 rfl ?_
  refine z_iconst (n := 3) (v := 3) (q := 6) (by decide +kernel) rfl (by decide) ?_
  refine z_icmp_ge (off := 24) (t := 30) (q := 9) (by decide +kernel) (by decide) rfl ?_ ?_
  · refine zsub [1] rfl ?_
    exact sj_X4_keptCount_30 g l s.1
  · refine z_aload_n (j := 0) (q := 10) (by decide +kernel) rfl 0 rfl ?_
    refine z_getA (q := 13) zf_RX4_38 (by decide +kernel) rfl fun x1 => ?_
    refine z_iload_n (j := 2) (q := 14) (by decide +kernel) rfl 2 rfl ?_
    refine z_aald (q := 15) (by decide) (by decide +kernel) rfl fun x2 => ?_
    refine z_getI (q := 18) zf_RX4_143 (by decide +kernel) rfl fun x3 => ?_
    refine z_if_eq (off := 6) (t := 24) (q := 21) (by decide +kernel) (by decide) rfl ?_ ?_
    · refine zsub [0, 1, 2] rfl ?_
      exact sj_X4_keptCount_24 g l rec v0 s.1 s.2 hrec
    · refine z_iinc (j := 1) (n := 1) (v := 1) (q := 24) (by decide +kernel) rfl 1 rfl (by decide) (by decide) rfl ?_
      refine zsub [1, 0, 2] rfl ?_
      exact sj_X4_keptCount_24 g l rec v0 (s.1 + 1) s.2 hrec
def dn_X4_keptCount (v0 : Nat) : zAH → Option (Int32 × zAH) := fun h => (zgO 4 v0 h).bind fun _ => lp_X4_keptCount_4 v0 (0, 0) h
theorem ct_X4_keptCount (g : zG) (l : Launch) (v0 : Nat) : zCt g l yX4_keptCount cX4_keptCount 3 (some .int) 0 0 zrI [.ref v0] (dn_X4_keptCount v0) := by
  refine zCt_of (lv := [(0, .ref v0)]) (by decide +kernel) (Nat.le_of_ble_eq_true rfl) rfl ?_
  show zSm g l cX4_keptCount 3 RX4 "keptCount" (some .int) 0 0 zrI 0 [(0, .ref v0)] [] (dn_X4_keptCount v0)
  unfold dn_X4_keptCount
  refine z_rec ?_
  refine z_iconst (n := 0) (v := 0) (q := 1) (by decide +kernel) rfl (by decide) ?_
  refine z_istore_n (j := 1) (q := 2) (by decide +kernel) rfl (by decide) rfl ?_
  refine z_iconst (n := 0) (v := 0) (q := 3) (by decide +kernel) rfl (by decide) ?_
  refine z_istore_n (j := 2) (q := 4) (by decide +kernel) rfl (by decide) rfl ?_
  refine zsub [2, 1, 0] rfl ?_
  exact sl_X4_keptCount_4 g l v0 (0, 0)
theorem rc_X4_keptCount (v0 : Nat) : ∀ h x, dn_X4_keptCount v0 h = some x → ∃ fs, zgO 4 v0 h = some fs := fun h x hd => by
  obtain ⟨fs, e, -⟩ := Option.bind_eq_some_iff.mp hd
  exact ⟨fs, e⟩
def jn_X4_thereAmong_22 (kc4 : (Int32 × Int32) → zAH → Option (Int32 × zAH)) (v0 : Nat) (v1 : Int32) (v2 : Int32) : zAH → Option (Int32 × zAH) := fun h => kc4 (v1, v2 + 1) h
theorem sj_X4_thereAmong_22 (g : zG) (l : Launch) (kc4 : (Int32 × Int32) → zAH → Option (Int32 × zAH)) (v0 : Nat) (v1 : Int32) (v2 : Int32) (hkc4 : ∀ s, zSm g l cX4_thereAmong 3 RX4 "thereAmong" (some .int) 1 20 zrI 4 [(0, .ref v0), (1, .int s.1), (2, .int s.2)] [] (kc4 s)) : zSm g l cX4_thereAmong 3 RX4 "thereAmong" (some .int) 1 20 zrI 22 [(0, .ref v0), (1, .int v1), (2, .int v2)] [] (jn_X4_thereAmong_22 kc4 v0 v1 v2) := by
  unfold jn_X4_thereAmong_22
  refine z_iinc (j := 2) (n := 1) (v := 1) (q := 25) (by decide +kernel) rfl 2 rfl (by decide) (by decide) rfl ?_
  refine z_goto (off := (-21)) (t := 4) (by decide +kernel) (by decide) ?_
  refine zsub [1, 2, 0] rfl ?_
  exact hkc4 (v1, v2 + 1)
def jn_X4_thereAmong_28 (v1 : Int32) : zAH → Option (Int32 × zAH) := fun h => some (v1, h)
theorem sj_X4_thereAmong_28 (g : zG) (l : Launch) (v1 : Int32) : zSm g l cX4_thereAmong 3 RX4 "thereAmong" (some .int) 1 20 zrI 28 [(1, .int v1)] [] (jn_X4_thereAmong_28 v1) := by
  unfold jn_X4_thereAmong_28
  refine z_iload_n (j := 1) (q := 29) (by decide +kernel) rfl 0 rfl ?_
  exact z_iret (by decide +kernel)
def lb_X4_thereAmong_4 (v0 : Nat) (rec : (Int32 × Int32) → zAH → Option (Int32 × zAH)) (s : Int32 × Int32) : zAH → Option (Int32 × zAH) := fun h => (zaN v0 h).bind fun x1 => if s.2 < x1 then (zaR 3 v0 s.2 h).bind fun x2 => zbd (dn_X3_isMissing x2 h) fun x3 h4 => if x3 = 0 then jn_X4_thereAmong_22 rec v0 (s.1 + 1) s.2 h4 else jn_X4_thereAmong_22 rec v0 s.1 s.2 h4 else jn_X4_thereAmong_28 s.1 h
def lp_X4_thereAmong_4 (v0 : Nat) (s : Int32 × Int32) : zAH → Option (Int32 × zAH) := zlp (lb_X4_thereAmong_4 v0) 2000 s
theorem sl_X4_thereAmong_4 (g : zG) (l : Launch) (v0 : Nat) (s : Int32 × Int32) : zSm g l cX4_thereAmong 3 RX4 "thereAmong" (some .int) 1 20 zrI 4 [(0, .ref v0), (1, .int s.1), (2, .int s.2)] [] (lp_X4_thereAmong_4 v0 s) := by
  unfold lp_X4_thereAmong_4
  refine z_loop (lvf := fun s => [(0, .ref v0), (1, .int s.1), (2, .int s.2)]) (fun rec hrec s => ?_) 2000 s
  unfold lb_X4_thereAmong_4
  refine z_iload_n (j := 2) (q := 5) (by decide +kernel) rfl 2 rfl ?_
  refine z_aload_n (j := 0) (q := 6) (by decide +kernel) rfl 0 rfl ?_
  refine z_alen (q := 7) (by decide +kernel) rfl fun x1 => ?_
  refine z_icmp_ge (off := 21) (t := 28) (q := 10) (by decide +kernel) (by decide) rfl ?_ ?_
  · refine zsub [1] rfl ?_
    exact sj_X4_thereAmong_28 g l s.1
  · refine z_aload_n (j := 0) (q := 11) (by decide +kernel) rfl 0 rfl ?_
    refine z_iload_n (j := 2) (q := 12) (by decide +kernel) rfl 2 rfl ?_
    refine z_aald (q := 13) (by decide) (by decide +kernel) rfl fun x2 => ?_
    refine z_callVI (As := []) (st := []) (q := 16) (ct_X3_isMissing g l x2) zm_RX4_113 (rc_X3_isMissing x2) rfl (by decide) (by decide) (Nat.le_of_ble_eq_true rfl) rfl (by decide +kernel) rfl fun x3 => ?_
    refine z_if_ne (off := 6) (t := 22) (q := 19) (by decide +kernel) (by decide) rfl ?_ ?_
    · refine zsub [0, 1, 2] rfl ?_
      exact sj_X4_thereAmong_22 g l rec v0 s.1 s.2 hrec
    · refine z_iinc (j := 1) (n := 1) (v := 1) (q := 22) (by decide +kernel) rfl 1 rfl (by decide) (by decide) rfl ?_
      refine zsub [1, 0, 2] rfl ?_
      exact sj_X4_thereAmong_22 g l rec v0 (s.1 + 1) s.2 hrec
def dn_X4_thereAmong (v0 : Nat) : zAH → Option (Int32 × zAH) := fun h => lp_X4_thereAmong_4 v0 (0, 0) h
theorem ct_X4_thereAmong (g : zG) (l : Launch) (v0 : Nat) : zCt g l yX4_thereAmong cX4_thereAmong 3 (some .int) 1 20 zrI [.ref v0] (dn_X4_thereAmong v0) := by
  refine zCt_of (lv := [(0, .ref v0)]) (by decide +kernel) (Nat.le_of_ble_eq_true rfl) rfl ?_
  show zSm g l cX4_thereAmong 3 RX4 "thereAmong" (some .int) 1 20 zrI 0 [(0, .ref v0)] [] (dn_X4_thereAmong v0)
  unfold dn_X4_thereAmong
  refine z_iconst (n := 0) (v := 0) (q := 1) (by decide +kernel) rfl (by decide) ?_
  refine z_istore_n (j := 1) (q := 2) (by decide +kernel) rfl (by decide) rfl ?_
  refine z_iconst (n := 0) (v := 0) (q := 3) (by decide +kernel) rfl (by decide) ?_
  refine z_istore_n (j := 2) (q := 4) (by decide +kernel) rfl (by decide) rfl ?_
  refine zsub [2, 1, 0] rfl ?_
  exact sl_X4_thereAmong_4 g l v0 (0, 0)
def dn_X4_count (v0 : Nat) (v1 : Int32) : zAH → Option (Int32 × zAH) := fun h => (zgO 4 v0 h).bind fun _ => if v1 = 0 then (zgA 4 2 v0 h).bind fun x1 => (zgI 0 0 x1 h).bind fun x2 => some (x2, h) else if v1 = 1 then (zgA 4 2 v0 h).bind fun x4 => (zgI 0 2 x4 h).bind fun x5 => some (x5, h) else if v1 = 2 then (zgA 4 4 v0 h).bind fun x7 => (zgI 1 1 x7 h).bind fun x8 => some (x8, h) else if v1 = 3 then (zgA 4 4 v0 h).bind fun x10 => (zgI 1 2 x10 h).bind fun x11 => some (x11, h) else if v1 = 4 then (zgA 4 2 v0 h).bind fun x13 => zbd (dn_X0_goats x13 h) fun x14 h15 => some (x14, h15) else if v1 = 5 then zbd (dn_X4_keptCount v0 h) fun x17 h18 => some (x17, h18) else if v1 = 6 then (zgA 4 0 v0 h).bind fun x20 => zbd (dn_X4_thereAmong x20 h) fun x21 h22 => some (x21, h22) else if v1 = 7 then (zgA 4 1 v0 h).bind fun x24 => zbd (dn_X4_thereAmong x24 h) fun x25 h26 => some (x25, h26) else some ((-1), h)
theorem ct_X4_count (g : zG) (l : Launch) (v0 : Nat) (v1 : Int32) : zCt g l yX4_count cX4_count 2 (some .int) 2 43 zrI [.ref v0, .int v1] (dn_X4_count v0 v1) := by
  refine zCt_of (lv := [(0, .ref v0), (1, .int v1)]) (by decide +kernel) (Nat.le_of_ble_eq_true rfl) rfl ?_
  show zSm g l cX4_count 2 RX4 "count" (some .int) 2 43 zrI 0 [(0, .ref v0), (1, .int v1)] [] (dn_X4_count v0 v1)
  unfold dn_X4_count
  refine z_rec ?_
  refine z_iload_n (j := 1) (q := 1) (by decide +kernel) rfl 1 rfl ?_
  refine z_case (fun c3 => ?_) (fun c3 => ?_)
  · refine z_tabIn (v := 0) (off := 47) (t := 48) c3 (by decide +kernel : decode cX4_count 1 = .ok (.tableswitch 108 0 7 #[47, 55, 63, 71, 79, 87, 92, 100], 47)) (by decide) (by decide) (by decide) (by decide) ?_
    refine z_aload_n (j := 0) (q := 49) (by decide +kernel) rfl 0 rfl ?_
    refine z_getA (q := 52) zf_RX4_21 (by decide +kernel) rfl fun x1 => ?_
    refine z_getI (q := 55) zf_RX4_160 (by decide +kernel) rfl fun x2 => ?_
    exact z_iret (by decide +kernel)
  · skip
    refine z_case (fun c6 => ?_) (fun c6 => ?_)
    · refine z_tabIn (v := 1) (off := 55) (t := 56) c6 (by decide +kernel : decode cX4_count 1 = .ok (.tableswitch 108 0 7 #[47, 55, 63, 71, 79, 87, 92, 100], 47)) (by decide) (by decide) (by decide) (by decide) ?_
      refine z_aload_n (j := 0) (q := 57) (by decide +kernel) rfl 0 rfl ?_
      refine z_getA (q := 60) zf_RX4_21 (by decide +kernel) rfl fun x4 => ?_
      refine z_getI (q := 63) zf_RX4_157 (by decide +kernel) rfl fun x5 => ?_
      exact z_iret (by decide +kernel)
    · skip
      refine z_case (fun c9 => ?_) (fun c9 => ?_)
      · refine z_tabIn (v := 2) (off := 63) (t := 64) c9 (by decide +kernel : decode cX4_count 1 = .ok (.tableswitch 108 0 7 #[47, 55, 63, 71, 79, 87, 92, 100], 47)) (by decide) (by decide) (by decide) (by decide) ?_
        refine z_aload_n (j := 0) (q := 65) (by decide +kernel) rfl 0 rfl ?_
        refine z_getA (q := 68) zf_RX4_31 (by decide +kernel) rfl fun x7 => ?_
        refine z_getI (q := 71) zf_RX4_201 (by decide +kernel) rfl fun x8 => ?_
        exact z_iret (by decide +kernel)
      · skip
        refine z_case (fun c12 => ?_) (fun c12 => ?_)
        · refine z_tabIn (v := 3) (off := 71) (t := 72) c12 (by decide +kernel : decode cX4_count 1 = .ok (.tableswitch 108 0 7 #[47, 55, 63, 71, 79, 87, 92, 100], 47)) (by decide) (by decide) (by decide) (by decide) ?_
          refine z_aload_n (j := 0) (q := 73) (by decide +kernel) rfl 0 rfl ?_
          refine z_getA (q := 76) zf_RX4_31 (by decide +kernel) rfl fun x10 => ?_
          refine z_getI (q := 79) zf_RX4_288 (by decide +kernel) rfl fun x11 => ?_
          exact z_iret (by decide +kernel)
        · skip
          refine z_case (fun c16 => ?_) (fun c16 => ?_)
          · refine z_tabIn (v := 4) (off := 79) (t := 80) c16 (by decide +kernel : decode cX4_count 1 = .ok (.tableswitch 108 0 7 #[47, 55, 63, 71, 79, 87, 92, 100], 47)) (by decide) (by decide) (by decide) (by decide) ?_
            refine z_aload_n (j := 0) (q := 81) (by decide +kernel) rfl 0 rfl ?_
            refine z_getA (q := 84) zf_RX4_21 (by decide +kernel) rfl fun x13 => ?_
            refine z_callVI (As := []) (st := []) (q := 87) (ct_X0_goats g l x13) zm_RX4_291 (rc_X0_goats x13) rfl (by decide) (by decide) (Nat.le_of_ble_eq_true rfl) rfl (by decide +kernel) rfl fun x14 => ?_
            exact z_iret (by decide +kernel)
          · skip
            refine z_case (fun c19 => ?_) (fun c19 => ?_)
            · refine z_tabIn (v := 5) (off := 87) (t := 88) c19 (by decide +kernel : decode cX4_count 1 = .ok (.tableswitch 108 0 7 #[47, 55, 63, 71, 79, 87, 92, 100], 47)) (by decide) (by decide) (by decide) (by decide) ?_
              refine z_aload_n (j := 0) (q := 89) (by decide +kernel) rfl 0 rfl ?_
              refine z_callVI (As := []) (st := []) (q := 92) (ct_X4_keptCount g l v0) zm_RX4_294 (rc_X4_keptCount v0) rfl (by decide) (by decide) (Nat.le_of_ble_eq_true rfl) rfl (by decide +kernel) rfl fun x17 => ?_
              exact z_iret (by decide +kernel)
            · skip
              refine z_case (fun c23 => ?_) (fun c23 => ?_)
              · refine z_tabIn (v := 6) (off := 92) (t := 93) c23 (by decide +kernel : decode cX4_count 1 = .ok (.tableswitch 108 0 7 #[47, 55, 63, 71, 79, 87, 92, 100], 47)) (by decide) (by decide) (by decide) (by decide) ?_
                refine z_aload_n (j := 0) (q := 94) (by decide +kernel) rfl 0 rfl ?_
                refine z_getA (q := 97) zf_RX4_11 (by decide +kernel) rfl fun x20 => ?_
                refine z_callSI (As := [.ref x20]) (st := []) (q := 100) (ct_X4_thereAmong g l x20) zm_RX4_297 rfl (by decide) (by decide) (Nat.le_of_ble_eq_true rfl) rfl (by decide +kernel) rfl fun x21 => ?_
                exact z_iret (by decide +kernel)
              · skip
                refine z_case (fun c27 => ?_) (fun c27 => ?_)
                · refine z_tabIn (v := 7) (off := 100) (t := 101) c27 (by decide +kernel : decode cX4_count 1 = .ok (.tableswitch 108 0 7 #[47, 55, 63, 71, 79, 87, 92, 100], 47)) (by decide) (by decide) (by decide) (by decide) ?_
                  refine z_aload_n (j := 0) (q := 102) (by decide +kernel) rfl 0 rfl ?_
                  refine z_getA (q := 105) zf_RX4_15 (by decide +kernel) rfl fun x24 => ?_
                  refine z_callSI (As := [.ref x24]) (st := []) (q := 108) (ct_X4_thereAmong g l x24) zm_RX4_297 rfl (by decide) (by decide) (Nat.le_of_ble_eq_true rfl) rfl (by decide +kernel) rfl fun x25 => ?_
                  exact z_iret (by decide +kernel)
                · skip
                  have nc3 := lv_neT (a := 0) c3 (by decide)
                  have nc6 := lv_neT (a := 1) c6 (by decide)
                  have nc9 := lv_neT (a := 2) c9 (by decide)
                  have nc12 := lv_neT (a := 3) c12 (by decide)
                  have nc16 := lv_neT (a := 4) c16 (by decide)
                  have nc19 := lv_neT (a := 5) c19 (by decide)
                  have nc23 := lv_neT (a := 6) c23 (by decide)
                  have nc27 := lv_neT (a := 7) c27 (by decide)
                  refine z_tabOut (t := 109) (by decide +kernel : decode cX4_count 1 = .ok (.tableswitch 108 0 7 #[47, 55, 63, 71, 79, 87, 92, 100], 47)) (Or.inl (by omega)) (by decide) ?_
                  refine z_iconst (n := (-1)) (v := (-1)) (q := 110) (by decide +kernel) rfl (by decide) ?_
                  exact z_iret (by decide +kernel)
theorem rc_X4_count (v0 : Nat) (v1 : Int32) : ∀ h x, dn_X4_count v0 v1 h = some x → ∃ fs, zgO 4 v0 h = some fs := fun h x hd => by
  obtain ⟨fs, e, -⟩ := Option.bind_eq_some_iff.mp hd
  exact ⟨fs, e⟩
def dn_X4_finding (v0 : Nat) : zAH → Option (Int32 × zAH) := fun h => (zgO 4 v0 h).bind fun _ => (zgI 4 11 v0 h).bind fun x1 => some (x1, h)
theorem ct_X4_finding (g : zG) (l : Launch) (v0 : Nat) : zCt g l yX4_finding cX4_finding 1 (some .int) 0 0 zrI [.ref v0] (dn_X4_finding v0) := by
  refine zCt_of (lv := [(0, .ref v0)]) (by decide +kernel) (Nat.le_of_ble_eq_true rfl) rfl ?_
  show zSm g l cX4_finding 1 RX4 "finding" (some .int) 0 0 zrI 0 [(0, .ref v0)] [] (dn_X4_finding v0)
  unfold dn_X4_finding
  refine z_rec ?_
  refine z_aload_n (j := 0) (q := 1) (by decide +kernel) rfl 0 rfl ?_
  refine z_getI (q := 4) zf_RX4_56 (by decide +kernel) rfl fun x1 => ?_
  exact z_iret (by decide +kernel)
theorem rc_X4_finding (v0 : Nat) : ∀ h x, dn_X4_finding v0 h = some x → ∃ fs, zgO 4 v0 h = some fs := fun h x hd => by
  obtain ⟨fs, e, -⟩ := Option.bind_eq_some_iff.mp hd
  exact ⟨fs, e⟩
def jn_X4_findings_10 : zAH → Option (Int32 × zAH) := fun h => some ((-1), h)
theorem sj_X4_findings_10 (g : zG) (l : Launch) : zSm g l cX4_findings 2 RX4 "findings" (some .int) 0 0 zrI 10 [] [] (jn_X4_findings_10) := by
  unfold jn_X4_findings_10
  refine z_iconst (n := (-1)) (v := (-1)) (q := 11) (by decide +kernel) rfl (by decide) ?_
  exact z_iret (by decide +kernel)
def dn_X4_findings (v0 : Nat) (v1 : Int32) : zAH → Option (Int32 × zAH) := fun h => (zgO 4 v0 h).bind fun _ => if v1 < 1 then jn_X4_findings_10 h else if 5 < v1 then jn_X4_findings_10 h else (zgA 4 12 v0 h).bind fun x1 => (zaI 0 x1 v1 h).bind fun x2 => some (x2, h)
theorem ct_X4_findings (g : zG) (l : Launch) (v0 : Nat) (v1 : Int32) : zCt g l yX4_findings cX4_findings 2 (some .int) 0 0 zrI [.ref v0, .int v1] (dn_X4_findings v0 v1) := by
  refine zCt_of (lv := [(0, .ref v0), (1, .int v1)]) (by decide +kernel) (Nat.le_of_ble_eq_true rfl) rfl ?_
  show zSm g l cX4_findings 2 RX4 "findings" (some .int) 0 0 zrI 0 [(0, .ref v0), (1, .int v1)] [] (dn_X4_findings v0 v1)
  unfold dn_X4_findings
  refine z_rec ?_
  refine z_iload_n (j := 1) (q := 1) (by decide +kernel) rfl 1 rfl ?_
  refine z_iconst (n := 1) (v := 1) (q := 2) (by decide +kernel) rfl (by decide) ?_
  refine z_icmp_lt (off := 8) (t := 10) (q := 5) (by decide +kernel) (by decide) rfl ?_ ?_
  · refine zsub [] rfl ?_
    exact sj_X4_findings_10 g l 
  · refine z_iload_n (j := 1) (q := 6) (by decide +kernel) rfl 1 rfl ?_
    refine z_iconst (n := 5) (v := 5) (q := 7) (by decide +kernel) rfl (by decide) ?_
    refine z_icmp_le (off := 5) (t := 12) (q := 10) (by decide +kernel) (by decide) rfl ?_ ?_
    · refine z_aload_n (j := 0) (q := 13) (by decide +kernel) rfl 0 rfl ?_
      refine z_getA (q := 16) zf_RX4_59 (by decide +kernel) rfl fun x1 => ?_
      refine z_iload_n (j := 1) (q := 17) (by decide +kernel) rfl 1 rfl ?_
      refine z_iald (q := 18) (Or.inl ⟨rfl, rfl⟩) (by decide +kernel) rfl fun x2 => ?_
      exact z_iret (by decide +kernel)
    · refine zsub [] rfl ?_
      exact sj_X4_findings_10 g l 
theorem rc_X4_findings (v0 : Nat) (v1 : Int32) : ∀ h x, dn_X4_findings v0 v1 h = some x → ∃ fs, zgO 4 v0 h = some fs := fun h x hd => by
  obtain ⟨fs, e, -⟩ := Option.bind_eq_some_iff.mp hd
  exact ⟨fs, e⟩
def jn_X4_digestRunner_116 (v0 : Nat) (v3 : Int32) (v4 : Int64) : zAH → Option (Int64 × zAH) := fun h => (zgA 4 4 v0 h).bind fun x1 => (zgA 1 11 x1 h).bind fun x2 => (zaI 0 x2 v3 h).bind fun x3 => some ((31 * v4) + (Int32.toInt64 x3), h)
theorem sj_X4_digestRunner_116 (g : zG) (l : Launch) (v0 : Nat) (v3 : Int32) (v4 : Int64) : zSm g l cX4_digestRunner 7 RX4 "digestRunner" (some .long) 4 88 zrL 116 [(0, .ref v0), (3, .int v3), (4, .long v4)] [] (jn_X4_digestRunner_116 v0 v3 v4) := by
  unfold jn_X4_digestRunner_116
  refine z_ldc2 (i := 303) (v := 31) (q := 119) (by decide +kernel) rfl zw747 ?_
  refine z_lload (j := 4) (q := 121) (by decide +kernel) rfl 2 rfl ?_
  refine z_lmul (q := 122) (by decide +kernel) rfl ?_
  refine z_aload_n (j := 0) (q := 123) (by decide +kernel) rfl 0 rfl ?_
  refine z_getA (q := 126) zf_RX4_31 (by decide +kernel) rfl fun x1 => ?_
  refine z_getA (q := 129) zf_RX4_211 (by decide +kernel) rfl fun x2 => ?_
  refine z_iload_n (j := 3) (q := 130) (by decide +kernel) rfl 1 rfl ?_
  refine z_iald (q := 131) (Or.inl ⟨rfl, rfl⟩) (by decide +kernel) rfl fun x3 => ?_
  refine z_i2l (q := 132) (by decide +kernel) rfl ?_
  refine z_ladd (q := 133) (by decide +kernel) rfl ?_
  exact z_lret (by decide +kernel)
def lb_X4_digestRunner_84 (v0 : Nat) (v3 : Int32) (rec : (Int64 × Int32) → zAH → Option (Int64 × zAH)) (s : Int64 × Int32) : zAH → Option (Int64 × zAH) := fun h => if 4 < s.2 then jn_X4_digestRunner_116 v0 v3 s.1 h else (zgA 4 4 v0 h).bind fun x1 => zbd (dn_X1_detail x1 v3 s.2 h) fun x2 h3 => rec ((31 * s.1) + (Int32.toInt64 x2), s.2 + 1) h3
def lp_X4_digestRunner_84 (v0 : Nat) (v3 : Int32) (s : Int64 × Int32) : zAH → Option (Int64 × zAH) := zlp (lb_X4_digestRunner_84 v0 v3) 2000 s
theorem sl_X4_digestRunner_84 (g : zG) (l : Launch) (v0 : Nat) (v3 : Int32) (s : Int64 × Int32) : zSm g l cX4_digestRunner 7 RX4 "digestRunner" (some .long) 4 88 zrL 84 [(0, .ref v0), (3, .int v3), (4, .long s.1), (6, .int s.2)] [] (lp_X4_digestRunner_84 v0 v3 s) := by
  unfold lp_X4_digestRunner_84
  refine z_loop (lvf := fun s => [(0, .ref v0), (3, .int v3), (4, .long s.1), (6, .int s.2)]) (fun rec hrec s => ?_) 2000 s
  unfold lb_X4_digestRunner_84
  refine z_iload (j := 6) (q := 86) (by decide +kernel) rfl 3 rfl ?_
  refine z_iconst (n := 4) (v := 4) (q := 87) (by decide +kernel) rfl (by decide) ?_
  refine z_icmp_gt (off := 29) (t := 116) (q := 90) (by decide +kernel) (by decide) rfl ?_ ?_
  · refine zsub [0, 1, 2] rfl ?_
    exact sj_X4_digestRunner_116 g l v0 v3 s.1
  · refine z_ldc2 (i := 303) (v := 31) (q := 93) (by decide +kernel) rfl zw747 ?_
    refine z_lload (j := 4) (q := 95) (by decide +kernel) rfl 2 rfl ?_
    refine z_lmul (q := 96) (by decide +kernel) rfl ?_
    refine z_aload_n (j := 0) (q := 97) (by decide +kernel) rfl 0 rfl ?_
    refine z_getA (q := 100) zf_RX4_31 (by decide +kernel) rfl fun x1 => ?_
    refine z_iload_n (j := 3) (q := 101) (by decide +kernel) rfl 1 rfl ?_
    refine z_iload (j := 6) (q := 103) (by decide +kernel) rfl 3 rfl ?_
    refine z_callVI (As := [.int v3, .int s.2]) (st := [.long (31 * s.1)]) (q := 106) (ct_X1_detail g l x1 v3 s.2) zm_RX4_204 (rc_X1_detail x1 v3 s.2) rfl (by decide) (by decide) (Nat.le_of_ble_eq_true rfl) rfl (by decide +kernel) rfl fun x2 => ?_
    refine z_i2l (q := 107) (by decide +kernel) rfl ?_
    refine z_ladd (q := 108) (by decide +kernel) rfl ?_
    refine z_lstore (j := 4) (q := 110) (by decide +kernel) rfl (by decide) rfl ?_
    refine z_iinc (j := 6) (n := 1) (v := 1) (q := 113) (by decide +kernel) rfl 3 rfl (by decide) (by decide) rfl ?_
    refine z_goto (off := (-29)) (t := 84) (by decide +kernel) (by decide) ?_
    refine zsub [2, 3, 1, 0] rfl ?_
    exact hrec ((31 * s.1) + (Int32.toInt64 x2), s.2 + 1)
def jn_X4_digestRunner_81 (v0 : Nat) (v3 : Int32) (v4 : Int64) : zAH → Option (Int64 × zAH) := fun h => lp_X4_digestRunner_84 v0 v3 (v4, 0) h
theorem sj_X4_digestRunner_81 (g : zG) (l : Launch) (v0 : Nat) (v3 : Int32) (v4 : Int64) : zSm g l cX4_digestRunner 7 RX4 "digestRunner" (some .long) 4 88 zrL 81 [(0, .ref v0), (3, .int v3), (4, .long v4)] [] (jn_X4_digestRunner_81 v0 v3 v4) := by
  unfold jn_X4_digestRunner_81
  refine z_iconst (n := 0) (v := 0) (q := 82) (by decide +kernel) rfl (by decide) ?_
  refine z_istore (j := 6) (q := 84) (by decide +kernel) rfl (by decide) rfl ?_
  refine zsub [1, 2, 3, 0] rfl ?_
  exact sl_X4_digestRunner_84 g l v0 v3 (v4, 0)
def lb_X4_digestRunner_41 (v0 : Nat) (v3 : Int32) (rec : (Int64 × Int32) → zAH → Option (Int64 × zAH)) (s : Int64 × Int32) : zAH → Option (Int64 × zAH) := fun h => (zgA 4 2 v0 h).bind fun x1 => (zgA 0 6 x1 h).bind fun x2 => (zaI 0 x2 v3 h).bind fun x3 => if s.2 < x3 then (zgA 4 2 v0 h).bind fun x4 => zbd (dn_X0_paceAt x4 v3 s.2 h) fun x5 h6 => rec ((31 * s.1) + (Int32.toInt64 x5), s.2 + 1) h6 else jn_X4_digestRunner_81 v0 v3 s.1 h
def lp_X4_digestRunner_41 (v0 : Nat) (v3 : Int32) (s : Int64 × Int32) : zAH → Option (Int64 × zAH) := zlp (lb_X4_digestRunner_41 v0 v3) 2000 s
theorem sl_X4_digestRunner_41 (g : zG) (l : Launch) (v0 : Nat) (v3 : Int32) (s : Int64 × Int32) : zSm g l cX4_digestRunner 7 RX4 "digestRunner" (some .long) 4 88 zrL 41 [(0, .ref v0), (3, .int v3), (4, .long s.1), (6, .int s.2)] [] (lp_X4_digestRunner_41 v0 v3 s) := by
  unfold lp_X4_digestRunner_41
  refine z_loop (lvf := fun s => [(0, .ref v0), (3, .int v3), (4, .long s.1), (6, .int s.2)]) (fun rec hrec s => ?_) 2000 s
  unfold lb_X4_digestRunner_41
  refine z_iload (j := 6) (q := 43) (by decide +kernel) rfl 3 rfl ?_
  refine z_aload_n (j := 0) (q := 44) (by decide +kernel) rfl 0 rfl ?_
  refine z_getA (q := 47) zf_RX4_21 (by decide +kernel) rfl fun x1 => ?_
  refine z_getA (q := 50) zf_RX4_173 (by decide +kernel) rfl fun x2 => ?_
  refine z_iload_n (j := 3) (q := 51) (by decide +kernel) rfl 1 rfl ?_
  refine z_iald (q := 52) (Or.inl ⟨rfl, rfl⟩) (by decide +kernel) rfl fun x3 => ?_
  refine z_icmp_ge (off := 29) (t := 81) (q := 55) (by decide +kernel) (by decide) rfl ?_ ?_
  · refine zsub [0, 1, 2] rfl ?_
    exact sj_X4_digestRunner_81 g l v0 v3 s.1
  · refine z_ldc2 (i := 303) (v := 31) (q := 58) (by decide +kernel) rfl zw747 ?_
    refine z_lload (j := 4) (q := 60) (by decide +kernel) rfl 2 rfl ?_
    refine z_lmul (q := 61) (by decide +kernel) rfl ?_
    refine z_aload_n (j := 0) (q := 62) (by decide +kernel) rfl 0 rfl ?_
    refine z_getA (q := 65) zf_RX4_21 (by decide +kernel) rfl fun x4 => ?_
    refine z_iload_n (j := 3) (q := 66) (by decide +kernel) rfl 1 rfl ?_
    refine z_iload (j := 6) (q := 68) (by decide +kernel) rfl 3 rfl ?_
    refine z_callVI (As := [.int v3, .int s.2]) (st := [.long (31 * s.1)]) (q := 71) (ct_X0_paceAt g l x4 v3 s.2) zm_RX4_176 (rc_X0_paceAt x4 v3 s.2) rfl (by decide) (by decide) (Nat.le_of_ble_eq_true rfl) rfl (by decide +kernel) rfl fun x5 => ?_
    refine z_i2l (q := 72) (by decide +kernel) rfl ?_
    refine z_ladd (q := 73) (by decide +kernel) rfl ?_
    refine z_lstore (j := 4) (q := 75) (by decide +kernel) rfl (by decide) rfl ?_
    refine z_iinc (j := 6) (n := 1) (v := 1) (q := 78) (by decide +kernel) rfl 3 rfl (by decide) (by decide) rfl ?_
    refine z_goto (off := (-37)) (t := 41) (by decide +kernel) (by decide) ?_
    refine zsub [2, 3, 1, 0] rfl ?_
    exact hrec ((31 * s.1) + (Int32.toInt64 x5), s.2 + 1)
def jn_X4_digestRunner_38 (v0 : Nat) (v3 : Int32) (v4 : Int64) : zAH → Option (Int64 × zAH) := fun h => lp_X4_digestRunner_41 v0 v3 (v4, 0) h
theorem sj_X4_digestRunner_38 (g : zG) (l : Launch) (v0 : Nat) (v3 : Int32) (v4 : Int64) : zSm g l cX4_digestRunner 7 RX4 "digestRunner" (some .long) 4 88 zrL 38 [(0, .ref v0), (3, .int v3), (4, .long v4)] [] (jn_X4_digestRunner_38 v0 v3 v4) := by
  unfold jn_X4_digestRunner_38
  refine z_iconst (n := 0) (v := 0) (q := 39) (by decide +kernel) rfl (by decide) ?_
  refine z_istore (j := 6) (q := 41) (by decide +kernel) rfl (by decide) rfl ?_
  refine zsub [1, 2, 3, 0] rfl ?_
  exact sl_X4_digestRunner_41 g l v0 v3 (v4, 0)
def lb_X4_digestRunner_6 (v0 : Nat) (v3 : Int32) (rec : (Int64 × Int32) → zAH → Option (Int64 × zAH)) (s : Int64 × Int32) : zAH → Option (Int64 × zAH) := fun h => if 3 < s.2 then jn_X4_digestRunner_38 v0 v3 s.1 h else (zgA 4 2 v0 h).bind fun x1 => zbd (dn_X0_detail x1 v3 s.2 h) fun x2 h3 => rec ((31 * s.1) + (Int32.toInt64 x2), s.2 + 1) h3
def lp_X4_digestRunner_6 (v0 : Nat) (v3 : Int32) (s : Int64 × Int32) : zAH → Option (Int64 × zAH) := zlp (lb_X4_digestRunner_6 v0 v3) 2000 s
theorem sl_X4_digestRunner_6 (g : zG) (l : Launch) (v0 : Nat) (v3 : Int32) (s : Int64 × Int32) : zSm g l cX4_digestRunner 7 RX4 "digestRunner" (some .long) 4 88 zrL 6 [(0, .ref v0), (3, .int v3), (4, .long s.1), (6, .int s.2)] [] (lp_X4_digestRunner_6 v0 v3 s) := by
  unfold lp_X4_digestRunner_6
  refine z_loop (lvf := fun s => [(0, .ref v0), (3, .int v3), (4, .long s.1), (6, .int s.2)]) (fun rec hrec s => ?_) 2000 s
  unfold lb_X4_digestRunner_6
  refine z_iload (j := 6) (q := 8) (by decide +kernel) rfl 3 rfl ?_
  refine z_iconst (n := 3) (v := 3) (q := 9) (by decide +kernel) rfl (by decide) ?_
  refine z_icmp_gt (off := 29) (t := 38) (q := 12) (by decide +kernel) (by decide) rfl ?_ ?_
  · refine zsub [0, 1, 2] rfl ?_
    exact sj_X4_digestRunner_38 g l v0 v3 s.1
  · refine z_ldc2 (i := 303) (v := 31) (q := 15) (by decide +kernel) rfl zw747 ?_
    refine z_lload (j := 4) (q := 17) (by decide +kernel) rfl 2 rfl ?_
    refine z_lmul (q := 18) (by decide +kernel) rfl ?_
    refine z_aload_n (j := 0) (q := 19) (by decide +kernel) rfl 0 rfl ?_
    refine z_getA (q := 22) zf_RX4_21 (by decide +kernel) rfl fun x1 => ?_
    refine z_iload_n (j := 3) (q := 23) (by decide +kernel) rfl 1 rfl ?_
    refine z_iload (j := 6) (q := 25) (by decide +kernel) rfl 3 rfl ?_
    refine z_callVI (As := [.int v3, .int s.2]) (st := [.long (31 * s.1)]) (q := 28) (ct_X0_detail g l x1 v3 s.2) zm_RX4_169 (rc_X0_detail x1 v3 s.2) rfl (by decide) (by decide) (Nat.le_of_ble_eq_true rfl) rfl (by decide +kernel) rfl fun x2 => ?_
    refine z_i2l (q := 29) (by decide +kernel) rfl ?_
    refine z_ladd (q := 30) (by decide +kernel) rfl ?_
    refine z_lstore (j := 4) (q := 32) (by decide +kernel) rfl (by decide) rfl ?_
    refine z_iinc (j := 6) (n := 1) (v := 1) (q := 35) (by decide +kernel) rfl 3 rfl (by decide) (by decide) rfl ?_
    refine z_goto (off := (-29)) (t := 6) (by decide +kernel) (by decide) ?_
    refine zsub [2, 3, 1, 0] rfl ?_
    exact hrec ((31 * s.1) + (Int32.toInt64 x2), s.2 + 1)
def dn_X4_digestRunner (v0 : Nat) (v1 : Int64) (v3 : Int32) : zAH → Option (Int64 × zAH) := fun h => (zgO 4 v0 h).bind fun _ => lp_X4_digestRunner_6 v0 v3 (v1, 0) h
theorem ct_X4_digestRunner (g : zG) (l : Launch) (v0 : Nat) (v1 : Int64) (v3 : Int32) : zCt g l yX4_digestRunner cX4_digestRunner 7 (some .long) 4 88 zrL [.ref v0, .long v1, .int v3] (dn_X4_digestRunner v0 v1 v3) := by
  refine zCt_of (lv := [(0, .ref v0), (1, .long v1), (3, .int v3)]) (by decide +kernel) (Nat.le_of_ble_eq_true rfl) rfl ?_
  show zSm g l cX4_digestRunner 7 RX4 "digestRunner" (some .long) 4 88 zrL 0 [(0, .ref v0), (1, .long v1), (3, .int v3)] [] (dn_X4_digestRunner v0 v1 v3)
  unfold dn_X4_digestRunner
  refine z_rec ?_
  refine z_lload_n (j := 1) (q := 1) (by decide +kernel) rfl 1 rfl ?_
  refine z_lstore (j := 4) (q := 3) (by decide +kernel) rfl (by decide) rfl ?_
  refine z_iconst (n := 0) (v := 0) (q := 4) (by decide +kernel) rfl (by decide) ?_
  refine z_istore (j := 6) (q := 6) (by decide +kernel) rfl (by decide) rfl ?_
  refine zsub [2, 4, 1, 0] rfl ?_
  exact sl_X4_digestRunner_6 g l v0 v3 (v1, 0)
theorem rc_X4_digestRunner (v0 : Nat) (v1 : Int64) (v3 : Int32) : ∀ h x, dn_X4_digestRunner v0 v1 v3 h = some x → ∃ fs, zgO 4 v0 h = some fs := fun h x hd => by
  obtain ⟨fs, e, -⟩ := Option.bind_eq_some_iff.mp hd
  exact ⟨fs, e⟩
def jn_X4_digest_186 (kc151 : (Int64 × Int32) → zAH → Option (Int64 × zAH)) (v0 : Nat) (v3 : Int32) (w0 : Int64) (w1 : Int32) : zAH → Option (Int64 × zAH) := fun h => kc151 (w0 + (Int32.toInt64 w1), v3 + 1) h
theorem sj_X4_digest_186 (g : zG) (l : Launch) (kc151 : (Int64 × Int32) → zAH → Option (Int64 × zAH)) (v0 : Nat) (v3 : Int32) (w0 : Int64) (w1 : Int32) (hkc151 : ∀ s, zSm g l cX4_digest 4 RX4 "digest" (some .long) 5 114 zrL 151 [(0, .ref v0), (1, .long s.1), (3, .int s.2)] [] (kc151 s)) : zSm g l cX4_digest 4 RX4 "digest" (some .long) 5 114 zrL 186 [(0, .ref v0), (3, .int v3)] [.int w1, .long w0] (jn_X4_digest_186 kc151 v0 v3 w0 w1) := by
  unfold jn_X4_digest_186
  refine z_i2l (q := 187) (by decide +kernel) rfl ?_
  refine z_ladd (q := 188) (by decide +kernel) rfl ?_
  refine z_lstore_n (j := 1) (q := 189) (by decide +kernel) rfl (by decide) rfl ?_
  refine z_iinc (j := 3) (n := 1) (v := 1) (q := 192) (by decide +kernel) rfl 2 rfl (by decide) (by decide) rfl ?_
  refine z_goto (off := (-41)) (t := 151) (by decide +kernel) (by decide) ?_
  refine zsub [2, 1, 0] rfl ?_
  exact hkc151 (w0 + (Int32.toInt64 w1), v3 + 1)
def jn_X4_digest_244 (v1 : Int64) : zAH → Option (Int64 × zAH) := fun h => some (v1, h)
theorem sj_X4_digest_244 (g : zG) (l : Launch) (v1 : Int64) : zSm g l cX4_digest 4 RX4 "digest" (some .long) 5 114 zrL 244 [(1, .long v1)] [] (jn_X4_digest_244 v1) := by
  unfold jn_X4_digest_244
  refine z_lload_n (j := 1) (q := 245) (by decide +kernel) rfl 0 rfl ?_
  exact z_lret (by decide +kernel)
def lb_X4_digest_222 (v0 : Nat) (rec : (Int64 × Int32) → zAH → Option (Int64 × zAH)) (s : Int64 × Int32) : zAH → Option (Int64 × zAH) := fun h => if s.2 < 4 then (zgA 4 1 v0 h).bind fun x1 => (zaR 3 x1 s.2 h).bind fun x2 => zbd (dn_X3_digestInto x2 s.1 h) fun x3 h4 => rec (x3, s.2 + 1) h4 else jn_X4_digest_244 s.1 h
def lp_X4_digest_222 (v0 : Nat) (s : Int64 × Int32) : zAH → Option (Int64 × zAH) := zlp (lb_X4_digest_222 v0) 2000 s
theorem sl_X4_digest_222 (g : zG) (l : Launch) (v0 : Nat) (s : Int64 × Int32) : zSm g l cX4_digest 4 RX4 "digest" (some .long) 5 114 zrL 222 [(0, .ref v0), (1, .long s.1), (3, .int s.2)] [] (lp_X4_digest_222 v0 s) := by
  unfold lp_X4_digest_222
  refine z_loop (lvf := fun s => [(0, .ref v0), (1, .long s.1), (3, .int s.2)]) (fun rec hrec s => ?_) 2000 s
  unfold lb_X4_digest_222
  refine z_iload_n (j := 3) (q := 223) (by decide +kernel) rfl 2 rfl ?_
  refine z_iconst (n := 4) (v := 4) (q := 224) (by decide +kernel) rfl (by decide) ?_
  refine z_icmp_ge (off := 20) (t := 244) (q := 227) (by decide +kernel) (by decide) rfl ?_ ?_
  · refine zsub [1] rfl ?_
    exact sj_X4_digest_244 g l s.1
  · refine z_aload_n (j := 0) (q := 228) (by decide +kernel) rfl 0 rfl ?_
    refine z_getA (q := 231) zf_RX4_15 (by decide +kernel) rfl fun x1 => ?_
    refine z_iload_n (j := 3) (q := 232) (by decide +kernel) rfl 2 rfl ?_
    refine z_aald (q := 233) (by decide) (by decide +kernel) rfl fun x2 => ?_
    refine z_lload_n (j := 1) (q := 234) (by decide +kernel) rfl 1 rfl ?_
    refine z_callVL (As := [.long s.1]) (st := []) (q := 237) (ct_X3_digestInto g l x2 s.1) zm_RX4_312 (rc_X3_digestInto x2 s.1) rfl (by decide) (by decide) (Nat.le_of_ble_eq_true rfl) rfl (by decide +kernel) rfl fun x3 => ?_
    refine z_lstore_n (j := 1) (q := 238) (by decide +kernel) rfl (by decide) rfl ?_
    refine z_iinc (j := 3) (n := 1) (v := 1) (q := 241) (by decide +kernel) rfl 2 rfl (by decide) (by decide) rfl ?_
    refine z_goto (off := (-19)) (t := 222) (by decide +kernel) (by decide) ?_
    refine zsub [2, 1, 0] rfl ?_
    exact hrec (x3, s.2 + 1)
def jn_X4_digest_220 (v0 : Nat) (v1 : Int64) : zAH → Option (Int64 × zAH) := fun h => lp_X4_digest_222 v0 (v1, 0) h
theorem sj_X4_digest_220 (g : zG) (l : Launch) (v0 : Nat) (v1 : Int64) : zSm g l cX4_digest 4 RX4 "digest" (some .long) 5 114 zrL 220 [(0, .ref v0), (1, .long v1)] [] (jn_X4_digest_220 v0 v1) := by
  unfold jn_X4_digest_220
  refine z_iconst (n := 0) (v := 0) (q := 221) (by decide +kernel) rfl (by decide) ?_
  refine z_istore_n (j := 3) (q := 222) (by decide +kernel) rfl (by decide) rfl ?_
  refine zsub [1, 2, 0] rfl ?_
  exact sl_X4_digest_222 g l v0 (v1, 0)
def lb_X4_digest_197 (v0 : Nat) (rec : (Int64 × Int32) → zAH → Option (Int64 × zAH)) (s : Int64 × Int32) : zAH → Option (Int64 × zAH) := fun h => if s.2 < 6 then (zgA 4 0 v0 h).bind fun x1 => (zaR 3 x1 s.2 h).bind fun x2 => zbd (dn_X3_digestInto x2 s.1 h) fun x3 h4 => rec (x3, s.2 + 1) h4 else jn_X4_digest_220 v0 s.1 h
def lp_X4_digest_197 (v0 : Nat) (s : Int64 × Int32) : zAH → Option (Int64 × zAH) := zlp (lb_X4_digest_197 v0) 2000 s
theorem sl_X4_digest_197 (g : zG) (l : Launch) (v0 : Nat) (s : Int64 × Int32) : zSm g l cX4_digest 4 RX4 "digest" (some .long) 5 114 zrL 197 [(0, .ref v0), (1, .long s.1), (3, .int s.2)] [] (lp_X4_digest_197 v0 s) := by
  unfold lp_X4_digest_197
  refine z_loop (lvf := fun s => [(0, .ref v0), (1, .long s.1), (3, .int s.2)]) (fun rec hrec s => ?_) 2000 s
  unfold lb_X4_digest_197
  refine z_iload_n (j := 3) (q := 198) (by decide +kernel) rfl 2 rfl ?_
  refine z_bipush (n := 6) (v := 6) (q := 200) (by decide +kernel) rfl (by decide) ?_
  refine z_icmp_ge (off := 20) (t := 220) (q := 203) (by decide +kernel) (by decide) rfl ?_ ?_
  · refine zsub [0, 1] rfl ?_
    exact sj_X4_digest_220 g l v0 s.1
  · refine z_aload_n (j := 0) (q := 204) (by decide +kernel) rfl 0 rfl ?_
    refine z_getA (q := 207) zf_RX4_11 (by decide +kernel) rfl fun x1 => ?_
    refine z_iload_n (j := 3) (q := 208) (by decide +kernel) rfl 2 rfl ?_
    refine z_aald (q := 209) (by decide) (by decide +kernel) rfl fun x2 => ?_
    refine z_lload_n (j := 1) (q := 210) (by decide +kernel) rfl 1 rfl ?_
    refine z_callVL (As := [.long s.1]) (st := []) (q := 213) (ct_X3_digestInto g l x2 s.1) zm_RX4_312 (rc_X3_digestInto x2 s.1) rfl (by decide) (by decide) (Nat.le_of_ble_eq_true rfl) rfl (by decide +kernel) rfl fun x3 => ?_
    refine z_lstore_n (j := 1) (q := 214) (by decide +kernel) rfl (by decide) rfl ?_
    refine z_iinc (j := 3) (n := 1) (v := 1) (q := 217) (by decide +kernel) rfl 2 rfl (by decide) (by decide) rfl ?_
    refine z_goto (off := (-20)) (t := 197) (by decide +kernel) (by decide) ?_
    refine zsub [2, 1, 0] rfl ?_
    exact hrec (x3, s.2 + 1)
def jn_X4_digest_195 (v0 : Nat) (v1 : Int64) : zAH → Option (Int64 × zAH) := fun h => lp_X4_digest_197 v0 (v1, 0) h
theorem sj_X4_digest_195 (g : zG) (l : Launch) (v0 : Nat) (v1 : Int64) : zSm g l cX4_digest 4 RX4 "digest" (some .long) 5 114 zrL 195 [(0, .ref v0), (1, .long v1)] [] (jn_X4_digest_195 v0 v1) := by
  unfold jn_X4_digest_195
  refine z_iconst (n := 0) (v := 0) (q := 196) (by decide +kernel) rfl (by decide) ?_
  refine z_istore_n (j := 3) (q := 197) (by decide +kernel) rfl (by decide) rfl ?_
  refine zsub [1, 2, 0] rfl ?_
  exact sl_X4_digest_197 g l v0 (v1, 0)
def lb_X4_digest_151 (v0 : Nat) (rec : (Int64 × Int32) → zAH → Option (Int64 × zAH)) (s : Int64 × Int32) : zAH → Option (Int64 × zAH) := fun h => if s.2 < 3 then (zgA 4 6 v0 h).bind fun x1 => (zaR 4 x1 s.2 h).bind fun x2 => (zgI 1 5 x2 h).bind fun x3 => if x3 = 0 then jn_X4_digest_186 rec v0 s.2 (31 * s.1) ((-1)) h else (zgA 4 6 v0 h).bind fun x4 => (zaR 4 x4 s.2 h).bind fun x5 => (zgI 1 1 x5 h).bind fun x6 => jn_X4_digest_186 rec v0 s.2 (31 * s.1) x6 h else jn_X4_digest_195 v0 s.1 h
def lp_X4_digest_151 (v0 : Nat) (s : Int64 × Int32) : zAH → Option (Int64 × zAH) := zlp (lb_X4_digest_151 v0) 2000 s
theorem sl_X4_digest_151 (g : zG) (l : Launch) (v0 : Nat) (s : Int64 × Int32) : zSm g l cX4_digest 4 RX4 "digest" (some .long) 5 114 zrL 151 [(0, .ref v0), (1, .long s.1), (3, .int s.2)] [] (lp_X4_digest_151 v0 s) := by
  unfold lp_X4_digest_151
  refine z_loop (lvf := fun s => [(0, .ref v0), (1, .long s.1), (3, .int s.2)]) (fun rec hrec s => ?_) 2000 s
  unfold lb_X4_digest_151
  refine z_iload_n (j := 3) (q := 152) (by decide +kernel) rfl 2 rfl ?_
  refine z_iconst (n := 3) (v := 3) (q := 153) (by decide +kernel) rfl (by decide) ?_
  refine z_icmp_ge (off := 42) (t := 195) (q := 156) (by decide +kernel) (by decide) rfl ?_ ?_
  · refine zsub [0, 1] rfl ?_
    exact sj_X4_digest_195 g l v0 s.1
  · refine z_ldc2 (i := 303) (v := 31) (q := 159) (by decide +kernel) rfl zw747 ?_
    refine z_lload_n (j := 1) (q := 160) (by decide +kernel) rfl 1 rfl ?_
    refine z_lmul (q := 161) (by decide +kernel) rfl ?_
    refine z_aload_n (j := 0) (q := 162) (by decide +kernel) rfl 0 rfl ?_
    refine z_getA (q := 165) zf_RX4_38 (by decide +kernel) rfl fun x1 => ?_
    refine z_iload_n (j := 3) (q := 166) (by decide +kernel) rfl 2 rfl ?_
    refine z_aald (q := 167) (by decide) (by decide +kernel) rfl fun x2 => ?_
    refine z_getI (q := 170) zf_RX4_143 (by decide +kernel) rfl fun x3 => ?_
    refine z_if_eq (off := 15) (t := 185) (q := 173) (by decide +kernel) (by decide) rfl ?_ ?_
    · refine z_iconst (n := (-1)) (v := (-1)) (q := 186) (by decide +kernel) rfl (by decide) ?_
      refine zsub [0, 2] rfl ?_
      exact sj_X4_digest_186 g l rec v0 s.2 (31 * s.1) ((-1)) hrec
    · refine z_aload_n (j := 0) (q := 174) (by decide +kernel) rfl 0 rfl ?_
      refine z_getA (q := 177) zf_RX4_38 (by decide +kernel) rfl fun x4 => ?_
      refine z_iload_n (j := 3) (q := 178) (by decide +kernel) rfl 2 rfl ?_
      refine z_aald (q := 179) (by decide) (by decide +kernel) rfl fun x5 => ?_
      refine z_getI (q := 182) zf_RX4_201 (by decide +kernel) rfl fun x6 => ?_
      refine z_goto (off := 4) (t := 186) (by decide +kernel) (by decide) ?_
      refine zsub [0, 2] rfl ?_
      exact sj_X4_digest_186 g l rec v0 s.2 (31 * s.1) x6 hrec
def jn_X4_digest_131 (v0 : Nat) (w0 : Int64) (w1 : Int32) : zAH → Option (Int64 × zAH) := fun h => (zgA 4 4 v0 h).bind fun x1 => (zgI 1 4 x1 h).bind fun x2 => lp_X4_digest_151 v0 ((31 * (w0 + (Int32.toInt64 w1))) + (Int32.toInt64 x2), 0) h
theorem sj_X4_digest_131 (g : zG) (l : Launch) (v0 : Nat) (w0 : Int64) (w1 : Int32) : zSm g l cX4_digest 4 RX4 "digest" (some .long) 5 114 zrL 131 [(0, .ref v0)] [.int w1, .long w0] (jn_X4_digest_131 v0 w0 w1) := by
  unfold jn_X4_digest_131
  refine z_i2l (q := 132) (by decide +kernel) rfl ?_
  refine z_ladd (q := 133) (by decide +kernel) rfl ?_
  refine z_lstore_n (j := 1) (q := 134) (by decide +kernel) rfl (by decide) rfl ?_
  refine z_ldc2 (i := 303) (v := 31) (q := 137) (by decide +kernel) rfl zw747 ?_
  refine z_lload_n (j := 1) (q := 138) (by decide +kernel) rfl 0 rfl ?_
  refine z_lmul (q := 139) (by decide +kernel) rfl ?_
  refine z_aload_n (j := 0) (q := 140) (by decide +kernel) rfl 1 rfl ?_
  refine z_getA (q := 143) zf_RX4_31 (by decide +kernel) rfl fun x1 => ?_
  refine z_getI (q := 146) zf_RX4_205 (by decide +kernel) rfl fun x2 => ?_
  refine z_i2l (q := 147) (by decide +kernel) rfl ?_
  refine z_ladd (q := 148) (by decide +kernel) rfl ?_
  refine z_lstore_n (j := 1) (q := 149) (by decide +kernel) rfl (by decide) rfl ?_
  refine z_iconst (n := 0) (v := 0) (q := 150) (by decide +kernel) rfl (by decide) ?_
  refine z_istore_n (j := 3) (q := 151) (by decide +kernel) rfl (by decide) rfl ?_
  refine zsub [2, 1, 0] rfl ?_
  exact sl_X4_digest_151 g l v0 ((31 * (w0 + (Int32.toInt64 w1))) + (Int32.toInt64 x2), 0)
def jn_X4_digest_105 (v0 : Nat) (v1 : Int64) : zAH → Option (Int64 × zAH) := fun h => (zgA 4 2 v0 h).bind fun x1 => (zgI 0 2 x1 h).bind fun x2 => if x2 = 0 then jn_X4_digest_131 v0 (31 * v1) ((-1)) h else (zgA 4 4 v0 h).bind fun x3 => (zgI 1 3 x3 h).bind fun x4 => jn_X4_digest_131 v0 (31 * v1) x4 h
theorem sj_X4_digest_105 (g : zG) (l : Launch) (v0 : Nat) (v1 : Int64) : zSm g l cX4_digest 4 RX4 "digest" (some .long) 5 114 zrL 105 [(0, .ref v0), (1, .long v1)] [] (jn_X4_digest_105 v0 v1) := by
  unfold jn_X4_digest_105
  refine z_ldc2 (i := 303) (v := 31) (q := 108) (by decide +kernel) rfl zw747 ?_
  refine z_lload_n (j := 1) (q := 109) (by decide +kernel) rfl 1 rfl ?_
  refine z_lmul (q := 110) (by decide +kernel) rfl ?_
  refine z_aload_n (j := 0) (q := 111) (by decide +kernel) rfl 0 rfl ?_
  refine z_getA (q := 114) zf_RX4_21 (by decide +kernel) rfl fun x1 => ?_
  refine z_getI (q := 117) zf_RX4_157 (by decide +kernel) rfl fun x2 => ?_
  refine z_if_ne (off := 7) (t := 124) (q := 120) (by decide +kernel) (by decide) rfl ?_ ?_
  · refine z_aload_n (j := 0) (q := 125) (by decide +kernel) rfl 0 rfl ?_
    refine z_getA (q := 128) zf_RX4_31 (by decide +kernel) rfl fun x3 => ?_
    refine z_getI (q := 131) zf_RX4_208 (by decide +kernel) rfl fun x4 => ?_
    refine zsub [0] rfl ?_
    exact sj_X4_digest_131 g l v0 (31 * v1) x4
  · refine z_iconst (n := (-1)) (v := (-1)) (q := 121) (by decide +kernel) rfl (by decide) ?_
    refine z_goto (off := 10) (t := 131) (by decide +kernel) (by decide) ?_
    refine zsub [0] rfl ?_
    exact sj_X4_digest_131 g l v0 (31 * v1) ((-1))
def lb_X4_digest_81 (v0 : Nat) (rec : (Int64 × Int32) → zAH → Option (Int64 × zAH)) (s : Int64 × Int32) : zAH → Option (Int64 × zAH) := fun h => (zgA 4 2 v0 h).bind fun x1 => (zgI 0 2 x1 h).bind fun x2 => if s.2 < x2 then zbd (dn_X4_digestRunner v0 s.1 s.2 h) fun x3 h4 => rec (x3, s.2 + 1) h4 else jn_X4_digest_105 v0 s.1 h
def lp_X4_digest_81 (v0 : Nat) (s : Int64 × Int32) : zAH → Option (Int64 × zAH) := zlp (lb_X4_digest_81 v0) 2000 s
theorem sl_X4_digest_81 (g : zG) (l : Launch) (v0 : Nat) (s : Int64 × Int32) : zSm g l cX4_digest 4 RX4 "digest" (some .long) 5 114 zrL 81 [(0, .ref v0), (1, .long s.1), (3, .int s.2)] [] (lp_X4_digest_81 v0 s) := by
  unfold lp_X4_digest_81
  refine z_loop (lvf := fun s => [(0, .ref v0), (1, .long s.1), (3, .int s.2)]) (fun rec hrec s => ?_) 2000 s
  unfold lb_X4_digest_81
  refine z_iload_n (j := 3) (q := 82) (by decide +kernel) rfl 2 rfl ?_
  refine z_aload_n (j := 0) (q := 83) (by decide +kernel) rfl 0 rfl ?_
  refine z_getA (q := 86) zf_RX4_21 (by decide +kernel) rfl fun x1 => ?_
  refine z_getI (q := 89) zf_RX4_157 (by decide +kernel) rfl fun x2 => ?_
  refine z_icmp_ge (off := 16) (t := 105) (q := 92) (by decide +kernel) (by decide) rfl ?_ ?_
  · refine zsub [0, 1] rfl ?_
    exact sj_X4_digest_105 g l v0 s.1
  · refine z_aload_n (j := 0) (q := 93) (by decide +kernel) rfl 0 rfl ?_
    refine z_lload_n (j := 1) (q := 94) (by decide +kernel) rfl 1 rfl ?_
    refine z_iload_n (j := 3) (q := 95) (by decide +kernel) rfl 2 rfl ?_
    refine z_callVL (As := [.long s.1, .int s.2]) (st := []) (q := 98) (ct_X4_digestRunner g l v0 s.1 s.2) zm_RX4_308 (rc_X4_digestRunner v0 s.1 s.2) rfl (by decide) (by decide) (Nat.le_of_ble_eq_true rfl) rfl (by decide +kernel) rfl fun x3 => ?_
    refine z_lstore_n (j := 1) (q := 99) (by decide +kernel) rfl (by decide) rfl ?_
    refine z_iinc (j := 3) (n := 1) (v := 1) (q := 102) (by decide +kernel) rfl 2 rfl (by decide) (by decide) rfl ?_
    refine z_goto (off := (-21)) (t := 81) (by decide +kernel) (by decide) ?_
    refine zsub [2, 1, 0] rfl ?_
    exact hrec (x3, s.2 + 1)
def jn_X4_digest_79 (v0 : Nat) (v1 : Int64) : zAH → Option (Int64 × zAH) := fun h => lp_X4_digest_81 v0 (v1, 0) h
theorem sj_X4_digest_79 (g : zG) (l : Launch) (v0 : Nat) (v1 : Int64) : zSm g l cX4_digest 4 RX4 "digest" (some .long) 5 114 zrL 79 [(0, .ref v0), (1, .long v1)] [] (jn_X4_digest_79 v0 v1) := by
  unfold jn_X4_digest_79
  refine z_iconst (n := 0) (v := 0) (q := 80) (by decide +kernel) rfl (by decide) ?_
  refine z_istore_n (j := 3) (q := 81) (by decide +kernel) rfl (by decide) rfl ?_
  refine zsub [1, 2, 0] rfl ?_
  exact sl_X4_digest_81 g l v0 (v1, 0)
def lb_X4_digest_45 (v0 : Nat) (rec : (Int64 × Int32) → zAH → Option (Int64 × zAH)) (s : Int64 × Int32) : zAH → Option (Int64 × zAH) := fun h => (zgA 4 2 v0 h).bind fun x1 => (zgI 0 0 x1 h).bind fun x2 => if s.2 < x2 then (zgA 4 2 v0 h).bind fun x3 => (zgA 0 1 x3 h).bind fun x4 => (zaI 0 x4 s.2 h).bind fun x5 => rec ((31 * s.1) + (Int32.toInt64 x5), s.2 + 1) h else jn_X4_digest_79 v0 s.1 h
def lp_X4_digest_45 (v0 : Nat) (s : Int64 × Int32) : zAH → Option (Int64 × zAH) := zlp (lb_X4_digest_45 v0) 2000 s
theorem sl_X4_digest_45 (g : zG) (l : Launch) (v0 : Nat) (s : Int64 × Int32) : zSm g l cX4_digest 4 RX4 "digest" (some .long) 5 114 zrL 45 [(0, .ref v0), (1, .long s.1), (3, .int s.2)] [] (lp_X4_digest_45 v0 s) := by
  unfold lp_X4_digest_45
  refine z_loop (lvf := fun s => [(0, .ref v0), (1, .long s.1), (3, .int s.2)]) (fun rec hrec s => ?_) 2000 s
  unfold lb_X4_digest_45
  refine z_iload_n (j := 3) (q := 46) (by decide +kernel) rfl 2 rfl ?_
  refine z_aload_n (j := 0) (q := 47) (by decide +kernel) rfl 0 rfl ?_
  refine z_getA (q := 50) zf_RX4_21 (by decide +kernel) rfl fun x1 => ?_
  refine z_getI (q := 53) zf_RX4_160 (by decide +kernel) rfl fun x2 => ?_
  refine z_icmp_ge (off := 26) (t := 79) (q := 56) (by decide +kernel) (by decide) rfl ?_ ?_
  · refine zsub [0, 1] rfl ?_
    exact sj_X4_digest_79 g l v0 s.1
  · refine z_ldc2 (i := 303) (v := 31) (q := 59) (by decide +kernel) rfl zw747 ?_
    refine z_lload_n (j := 1) (q := 60) (by decide +kernel) rfl 1 rfl ?_
    refine z_lmul (q := 61) (by decide +kernel) rfl ?_
    refine z_aload_n (j := 0) (q := 62) (by decide +kernel) rfl 0 rfl ?_
    refine z_getA (q := 65) zf_RX4_21 (by decide +kernel) rfl fun x3 => ?_
    refine z_getA (q := 68) zf_RX4_163 (by decide +kernel) rfl fun x4 => ?_
    refine z_iload_n (j := 3) (q := 69) (by decide +kernel) rfl 2 rfl ?_
    refine z_iald (q := 70) (Or.inl ⟨rfl, rfl⟩) (by decide +kernel) rfl fun x5 => ?_
    refine z_i2l (q := 71) (by decide +kernel) rfl ?_
    refine z_ladd (q := 72) (by decide +kernel) rfl ?_
    refine z_lstore_n (j := 1) (q := 73) (by decide +kernel) rfl (by decide) rfl ?_
    refine z_iinc (j := 3) (n := 1) (v := 1) (q := 76) (by decide +kernel) rfl 2 rfl (by decide) (by decide) rfl ?_
    refine z_goto (off := (-31)) (t := 45) (by decide +kernel) (by decide) ?_
    refine zsub [2, 1, 0] rfl ?_
    exact hrec ((31 * s.1) + (Int32.toInt64 x5), s.2 + 1)
def jn_X4_digest_31 (v0 : Nat) (v1 : Int64) : zAH → Option (Int64 × zAH) := fun h => (zgI 4 7 v0 h).bind fun x1 => lp_X4_digest_45 v0 ((31 * v1) + (Int32.toInt64 x1), 0) h
theorem sj_X4_digest_31 (g : zG) (l : Launch) (v0 : Nat) (v1 : Int64) : zSm g l cX4_digest 4 RX4 "digest" (some .long) 5 114 zrL 31 [(0, .ref v0), (1, .long v1)] [] (jn_X4_digest_31 v0 v1) := by
  unfold jn_X4_digest_31
  refine z_ldc2 (i := 303) (v := 31) (q := 34) (by decide +kernel) rfl zw747 ?_
  refine z_lload_n (j := 1) (q := 35) (by decide +kernel) rfl 1 rfl ?_
  refine z_lmul (q := 36) (by decide +kernel) rfl ?_
  refine z_aload_n (j := 0) (q := 37) (by decide +kernel) rfl 0 rfl ?_
  refine z_getI (q := 40) zf_RX4_42 (by decide +kernel) rfl fun x1 => ?_
  refine z_i2l (q := 41) (by decide +kernel) rfl ?_
  refine z_ladd (q := 42) (by decide +kernel) rfl ?_
  refine z_lstore_n (j := 1) (q := 43) (by decide +kernel) rfl (by decide) rfl ?_
  refine z_iconst (n := 0) (v := 0) (q := 44) (by decide +kernel) rfl (by decide) ?_
  refine z_istore_n (j := 3) (q := 45) (by decide +kernel) rfl (by decide) rfl ?_
  refine zsub [2, 1, 0] rfl ?_
  exact sl_X4_digest_45 g l v0 ((31 * v1) + (Int32.toInt64 x1), 0)
def lb_X4_digest_6 (v0 : Nat) (rec : (Int64 × Int32) → zAH → Option (Int64 × zAH)) (s : Int64 × Int32) : zAH → Option (Int64 × zAH) := fun h => if 7 < s.2 then jn_X4_digest_31 v0 s.1 h else zbd (dn_X4_count v0 s.2 h) fun x1 h2 => rec ((31 * s.1) + (Int32.toInt64 x1), s.2 + 1) h2
def lp_X4_digest_6 (v0 : Nat) (s : Int64 × Int32) : zAH → Option (Int64 × zAH) := zlp (lb_X4_digest_6 v0) 2000 s
theorem sl_X4_digest_6 (g : zG) (l : Launch) (v0 : Nat) (s : Int64 × Int32) : zSm g l cX4_digest 4 RX4 "digest" (some .long) 5 114 zrL 6 [(0, .ref v0), (1, .long s.1), (3, .int s.2)] [] (lp_X4_digest_6 v0 s) := by
  unfold lp_X4_digest_6
  refine z_loop (lvf := fun s => [(0, .ref v0), (1, .long s.1), (3, .int s.2)]) (fun rec hrec s => ?_) 2000 s
  unfold lb_X4_digest_6
  refine z_iload_n (j := 3) (q := 7) (by decide +kernel) rfl 2 rfl ?_
  refine z_bipush (n := 7) (v := 7) (q := 9) (by decide +kernel) rfl (by decide) ?_
  refine z_icmp_gt (off := 22) (t := 31) (q := 12) (by decide +kernel) (by decide) rfl ?_ ?_
  · refine zsub [0, 1] rfl ?_
    exact sj_X4_digest_31 g l v0 s.1
  · refine z_ldc2 (i := 303) (v := 31) (q := 15) (by decide +kernel) rfl zw747 ?_
    refine z_lload_n (j := 1) (q := 16) (by decide +kernel) rfl 1 rfl ?_
    refine z_lmul (q := 17) (by decide +kernel) rfl ?_
    refine z_aload_n (j := 0) (q := 18) (by decide +kernel) rfl 0 rfl ?_
    refine z_iload_n (j := 3) (q := 19) (by decide +kernel) rfl 2 rfl ?_
    refine z_callVI (As := [.int s.2]) (st := [.long (31 * s.1)]) (q := 22) (ct_X4_count g l v0 s.2) zm_RX4_305 (rc_X4_count v0 s.2) rfl (by decide) (by decide) (Nat.le_of_ble_eq_true rfl) rfl (by decide +kernel) rfl fun x1 => ?_
    refine z_i2l (q := 23) (by decide +kernel) rfl ?_
    refine z_ladd (q := 24) (by decide +kernel) rfl ?_
    refine z_lstore_n (j := 1) (q := 25) (by decide +kernel) rfl (by decide) rfl ?_
    refine z_iinc (j := 3) (n := 1) (v := 1) (q := 28) (by decide +kernel) rfl 2 rfl (by decide) (by decide) rfl ?_
    refine z_goto (off := (-22)) (t := 6) (by decide +kernel) (by decide) ?_
    refine zsub [2, 1, 0] rfl ?_
    exact hrec ((31 * s.1) + (Int32.toInt64 x1), s.2 + 1)
def dn_X4_digest (v0 : Nat) : zAH → Option (Int64 × zAH) := fun h => (zgO 4 v0 h).bind fun _ => lp_X4_digest_6 v0 (17, 0) h
theorem ct_X4_digest (g : zG) (l : Launch) (v0 : Nat) : zCt g l yX4_digest cX4_digest 4 (some .long) 5 114 zrL [.ref v0] (dn_X4_digest v0) := by
  refine zCt_of (lv := [(0, .ref v0)]) (by decide +kernel) (Nat.le_of_ble_eq_true rfl) rfl ?_
  show zSm g l cX4_digest 4 RX4 "digest" (some .long) 5 114 zrL 0 [(0, .ref v0)] [] (dn_X4_digest v0)
  unfold dn_X4_digest
  refine z_rec ?_
  refine z_ldc2 (i := 301) (v := 17) (q := 3) (by decide +kernel) rfl zw746 ?_
  refine z_lstore_n (j := 1) (q := 4) (by decide +kernel) rfl (by decide) rfl ?_
  refine z_iconst (n := 0) (v := 0) (q := 5) (by decide +kernel) rfl (by decide) ?_
  refine z_istore_n (j := 3) (q := 6) (by decide +kernel) rfl (by decide) rfl ?_
  refine zsub [2, 1, 0] rfl ?_
  exact sl_X4_digest_6 g l v0 (17, 0)
theorem rc_X4_digest (v0 : Nat) : ∀ h x, dn_X4_digest v0 h = some x → ∃ fs, zgO 4 v0 h = some fs := fun h x hd => by
  obtain ⟨fs, e, -⟩ := Option.bind_eq_some_iff.mp hd
  exact ⟨fs, e⟩
def jn_X5_init_220 : zAH → Option (Unit × zAH) := fun h => some ((), h)
theorem sj_X5_init_220 (g : zG) (l : Launch) : zSm g l cX5_init 2 RX5 "<init>" none 1 12 zrV 220 [] [] (jn_X5_init_220) := by
  unfold jn_X5_init_220
  exact z_vret (by decide +kernel)
def lb_X5_init_202 (v0 : Nat) (rec : (Int32) → zAH → Option (Unit × zAH)) (s : Int32) : zAH → Option (Unit × zAH) := fun h => if s < 4 then (zgA 5 8 v0 h).bind fun x1 => (zaS 0 x1 s ((-1)) h).bind fun h2 => rec (s + 1) h2 else jn_X5_init_220 h
def lp_X5_init_202 (v0 : Nat) (s : Int32) : zAH → Option (Unit × zAH) := zlp (lb_X5_init_202 v0) 2000 s
theorem sl_X5_init_202 (g : zG) (l : Launch) (v0 : Nat) (s : Int32) : zSm g l cX5_init 2 RX5 "<init>" none 1 12 zrV 202 [(0, .ref v0), (1, .int s)] [] (lp_X5_init_202 v0 s) := by
  unfold lp_X5_init_202
  refine z_loop (lvf := fun s => [(0, .ref v0), (1, .int s)]) (fun rec hrec s => ?_) 2000 s
  unfold lb_X5_init_202
  refine z_iload_n (j := 1) (q := 203) (by decide +kernel) rfl 1 rfl ?_
  refine z_iconst (n := 4) (v := 4) (q := 204) (by decide +kernel) rfl (by decide) ?_
  refine z_icmp_ge (off := 16) (t := 220) (q := 207) (by decide +kernel) (by decide) rfl ?_ ?_
  · refine zsub [] rfl ?_
    exact sj_X5_init_220 g l 
  · refine z_aload_n (j := 0) (q := 208) (by decide +kernel) rfl 0 rfl ?_
    refine z_getA (q := 211) zf_RX5_22 (by decide +kernel) rfl fun x1 => ?_
    refine z_iload_n (j := 1) (q := 212) (by decide +kernel) rfl 1 rfl ?_
    refine z_iconst (n := (-1)) (v := (-1)) (q := 213) (by decide +kernel) rfl (by decide) ?_
    refine z_iast (q := 214) (Or.inl ⟨rfl, rfl, rfl⟩) (by decide +kernel) rfl ?_
    refine z_iinc (j := 1) (n := 1) (v := 1) (q := 217) (by decide +kernel) rfl 1 rfl (by decide) (by decide) rfl ?_
    refine z_goto (off := (-15)) (t := 202) (by decide +kernel) (by decide) ?_
    refine zsub [1, 0] rfl ?_
    exact hrec (s + 1)
def jn_X5_init_200 (v0 : Nat) : zAH → Option (Unit × zAH) := fun h => lp_X5_init_202 v0 0 h
theorem sj_X5_init_200 (g : zG) (l : Launch) (v0 : Nat) : zSm g l cX5_init 2 RX5 "<init>" none 1 12 zrV 200 [(0, .ref v0)] [] (jn_X5_init_200 v0) := by
  unfold jn_X5_init_200
  refine z_iconst (n := 0) (v := 0) (q := 201) (by decide +kernel) rfl (by decide) ?_
  refine z_istore_n (j := 1) (q := 202) (by decide +kernel) rfl (by decide) rfl ?_
  refine zsub [1, 0] rfl ?_
  exact sl_X5_init_202 g l v0 0
def lb_X5_init_181 (v0 : Nat) (rec : (Int32) → zAH → Option (Unit × zAH)) (s : Int32) : zAH → Option (Unit × zAH) := fun h => if s < 6 then (zgA 5 5 v0 h).bind fun x1 => (zaS 0 x1 s ((-1)) h).bind fun h2 => rec (s + 1) h2 else jn_X5_init_200 v0 h
def lp_X5_init_181 (v0 : Nat) (s : Int32) : zAH → Option (Unit × zAH) := zlp (lb_X5_init_181 v0) 2000 s
theorem sl_X5_init_181 (g : zG) (l : Launch) (v0 : Nat) (s : Int32) : zSm g l cX5_init 2 RX5 "<init>" none 1 12 zrV 181 [(0, .ref v0), (1, .int s)] [] (lp_X5_init_181 v0 s) := by
  unfold lp_X5_init_181
  refine z_loop (lvf := fun s => [(0, .ref v0), (1, .int s)]) (fun rec hrec s => ?_) 2000 s
  unfold lb_X5_init_181
  refine z_iload_n (j := 1) (q := 182) (by decide +kernel) rfl 1 rfl ?_
  refine z_bipush (n := 6) (v := 6) (q := 184) (by decide +kernel) rfl (by decide) ?_
  refine z_icmp_ge (off := 16) (t := 200) (q := 187) (by decide +kernel) (by decide) rfl ?_ ?_
  · refine zsub [0] rfl ?_
    exact sj_X5_init_200 g l v0
  · refine z_aload_n (j := 0) (q := 188) (by decide +kernel) rfl 0 rfl ?_
    refine z_getA (q := 191) zf_RX5_13 (by decide +kernel) rfl fun x1 => ?_
    refine z_iload_n (j := 1) (q := 192) (by decide +kernel) rfl 1 rfl ?_
    refine z_iconst (n := (-1)) (v := (-1)) (q := 193) (by decide +kernel) rfl (by decide) ?_
    refine z_iast (q := 194) (Or.inl ⟨rfl, rfl, rfl⟩) (by decide +kernel) rfl ?_
    refine z_iinc (j := 1) (n := 1) (v := 1) (q := 197) (by decide +kernel) rfl 1 rfl (by decide) (by decide) rfl ?_
    refine z_goto (off := (-16)) (t := 181) (by decide +kernel) (by decide) ?_
    refine zsub [1, 0] rfl ?_
    exact hrec (s + 1)
def dn_X5_init (v0 : Nat) : zAH → Option (Unit × zAH) := fun h => (zgO 5 v0 h).bind fun _ => znwI 0 6 (fun x1 h2 => (zpF 5 1 v0 (.ref x1) h2).bind fun h3 => znwI 0 6 (fun x4 h5 => (zpF 5 5 v0 (.ref x4) h5).bind fun h6 => znwI 0 360 (fun x7 h8 => (zpF 5 6 v0 (.ref x7) h8).bind fun h9 => znwI 0 60 (fun x10 h11 => (zpF 5 7 v0 (.ref x10) h11).bind fun h12 => znwI 0 4 (fun x13 h14 => (zpF 5 8 v0 (.ref x13) h14).bind fun h15 => znwI 1 400 (fun x16 h17 => (zpF 5 9 v0 (.ref x16) h17).bind fun h18 => znwI 0 40 (fun x19 h20 => (zpF 5 11 v0 (.ref x19) h20).bind fun h21 => znwI 0 5 (fun x22 h23 => (zpF 5 13 v0 (.ref x22) h23).bind fun h24 => znwI 0 5 (fun x25 h26 => (zpF 5 14 v0 (.ref x25) h26).bind fun h27 => znwI 0 5 (fun x28 h29 => (zpF 5 15 v0 (.ref x28) h29).bind fun h30 => znwI 0 5 (fun x31 h32 => (zpF 5 16 v0 (.ref x31) h32).bind fun h33 => znwI 0 40 (fun x34 h35 => (zpF 5 17 v0 (.ref x34) h35).bind fun h36 => znwI 0 40 (fun x37 h38 => (zpF 5 22 v0 (.ref x37) h38).bind fun h39 => znwI 0 5 (fun x40 h41 => (zpF 5 23 v0 (.ref x40) h41).bind fun h42 => znwI 0 5 (fun x43 h44 => (zpF 5 24 v0 (.ref x43) h44).bind fun h45 => znwI 0 5 (fun x46 h47 => (zpF 5 25 v0 (.ref x46) h47).bind fun h48 => znwI 0 40 (fun x49 h50 => (zpF 5 26 v0 (.ref x49) h50).bind fun h51 => znwI 2 4 (fun x52 h53 => (zpF 5 27 v0 (.ref x52) h53).bind fun h54 => znwI 0 165 (fun x55 h56 => (zpF 5 28 v0 (.ref x55) h56).bind fun h57 => znwI 0 5 (fun x58 h59 => (zpF 5 31 v0 (.ref x58) h59).bind fun h60 => znwI 0 20 (fun x61 h62 => (zpF 5 32 v0 (.ref x61) h62).bind fun h63 => znwI 0 256 (fun x64 h65 => (zpF 5 33 v0 (.ref x64) h65).bind fun h66 => (zpF 5 4 v0 (.long 1) h66).bind fun h67 => lp_X5_init_181 v0 0 h67) h63) h60) h57) h54) h51) h48) h45) h42) h39) h36) h33) h30) h27) h24) h21) h18) h15) h12) h9) h6) h3) h
theorem ct_X5_init (g : zG) (l : Launch) (v0 : Nat) : zCt g l yX5_init cX5_init 2 none 1 12 zrV [.ref v0] (dn_X5_init v0) := by
  refine zCt_of (lv := [(0, .ref v0)]) (by decide +kernel) (Nat.le_of_ble_eq_true rfl) rfl ?_
  show zSm g l cX5_init 2 RX5 "<init>" none 1 12 zrV 0 [(0, .ref v0)] [] (dn_X5_init v0)
  unfold dn_X5_init
  refine z_rec ?_
  refine z_aload_n (j := 0) (q := 1) (by decide +kernel) rfl 0 rfl ?_
  refine z_obj (q := 4) zw764 zw89 zw90 (by decide) (by decide) (by decide +kernel) rfl ?_
  refine z_aload_n (j := 0) (q := 5) (by decide +kernel) rfl 0 rfl ?_
  refine z_bipush (n := 6) (v := 6) (q := 7) (by decide +kernel) rfl (by decide) ?_
  refine z_newI (at0 := .int) (q := 9) (Or.inl ⟨rfl, rfl⟩) zw141 (by decide +kernel) rfl fun x1 => ?_
  refine z_putV (q := 12) zp_RX5_7 (fun _ => rfl) rfl rfl (by decide +kernel) rfl ?_
  refine z_aload_n (j := 0) (q := 13) (by decide +kernel) rfl 0 rfl ?_
  refine z_bipush (n := 6) (v := 6) (q := 15) (by decide +kernel) rfl (by decide) ?_
  refine z_newI (at0 := .int) (q := 17) (Or.inl ⟨rfl, rfl⟩) zw141 (by decide +kernel) rfl fun x4 => ?_
  refine z_putV (q := 20) zp_RX5_13 (fun _ => rfl) rfl rfl (by decide +kernel) rfl ?_
  refine z_aload_n (j := 0) (q := 21) (by decide +kernel) rfl 0 rfl ?_
  refine z_sipush (n := 360) (v := 360) (q := 24) (by decide +kernel) rfl (by decide) ?_
  refine z_newI (at0 := .int) (q := 26) (Or.inl ⟨rfl, rfl⟩) zw141 (by decide +kernel) rfl fun x7 => ?_
  refine z_putV (q := 29) zp_RX5_16 (fun _ => rfl) rfl rfl (by decide +kernel) rfl ?_
  refine z_aload_n (j := 0) (q := 30) (by decide +kernel) rfl 0 rfl ?_
  refine z_bipush (n := 60) (v := 60) (q := 32) (by decide +kernel) rfl (by decide) ?_
  refine z_newI (at0 := .int) (q := 34) (Or.inl ⟨rfl, rfl⟩) zw141 (by decide +kernel) rfl fun x10 => ?_
  refine z_putV (q := 37) zp_RX5_19 (fun _ => rfl) rfl rfl (by decide +kernel) rfl ?_
  refine z_aload_n (j := 0) (q := 38) (by decide +kernel) rfl 0 rfl ?_
  refine z_iconst (n := 4) (v := 4) (q := 39) (by decide +kernel) rfl (by decide) ?_
  refine z_newI (at0 := .int) (q := 41) (Or.inl ⟨rfl, rfl⟩) zw141 (by decide +kernel) rfl fun x13 => ?_
  refine z_putV (q := 44) zp_RX5_22 (fun _ => rfl) rfl rfl (by decide +kernel) rfl ?_
  refine z_aload_n (j := 0) (q := 45) (by decide +kernel) rfl 0 rfl ?_
  refine z_sipush (n := 400) (v := 400) (q := 48) (by decide +kernel) rfl (by decide) ?_
  refine z_newI (at0 := .byte) (q := 50) (Or.inr (Or.inl ⟨rfl, rfl⟩)) zw877 (by decide +kernel) rfl fun x16 => ?_
  refine z_putV (q := 53) zp_RX5_25 (fun _ => rfl) rfl rfl (by decide +kernel) rfl ?_
  refine z_aload_n (j := 0) (q := 54) (by decide +kernel) rfl 0 rfl ?_
  refine z_bipush (n := 40) (v := 40) (q := 56) (by decide +kernel) rfl (by decide) ?_
  refine z_newI (at0 := .int) (q := 58) (Or.inl ⟨rfl, rfl⟩) zw141 (by decide +kernel) rfl fun x19 => ?_
  refine z_putV (q := 61) zp_RX5_29 (fun _ => rfl) rfl rfl (by decide +kernel) rfl ?_
  refine z_aload_n (j := 0) (q := 62) (by decide +kernel) rfl 0 rfl ?_
  refine z_iconst (n := 5) (v := 5) (q := 63) (by decide +kernel) rfl (by decide) ?_
  refine z_newI (at0 := .int) (q := 65) (Or.inl ⟨rfl, rfl⟩) zw141 (by decide +kernel) rfl fun x22 => ?_
  refine z_putV (q := 68) zp_RX5_32 (fun _ => rfl) rfl rfl (by decide +kernel) rfl ?_
  refine z_aload_n (j := 0) (q := 69) (by decide +kernel) rfl 0 rfl ?_
  refine z_iconst (n := 5) (v := 5) (q := 70) (by decide +kernel) rfl (by decide) ?_
  refine z_newI (at0 := .int) (q := 72) (Or.inl ⟨rfl, rfl⟩) zw141 (by decide +kernel) rfl fun x25 => ?_
  refine z_putV (q := 75) zp_RX5_35 (fun _ => rfl) rfl rfl (by decide +kernel) rfl ?_
  refine z_aload_n (j := 0) (q := 76) (by decide +kernel) rfl 0 rfl ?_
  refine z_iconst (n := 5) (v := 5) (q := 77) (by decide +kernel) rfl (by decide) ?_
  refine z_newI (at0 := .int) (q := 79) (Or.inl ⟨rfl, rfl⟩) zw141 (by decide +kernel) rfl fun x28 => ?_
  refine z_putV (q := 82) zp_RX5_38 (fun _ => rfl) rfl rfl (by decide +kernel) rfl ?_
  refine z_aload_n (j := 0) (q := 83) (by decide +kernel) rfl 0 rfl ?_
  refine z_iconst (n := 5) (v := 5) (q := 84) (by decide +kernel) rfl (by decide) ?_
  refine z_newI (at0 := .int) (q := 86) (Or.inl ⟨rfl, rfl⟩) zw141 (by decide +kernel) rfl fun x31 => ?_
  refine z_putV (q := 89) zp_RX5_41 (fun _ => rfl) rfl rfl (by decide +kernel) rfl ?_
  refine z_aload_n (j := 0) (q := 90) (by decide +kernel) rfl 0 rfl ?_
  refine z_bipush (n := 40) (v := 40) (q := 92) (by decide +kernel) rfl (by decide) ?_
  refine z_newI (at0 := .int) (q := 94) (Or.inl ⟨rfl, rfl⟩) zw141 (by decide +kernel) rfl fun x34 => ?_
  refine z_putV (q := 97) zp_RX5_44 (fun _ => rfl) rfl rfl (by decide +kernel) rfl ?_
  refine z_aload_n (j := 0) (q := 98) (by decide +kernel) rfl 0 rfl ?_
  refine z_bipush (n := 40) (v := 40) (q := 100) (by decide +kernel) rfl (by decide) ?_
  refine z_newI (at0 := .int) (q := 102) (Or.inl ⟨rfl, rfl⟩) zw141 (by decide +kernel) rfl fun x37 => ?_
  refine z_putV (q := 105) zp_RX5_47 (fun _ => rfl) rfl rfl (by decide +kernel) rfl ?_
  refine z_aload_n (j := 0) (q := 106) (by decide +kernel) rfl 0 rfl ?_
  refine z_iconst (n := 5) (v := 5) (q := 107) (by decide +kernel) rfl (by decide) ?_
  refine z_newI (at0 := .int) (q := 109) (Or.inl ⟨rfl, rfl⟩) zw141 (by decide +kernel) rfl fun x40 => ?_
  refine z_putV (q := 112) zp_RX5_50 (fun _ => rfl) rfl rfl (by decide +kernel) rfl ?_
  refine z_aload_n (j := 0) (q := 113) (by decide +kernel) rfl 0 rfl ?_
  refine z_iconst (n := 5) (v := 5) (q := 114) (by decide +kernel) rfl (by decide) ?_
  refine z_newI (at0 := .int) (q := 116) (Or.inl ⟨rfl, rfl⟩) zw141 (by decide +kernel) rfl fun x43 => ?_
  refine z_putV (q := 119) zp_RX5_53 (fun _ => rfl) rfl rfl (by decide +kernel) rfl ?_
  refine z_aload_n (j := 0) (q := 120) (by decide +kernel) rfl 0 rfl ?_
  refine z_iconst (n := 5) (v := 5) (q := 121) (by decide +kernel) rfl (by decide) ?_
  refine z_newI (at0 := .int) (q := 123) (Or.inl ⟨rfl, rfl⟩) zw141 (by decide +kernel) rfl fun x46 => ?_
  refine z_putV (q := 126) zp_RX5_56 (fun _ => rfl) rfl rfl (by decide +kernel) rfl ?_
  refine z_aload_n (j := 0) (q := 127) (by decide +kernel) rfl 0 rfl ?_
  refine z_bipush (n := 40) (v := 40) (q := 129) (by decide +kernel) rfl (by decide) ?_
  refine z_newI (at0 := .int) (q := 131) (Or.inl ⟨rfl, rfl⟩) zw141 (by decide +kernel) rfl fun x49 => ?_
  refine z_putV (q := 134) zp_RX5_59 (fun _ => rfl) rfl rfl (by decide +kernel) rfl ?_
  refine z_aload_n (j := 0) (q := 135) (by decide +kernel) rfl 0 rfl ?_
  refine z_iconst (n := 4) (v := 4) (q := 136) (by decide +kernel) rfl (by decide) ?_
  refine z_newI (at0 := .boolean) (q := 138) (Or.inr (Or.inr ⟨rfl, rfl⟩)) zw878 (by decide +kernel) rfl fun x52 => ?_
  refine z_putV (q := 141) zp_RX5_62 (fun _ => rfl) rfl rfl (by decide +kernel) rfl ?_
  refine z_aload_n (j := 0) (q := 142) (by decide +kernel) rfl 0 rfl ?_
  refine z_sipush (n := 165) (v := 165) (q := 145) (by decide +kernel) rfl (by decide) ?_
  refine z_newI (at0 := .int) (q := 147) (Or.inl ⟨rfl, rfl⟩) zw141 (by decide +kernel) rfl fun x55 => ?_
  refine z_putV (q := 150) zp_RX5_66 (fun _ => rfl) rfl rfl (by decide +kernel) rfl ?_
  refine z_aload_n (j := 0) (q := 151) (by decide +kernel) rfl 0 rfl ?_
  refine z_iconst (n := 5) (v := 5) (q := 152) (by decide +kernel) rfl (by decide) ?_
  refine z_newI (at0 := .int) (q := 154) (Or.inl ⟨rfl, rfl⟩) zw141 (by decide +kernel) rfl fun x58 => ?_
  refine z_putV (q := 157) zp_RX5_69 (fun _ => rfl) rfl rfl (by decide +kernel) rfl ?_
  refine z_aload_n (j := 0) (q := 158) (by decide +kernel) rfl 0 rfl ?_
  refine z_bipush (n := 20) (v := 20) (q := 160) (by decide +kernel) rfl (by decide) ?_
  refine z_newI (at0 := .int) (q := 162) (Or.inl ⟨rfl, rfl⟩) zw141 (by decide +kernel) rfl fun x61 => ?_
  refine z_putV (q := 165) zp_RX5_72 (fun _ => rfl) rfl rfl (by decide +kernel) rfl ?_
  refine z_aload_n (j := 0) (q := 166) (by decide +kernel) rfl 0 rfl ?_
  refine z_sipush (n := 256) (v := 256) (q := 169) (by decide +kernel) rfl (by decide) ?_
  refine z_newI (at0 := .int) (q := 171) (Or.inl ⟨rfl, rfl⟩) zw141 (by decide +kernel) rfl fun x64 => ?_
  refine z_putV (q := 174) zp_RX5_75 (fun _ => rfl) rfl rfl (by decide +kernel) rfl ?_
  refine z_aload_n (j := 0) (q := 175) (by decide +kernel) rfl 0 rfl ?_
  refine z_lconst (n := 1) (v := 1) (q := 176) (by decide +kernel) rfl (by decide) ?_
  refine z_putV (q := 179) zp_RX5_78 (fun z => by cases z) rfl rfl (by decide +kernel) rfl ?_
  refine z_iconst (n := 0) (v := 0) (q := 180) (by decide +kernel) rfl (by decide) ?_
  refine z_istore_n (j := 1) (q := 181) (by decide +kernel) rfl (by decide) rfl ?_
  refine zsub [1, 0] rfl ?_
  exact sl_X5_init_181 g l v0 0
theorem rc_X5_init (v0 : Nat) : ∀ h x, dn_X5_init v0 h = some x → ∃ fs, zgO 5 v0 h = some fs := fun h x hd => by
  obtain ⟨fs, e, -⟩ := Option.bind_eq_some_iff.mp hd
  exact ⟨fs, e⟩
def jn_X5_in_15 (w0 : Int32) : zAH → Option (Int32 × zAH) := fun h => if w0 = 0 ∨ w0 = 1 then some (w0, h) else none
theorem sj_X5_in_15 (g : zG) (l : Launch) (w0 : Int32) : zSm g l cX5_in 3 RX5 "in" (some .boolean) 0 0 zrI 15 [] [.int w0] (jn_X5_in_15 w0) := by
  unfold jn_X5_in_15
  exact z_zret (by decide +kernel)
def jn_X5_in_14 : zAH → Option (Int32 × zAH) := fun h => jn_X5_in_15 0 h
theorem sj_X5_in_14 (g : zG) (l : Launch) : zSm g l cX5_in 3 RX5 "in" (some .boolean) 0 0 zrI 14 [] [] (jn_X5_in_14) := by
  unfold jn_X5_in_14
  refine z_iconst (n := 0) (v := 0) (q := 15) (by decide +kernel) rfl (by decide) ?_
  refine zsub [] rfl ?_
  exact sj_X5_in_15 g l 0
def dn_X5_in (v0 : Int32) (v1 : Int32) (v2 : Int32) : zAH → Option (Int32 × zAH) := fun h => if v0 < v1 then jn_X5_in_14 h else if v2 < v0 then jn_X5_in_14 h else jn_X5_in_15 1 h
theorem ct_X5_in (g : zG) (l : Launch) (v0 : Int32) (v1 : Int32) (v2 : Int32) : zCt g l yX5_in cX5_in 3 (some .boolean) 0 0 zrI [.int v0, .int v1, .int v2] (dn_X5_in v0 v1 v2) := by
  refine zCt_of (lv := [(0, .int v0), (1, .int v1), (2, .int v2)]) (by decide +kernel) (Nat.le_of_ble_eq_true rfl) rfl ?_
  show zSm g l cX5_in 3 RX5 "in" (some .boolean) 0 0 zrI 0 [(0, .int v0), (1, .int v1), (2, .int v2)] [] (dn_X5_in v0 v1 v2)
  unfold dn_X5_in
  refine z_iload_n (j := 0) (q := 1) (by decide +kernel) rfl 0 rfl ?_
  refine z_iload_n (j := 1) (q := 2) (by decide +kernel) rfl 1 rfl ?_
  refine z_icmp_lt (off := 12) (t := 14) (q := 5) (by decide +kernel) (by decide) rfl ?_ ?_
  · refine zsub [] rfl ?_
    exact sj_X5_in_14 g l 
  · refine z_iload_n (j := 0) (q := 6) (by decide +kernel) rfl 0 rfl ?_
    refine z_iload_n (j := 2) (q := 7) (by decide +kernel) rfl 2 rfl ?_
    refine z_icmp_gt (off := 7) (t := 14) (q := 10) (by decide +kernel) (by decide) rfl ?_ ?_
    · refine zsub [] rfl ?_
      exact sj_X5_in_14 g l 
    · refine z_iconst (n := 1) (v := 1) (q := 11) (by decide +kernel) rfl (by decide) ?_
      refine z_goto (off := 4) (t := 15) (by decide +kernel) (by decide) ?_
      refine zsub [] rfl ?_
      exact sj_X5_in_15 g l 1
def jn_X5_has_14 (w0 : Int32) : zAH → Option (Int32 × zAH) := fun h => if w0 = 0 ∨ w0 = 1 then some (w0, h) else none
theorem sj_X5_has_14 (g : zG) (l : Launch) (w0 : Int32) : zSm g l cX5_has 2 RX5 "has" (some .boolean) 0 0 zrI 14 [] [.int w0] (jn_X5_has_14 w0) := by
  unfold jn_X5_has_14
  exact z_zret (by decide +kernel)
def dn_X5_has (v0 : Int32) (v1 : Int32) : zAH → Option (Int32 × zAH) := fun h => if ((v0 >>> (v1 &&& 31)) &&& 1) = 1 then jn_X5_has_14 1 h else jn_X5_has_14 0 h
theorem ct_X5_has (g : zG) (l : Launch) (v0 : Int32) (v1 : Int32) : zCt g l yX5_has cX5_has 2 (some .boolean) 0 0 zrI [.int v0, .int v1] (dn_X5_has v0 v1) := by
  refine zCt_of (lv := [(0, .int v0), (1, .int v1)]) (by decide +kernel) (Nat.le_of_ble_eq_true rfl) rfl ?_
  show zSm g l cX5_has 2 RX5 "has" (some .boolean) 0 0 zrI 0 [(0, .int v0), (1, .int v1)] [] (dn_X5_has v0 v1)
  unfold dn_X5_has
  refine z_iload_n (j := 0) (q := 1) (by decide +kernel) rfl 0 rfl ?_
  refine z_iload_n (j := 1) (q := 2) (by decide +kernel) rfl 1 rfl ?_
  refine z_ishr (q := 3) (by decide +kernel) rfl ?_
  refine z_iconst (n := 1) (v := 1) (q := 4) (by decide +kernel) rfl (by decide) ?_
  refine z_iand (q := 5) (by decide +kernel) rfl ?_
  refine z_iconst (n := 1) (v := 1) (q := 6) (by decide +kernel) rfl (by decide) ?_
  refine z_icmp_ne (off := 7) (t := 13) (q := 9) (by decide +kernel) (by decide) rfl ?_ ?_
  · refine z_iconst (n := 0) (v := 0) (q := 14) (by decide +kernel) rfl (by decide) ?_
    refine zsub [] rfl ?_
    exact sj_X5_has_14 g l 0
  · refine z_iconst (n := 1) (v := 1) (q := 10) (by decide +kernel) rfl (by decide) ?_
    refine z_goto (off := 4) (t := 14) (by decide +kernel) (by decide) ?_
    refine zsub [] rfl ?_
    exact sj_X5_has_14 g l 1
def jn_X5_bits_20 (v1 : Int32) : zAH → Option (Int32 × zAH) := fun h => some (v1, h)
theorem sj_X5_bits_20 (g : zG) (l : Launch) (v1 : Int32) : zSm g l cX5_bits 3 RX5 "bits" (some .int) 0 0 zrI 20 [(1, .int v1)] [] (jn_X5_bits_20 v1) := by
  unfold jn_X5_bits_20
  refine z_iload_n (j := 1) (q := 21) (by decide +kernel) rfl 0 rfl ?_
  exact z_iret (by decide +kernel)
def lb_X5_bits_4 (rec : (Int32 × Int32) → zAH → Option (Int32 × zAH)) (s : Int32 × Int32) : zAH → Option (Int32 × zAH) := fun h => if s.2 = 0 then jn_X5_bits_20 s.1 h else rec (s.1 + 1, s.2 &&& (s.2 - 1)) h
def lp_X5_bits_4 (s : Int32 × Int32) : zAH → Option (Int32 × zAH) := zlp (lb_X5_bits_4) 2000 s
theorem sl_X5_bits_4 (g : zG) (l : Launch) (s : Int32 × Int32) : zSm g l cX5_bits 3 RX5 "bits" (some .int) 0 0 zrI 4 [(1, .int s.1), (2, .int s.2)] [] (lp_X5_bits_4 s) := by
  unfold lp_X5_bits_4
  refine z_loop (lvf := fun s => [(1, .int s.1), (2, .int s.2)]) (fun rec hrec s => ?_) 2000 s
  unfold lb_X5_bits_4
  refine z_iload_n (j := 2) (q := 5) (by decide +kernel) rfl 1 rfl ?_
  refine z_if_eq (off := 15) (t := 20) (q := 8) (by decide +kernel) (by decide) rfl ?_ ?_
  · refine zsub [0] rfl ?_
    exact sj_X5_bits_20 g l s.1
  · refine z_iinc (j := 1) (n := 1) (v := 1) (q := 11) (by decide +kernel) rfl 0 rfl (by decide) (by decide) rfl ?_
    refine z_iload_n (j := 2) (q := 12) (by decide +kernel) rfl 1 rfl ?_
    refine z_iload_n (j := 2) (q := 13) (by decide +kernel) rfl 1 rfl ?_
    refine z_iconst (n := 1) (v := 1) (q := 14) (by decide +kernel) rfl (by decide) ?_
    refine z_isub (q := 15) (by decide +kernel) rfl ?_
    refine z_iand (q := 16) (by decide +kernel) rfl ?_
    refine z_istore_n (j := 2) (q := 17) (by decide +kernel) rfl (by decide) rfl ?_
    refine z_goto (off := (-13)) (t := 4) (by decide +kernel) (by decide) ?_
    refine zsub [1, 0] rfl ?_
    exact hrec (s.1 + 1, s.2 &&& (s.2 - 1))
def dn_X5_bits (v0 : Int32) : zAH → Option (Int32 × zAH) := fun h => lp_X5_bits_4 (0, v0) h
theorem ct_X5_bits (g : zG) (l : Launch) (v0 : Int32) : zCt g l yX5_bits cX5_bits 3 (some .int) 0 0 zrI [.int v0] (dn_X5_bits v0) := by
  refine zCt_of (lv := [(0, .int v0)]) (by decide +kernel) (Nat.le_of_ble_eq_true rfl) rfl ?_
  show zSm g l cX5_bits 3 RX5 "bits" (some .int) 0 0 zrI 0 [(0, .int v0)] [] (dn_X5_bits v0)
  unfold dn_X5_bits
  refine z_iconst (n := 0) (v := 0) (q := 1) (by decide +kernel) rfl (by decide) ?_
  refine z_istore_n (j := 1) (q := 2) (by decide +kernel) rfl (by decide) rfl ?_
  refine z_iload_n (j := 0) (q := 3) (by decide +kernel) rfl 1 rfl ?_
  refine z_istore_n (j := 2) (q := 4) (by decide +kernel) rfl (by decide) rfl ?_
  refine zsub [1, 0] rfl ?_
  exact sl_X5_bits_4 g l (0, v0)
def jn_X5_lesser_10 (w0 : Int32) : zAH → Option (Int32 × zAH) := fun h => some (w0, h)
theorem sj_X5_lesser_10 (g : zG) (l : Launch) (w0 : Int32) : zSm g l cX5_lesser 2 RX5 "lesser" (some .int) 0 0 zrI 10 [] [.int w0] (jn_X5_lesser_10 w0) := by
  unfold jn_X5_lesser_10
  exact z_iret (by decide +kernel)
def dn_X5_lesser (v0 : Int32) (v1 : Int32) : zAH → Option (Int32 × zAH) := fun h => if v0 < v1 then jn_X5_lesser_10 v0 h else jn_X5_lesser_10 v1 h
theorem ct_X5_lesser (g : zG) (l : Launch) (v0 : Int32) (v1 : Int32) : zCt g l yX5_lesser cX5_lesser 2 (some .int) 0 0 zrI [.int v0, .int v1] (dn_X5_lesser v0 v1) := by
  refine zCt_of (lv := [(0, .int v0), (1, .int v1)]) (by decide +kernel) (Nat.le_of_ble_eq_true rfl) rfl ?_
  show zSm g l cX5_lesser 2 RX5 "lesser" (some .int) 0 0 zrI 0 [(0, .int v0), (1, .int v1)] [] (dn_X5_lesser v0 v1)
  unfold dn_X5_lesser
  refine z_iload_n (j := 0) (q := 1) (by decide +kernel) rfl 0 rfl ?_
  refine z_iload_n (j := 1) (q := 2) (by decide +kernel) rfl 1 rfl ?_
  refine z_icmp_ge (off := 7) (t := 9) (q := 5) (by decide +kernel) (by decide) rfl ?_ ?_
  · refine z_iload_n (j := 1) (q := 10) (by decide +kernel) rfl 1 rfl ?_
    refine zsub [] rfl ?_
    exact sj_X5_lesser_10 g l v1
  · refine z_iload_n (j := 0) (q := 6) (by decide +kernel) rfl 0 rfl ?_
    refine z_goto (off := 4) (t := 10) (by decide +kernel) (by decide) ?_
    refine zsub [] rfl ?_
    exact sj_X5_lesser_10 g l v0
def jn_X5_greater_10 (w0 : Int32) : zAH → Option (Int32 × zAH) := fun h => some (w0, h)
theorem sj_X5_greater_10 (g : zG) (l : Launch) (w0 : Int32) : zSm g l cX5_greater 2 RX5 "greater" (some .int) 0 0 zrI 10 [] [.int w0] (jn_X5_greater_10 w0) := by
  unfold jn_X5_greater_10
  exact z_iret (by decide +kernel)
def dn_X5_greater (v0 : Int32) (v1 : Int32) : zAH → Option (Int32 × zAH) := fun h => if v1 < v0 then jn_X5_greater_10 v0 h else jn_X5_greater_10 v1 h
theorem ct_X5_greater (g : zG) (l : Launch) (v0 : Int32) (v1 : Int32) : zCt g l yX5_greater cX5_greater 2 (some .int) 0 0 zrI [.int v0, .int v1] (dn_X5_greater v0 v1) := by
  refine zCt_of (lv := [(0, .int v0), (1, .int v1)]) (by decide +kernel) (Nat.le_of_ble_eq_true rfl) rfl ?_
  show zSm g l cX5_greater 2 RX5 "greater" (some .int) 0 0 zrI 0 [(0, .int v0), (1, .int v1)] [] (dn_X5_greater v0 v1)
  unfold dn_X5_greater
  refine z_iload_n (j := 0) (q := 1) (by decide +kernel) rfl 0 rfl ?_
  refine z_iload_n (j := 1) (q := 2) (by decide +kernel) rfl 1 rfl ?_
  refine z_icmp_le (off := 7) (t := 9) (q := 5) (by decide +kernel) (by decide) rfl ?_ ?_
  · refine z_iload_n (j := 1) (q := 10) (by decide +kernel) rfl 1 rfl ?_
    refine zsub [] rfl ?_
    exact sj_X5_greater_10 g l v1
  · refine z_iload_n (j := 0) (q := 6) (by decide +kernel) rfl 0 rfl ?_
    refine z_goto (off := 4) (t := 10) (by decide +kernel) (by decide) ?_
    refine zsub [] rfl ?_
    exact sj_X5_greater_10 g l v0
def dn_X5_meets (v0 : Nat) (v1 : Int32) : zAH → Option (Int32 × zAH) := fun h => (zgO 5 v0 h).bind fun _ => (zpF 5 0 v0 (.int v1) h).bind fun h1 => (zgA 5 1 v0 h1).bind fun x2 => (zaI 0 x2 v1 h1).bind fun x3 => (zaS 0 x2 v1 (x3 + 1) h1).bind fun h4 => some ((-3), h4)
theorem ct_X5_meets (g : zG) (l : Launch) (v0 : Nat) (v1 : Int32) : zCt g l yX5_meets cX5_meets 2 (some .int) 0 0 zrI [.ref v0, .int v1] (dn_X5_meets v0 v1) := by
  refine zCt_of (lv := [(0, .ref v0), (1, .int v1)]) (by decide +kernel) (Nat.le_of_ble_eq_true rfl) rfl ?_
  show zSm g l cX5_meets 2 RX5 "meets" (some .int) 0 0 zrI 0 [(0, .ref v0), (1, .int v1)] [] (dn_X5_meets v0 v1)
  unfold dn_X5_meets
  refine z_rec ?_
  refine z_aload_n (j := 0) (q := 1) (by decide +kernel) rfl 0 rfl ?_
  refine z_iload_n (j := 1) (q := 2) (by decide +kernel) rfl 1 rfl ?_
  refine z_putV (q := 5) zp_RX5_82 (fun z => by cases z) rfl rfl (by decide +kernel) rfl ?_
  refine z_aload_n (j := 0) (q := 6) (by decide +kernel) rfl 0 rfl ?_
  refine z_getA (q := 9) zf_RX5_7 (by decide +kernel) rfl fun x2 => ?_
  refine z_iload_n (j := 1) (q := 10) (by decide +kernel) rfl 1 rfl ?_
  refine z_dup2 (q := 11) (by decide +kernel) rfl rfl rfl ?_
  refine z_iald (q := 12) (Or.inl ⟨rfl, rfl⟩) (by decide +kernel) rfl fun x3 => ?_
  refine z_iconst (n := 1) (v := 1) (q := 13) (by decide +kernel) rfl (by decide) ?_
  refine z_iadd (q := 14) (by decide +kernel) rfl ?_
  refine z_iast (q := 15) (Or.inl ⟨rfl, rfl, rfl⟩) (by decide +kernel) rfl ?_
  refine z_bipush (n := (-3)) (v := (-3)) (q := 17) (by decide +kernel) rfl (by decide) ?_
  exact z_iret (by decide +kernel)
theorem rc_X5_meets (v0 : Nat) (v1 : Int32) : ∀ h x, dn_X5_meets v0 v1 h = some x → ∃ fs, zgO 5 v0 h = some fs := fun h x hd => by
  obtain ⟨fs, e, -⟩ := Option.bind_eq_some_iff.mp hd
  exact ⟨fs, e⟩
def dn_X5_finding (v0 : Nat) : zAH → Option (Int32 × zAH) := fun h => (zgO 5 v0 h).bind fun _ => (zgI 5 0 v0 h).bind fun x1 => some (x1, h)
theorem ct_X5_finding (g : zG) (l : Launch) (v0 : Nat) : zCt g l yX5_finding cX5_finding 1 (some .int) 0 0 zrI [.ref v0] (dn_X5_finding v0) := by
  refine zCt_of (lv := [(0, .ref v0)]) (by decide +kernel) (Nat.le_of_ble_eq_true rfl) rfl ?_
  show zSm g l cX5_finding 1 RX5 "finding" (some .int) 0 0 zrI 0 [(0, .ref v0)] [] (dn_X5_finding v0)
  unfold dn_X5_finding
  refine z_rec ?_
  refine z_aload_n (j := 0) (q := 1) (by decide +kernel) rfl 0 rfl ?_
  refine z_getI (q := 4) zf_RX5_82 (by decide +kernel) rfl fun x1 => ?_
  exact z_iret (by decide +kernel)
theorem rc_X5_finding (v0 : Nat) : ∀ h x, dn_X5_finding v0 h = some x → ∃ fs, zgO 5 v0 h = some fs := fun h x hd => by
  obtain ⟨fs, e, -⟩ := Option.bind_eq_some_iff.mp hd
  exact ⟨fs, e⟩
def jn_X5_findings_19 (w0 : Int32) : zAH → Option (Int32 × zAH) := fun h => some (w0, h)
theorem sj_X5_findings_19 (g : zG) (l : Launch) (w0 : Int32) : zSm g l cX5_findings 2 RX5 "findings" (some .int) 1 22 zrI 19 [] [.int w0] (jn_X5_findings_19 w0) := by
  unfold jn_X5_findings_19
  exact z_iret (by decide +kernel)
def dn_X5_findings (v0 : Nat) (v1 : Int32) : zAH → Option (Int32 × zAH) := fun h => (zgO 5 v0 h).bind fun _ => zbd (dn_X5_in v1 1 5 h) fun x1 h2 => if x1 = 0 then jn_X5_findings_19 ((-1)) h2 else (zgA 5 1 v0 h2).bind fun x3 => (zaI 0 x3 v1 h2).bind fun x4 => jn_X5_findings_19 x4 h2
theorem ct_X5_findings (g : zG) (l : Launch) (v0 : Nat) (v1 : Int32) : zCt g l yX5_findings cX5_findings 2 (some .int) 1 22 zrI [.ref v0, .int v1] (dn_X5_findings v0 v1) := by
  refine zCt_of (lv := [(0, .ref v0), (1, .int v1)]) (by decide +kernel) (Nat.le_of_ble_eq_true rfl) rfl ?_
  show zSm g l cX5_findings 2 RX5 "findings" (some .int) 1 22 zrI 0 [(0, .ref v0), (1, .int v1)] [] (dn_X5_findings v0 v1)
  unfold dn_X5_findings
  refine z_rec ?_
  refine z_iload_n (j := 1) (q := 1) (by decide +kernel) rfl 1 rfl ?_
  refine z_iconst (n := 1) (v := 1) (q := 2) (by decide +kernel) rfl (by decide) ?_
  refine z_iconst (n := 5) (v := 5) (q := 3) (by decide +kernel) rfl (by decide) ?_
  refine z_callSI (As := [.int v1, .int 1, .int 5]) (st := []) (q := 6) (ct_X5_in g l v1 1 5) zm_RX5_86 rfl (by decide) (by decide) (Nat.le_of_ble_eq_true rfl) rfl (by decide +kernel) rfl fun x1 => ?_
  refine z_if_eq (off := 12) (t := 18) (q := 9) (by decide +kernel) (by decide) rfl ?_ ?_
  · refine z_iconst (n := (-1)) (v := (-1)) (q := 19) (by decide +kernel) rfl (by decide) ?_
    refine zsub [] rfl ?_
    exact sj_X5_findings_19 g l ((-1))
  · refine z_aload_n (j := 0) (q := 10) (by decide +kernel) rfl 0 rfl ?_
    refine z_getA (q := 13) zf_RX5_7 (by decide +kernel) rfl fun x3 => ?_
    refine z_iload_n (j := 1) (q := 14) (by decide +kernel) rfl 1 rfl ?_
    refine z_iald (q := 15) (Or.inl ⟨rfl, rfl⟩) (by decide +kernel) rfl fun x4 => ?_
    refine z_goto (off := 4) (t := 19) (by decide +kernel) (by decide) ?_
    refine zsub [] rfl ?_
    exact sj_X5_findings_19 g l x4
theorem rc_X5_findings (v0 : Nat) (v1 : Int32) : ∀ h x, dn_X5_findings v0 v1 h = some x → ∃ fs, zgO 5 v0 h = some fs := fun h x hd => by
  obtain ⟨fs, e, -⟩ := Option.bind_eq_some_iff.mp hd
  exact ⟨fs, e⟩
def dn_X5_tells (v0 : Nat) (v1 : Int32) (v2 : Int32) : zAH → Option (Int32 × zAH) := fun h => (zgO 5 v0 h).bind fun _ => (zpF 5 2 v0 (.int v1) h).bind fun h1 => some (v2, h1)
theorem ct_X5_tells (g : zG) (l : Launch) (v0 : Nat) (v1 : Int32) (v2 : Int32) : zCt g l yX5_tells cX5_tells 3 (some .int) 0 0 zrI [.ref v0, .int v1, .int v2] (dn_X5_tells v0 v1 v2) := by
  refine zCt_of (lv := [(0, .ref v0), (1, .int v1), (2, .int v2)]) (by decide +kernel) (Nat.le_of_ble_eq_true rfl) rfl ?_
  show zSm g l cX5_tells 3 RX5 "tells" (some .int) 0 0 zrI 0 [(0, .ref v0), (1, .int v1), (2, .int v2)] [] (dn_X5_tells v0 v1 v2)
  unfold dn_X5_tells
  refine z_rec ?_
  refine z_aload_n (j := 0) (q := 1) (by decide +kernel) rfl 0 rfl ?_
  refine z_iload_n (j := 1) (q := 2) (by decide +kernel) rfl 1 rfl ?_
  refine z_putV (q := 5) zp_RX5_90 (fun z => by cases z) rfl rfl (by decide +kernel) rfl ?_
  refine z_iload_n (j := 2) (q := 6) (by decide +kernel) rfl 2 rfl ?_
  exact z_iret (by decide +kernel)
theorem rc_X5_tells (v0 : Nat) (v1 : Int32) (v2 : Int32) : ∀ h x, dn_X5_tells v0 v1 v2 h = some x → ∃ fs, zgO 5 v0 h = some fs := fun h x hd => by
  obtain ⟨fs, e, -⟩ := Option.bind_eq_some_iff.mp hd
  exact ⟨fs, e⟩
def dn_X5_asked (v0 : Nat) : zAH → Option (Int32 × zAH) := fun h => (zgO 5 v0 h).bind fun _ => (zgI 5 2 v0 h).bind fun x1 => some (x1, h)
theorem ct_X5_asked (g : zG) (l : Launch) (v0 : Nat) : zCt g l yX5_asked cX5_asked 1 (some .int) 0 0 zrI [.ref v0] (dn_X5_asked v0) := by
  refine zCt_of (lv := [(0, .ref v0)]) (by decide +kernel) (Nat.le_of_ble_eq_true rfl) rfl ?_
  show zSm g l cX5_asked 1 RX5 "asked" (some .int) 0 0 zrI 0 [(0, .ref v0)] [] (dn_X5_asked v0)
  unfold dn_X5_asked
  refine z_rec ?_
  refine z_aload_n (j := 0) (q := 1) (by decide +kernel) rfl 0 rfl ?_
  refine z_getI (q := 4) zf_RX5_90 (by decide +kernel) rfl fun x1 => ?_
  exact z_iret (by decide +kernel)
theorem rc_X5_asked (v0 : Nat) : ∀ h x, dn_X5_asked v0 h = some x → ∃ fs, zgO 5 v0 h = some fs := fun h x hd => by
  obtain ⟨fs, e, -⟩ := Option.bind_eq_some_iff.mp hd
  exact ⟨fs, e⟩
def jn_X5_fraction_31 (v0 : Nat) (v1 : Int64) (v3 : Int64) (v5 : Int32) (v6 : Int64) : zAH → Option (Int32 × zAH) := fun h => if v6 = 0 then none else (zpF 5 3 v0 (.long (v1 / v6)) h).bind fun h1 => if v6 = 0 then none else (zpF 5 4 v0 (.long (v3 / v6)) h1).bind fun h2 => some (v5, h2)
theorem sj_X5_fraction_31 (g : zG) (l : Launch) (v0 : Nat) (v1 : Int64) (v3 : Int64) (v5 : Int32) (v6 : Int64) : zSm g l cX5_fraction 12 RX5 "fraction" (some .int) 0 0 zrI 31 [(0, .ref v0), (1, .long v1), (3, .long v3), (5, .int v5), (6, .long v6)] [] (jn_X5_fraction_31 v0 v1 v3 v5 v6) := by
  unfold jn_X5_fraction_31
  refine z_aload_n (j := 0) (q := 32) (by decide +kernel) rfl 0 rfl ?_
  refine z_lload_n (j := 1) (q := 33) (by decide +kernel) rfl 1 rfl ?_
  refine z_lload (j := 6) (q := 35) (by decide +kernel) rfl 4 rfl ?_
  refine z_ldiv (q := 36) (by decide +kernel) rfl ?_
  refine z_putV (q := 39) zp_RX5_93 (fun z => by cases z) rfl rfl (by decide +kernel) rfl ?_
  refine z_aload_n (j := 0) (q := 40) (by decide +kernel) rfl 0 rfl ?_
  refine z_lload_n (j := 3) (q := 41) (by decide +kernel) rfl 2 rfl ?_
  refine z_lload (j := 6) (q := 43) (by decide +kernel) rfl 4 rfl ?_
  refine z_ldiv (q := 44) (by decide +kernel) rfl ?_
  refine z_putV (q := 47) zp_RX5_78 (fun z => by cases z) rfl rfl (by decide +kernel) rfl ?_
  refine z_iload (j := 5) (q := 49) (by decide +kernel) rfl 3 rfl ?_
  exact z_iret (by decide +kernel)
def lb_X5_fraction_6 (v0 : Nat) (v1 : Int64) (v3 : Int64) (v5 : Int32) (rec : (Int64 × Int64) → zAH → Option (Int32 × zAH)) (s : Int64 × Int64) : zAH → Option (Int32 × zAH) := fun h => if (lg_cmp s.2 0) = 0 then jn_X5_fraction_31 v0 v1 v3 v5 s.1 h else if s.2 = 0 then none else rec (s.2, s.1 % s.2) h
def lp_X5_fraction_6 (v0 : Nat) (v1 : Int64) (v3 : Int64) (v5 : Int32) (s : Int64 × Int64) : zAH → Option (Int32 × zAH) := zlp (lb_X5_fraction_6 v0 v1 v3 v5) 2000 s
theorem sl_X5_fraction_6 (g : zG) (l : Launch) (v0 : Nat) (v1 : Int64) (v3 : Int64) (v5 : Int32) (s : Int64 × Int64) : zSm g l cX5_fraction 12 RX5 "fraction" (some .int) 0 0 zrI 6 [(0, .ref v0), (1, .long v1), (3, .long v3), (5, .int v5), (6, .long s.1), (8, .long s.2)] [] (lp_X5_fraction_6 v0 v1 v3 v5 s) := by
  unfold lp_X5_fraction_6
  refine z_loop (lvf := fun s => [(0, .ref v0), (1, .long v1), (3, .long v3), (5, .int v5), (6, .long s.1), (8, .long s.2)]) (fun rec hrec s => ?_) 2000 s
  unfold lb_X5_fraction_6
  refine z_lload (j := 8) (q := 8) (by decide +kernel) rfl 5 rfl ?_
  refine z_lconst (n := 0) (v := 0) (q := 9) (by decide +kernel) rfl (by decide) ?_
  refine z_lcmp (q := 10) (by decide +kernel) rfl ?_
  refine z_if_eq (off := 21) (t := 31) (q := 13) (by decide +kernel) (by decide) rfl ?_ ?_
  · refine zsub [0, 1, 2, 3, 4] rfl ?_
    exact sj_X5_fraction_31 g l v0 v1 v3 v5 s.1
  · refine z_lload (j := 6) (q := 15) (by decide +kernel) rfl 4 rfl ?_
    refine z_lload (j := 8) (q := 17) (by decide +kernel) rfl 5 rfl ?_
    refine z_lrem (q := 18) (by decide +kernel) rfl ?_
    refine z_lstore (j := 10) (q := 20) (by decide +kernel) rfl (by decide) rfl ?_
    refine z_lload (j := 8) (q := 22) (by decide +kernel) rfl 6 rfl ?_
    refine z_lstore (j := 6) (q := 24) (by decide +kernel) rfl (by decide) rfl ?_
    refine z_lload (j := 10) (q := 26) (by decide +kernel) rfl 1 rfl ?_
    refine z_lstore (j := 8) (q := 28) (by decide +kernel) rfl (by decide) rfl ?_
    refine z_goto (off := (-22)) (t := 6) (by decide +kernel) (by decide) ?_
    refine zsub [3, 4, 5, 6, 1, 0] rfl ?_
    exact hrec (s.2, s.1 % s.2)
def dn_X5_fraction (v0 : Nat) (v1 : Int64) (v3 : Int64) (v5 : Int32) : zAH → Option (Int32 × zAH) := fun h => (zgO 5 v0 h).bind fun _ => lp_X5_fraction_6 v0 v1 v3 v5 (v1, v3) h
theorem ct_X5_fraction (g : zG) (l : Launch) (v0 : Nat) (v1 : Int64) (v3 : Int64) (v5 : Int32) : zCt g l yX5_fraction cX5_fraction 12 (some .int) 0 0 zrI [.ref v0, .long v1, .long v3, .int v5] (dn_X5_fraction v0 v1 v3 v5) := by
  refine zCt_of (lv := [(0, .ref v0), (1, .long v1), (3, .long v3), (5, .int v5)]) (by decide +kernel) (Nat.le_of_ble_eq_true rfl) rfl ?_
  show zSm g l cX5_fraction 12 RX5 "fraction" (some .int) 0 0 zrI 0 [(0, .ref v0), (1, .long v1), (3, .long v3), (5, .int v5)] [] (dn_X5_fraction v0 v1 v3 v5)
  unfold dn_X5_fraction
  refine z_rec ?_
  refine z_lload_n (j := 1) (q := 1) (by decide +kernel) rfl 1 rfl ?_
  refine z_lstore (j := 6) (q := 3) (by decide +kernel) rfl (by decide) rfl ?_
  refine z_lload_n (j := 3) (q := 4) (by decide +kernel) rfl 3 rfl ?_
  refine z_lstore (j := 8) (q := 6) (by decide +kernel) rfl (by decide) rfl ?_
  refine zsub [2, 3, 4, 5, 1, 0] rfl ?_
  exact sl_X5_fraction_6 g l v0 v1 v3 v5 (v1, v3)
theorem rc_X5_fraction (v0 : Nat) (v1 : Int64) (v3 : Int64) (v5 : Int32) : ∀ h x, dn_X5_fraction v0 v1 v3 v5 h = some x → ∃ fs, zgO 5 v0 h = some fs := fun h x hd => by
  obtain ⟨fs, e, -⟩ := Option.bind_eq_some_iff.mp hd
  exact ⟨fs, e⟩
def dn_X5_upper (v0 : Nat) : zAH → Option (Int64 × zAH) := fun h => (zgO 5 v0 h).bind fun _ => (zgL 5 3 v0 h).bind fun x1 => some (x1, h)
theorem ct_X5_upper (g : zG) (l : Launch) (v0 : Nat) : zCt g l yX5_upper cX5_upper 1 (some .long) 0 0 zrL [.ref v0] (dn_X5_upper v0) := by
  refine zCt_of (lv := [(0, .ref v0)]) (by decide +kernel) (Nat.le_of_ble_eq_true rfl) rfl ?_
  show zSm g l cX5_upper 1 RX5 "upper" (some .long) 0 0 zrL 0 [(0, .ref v0)] [] (dn_X5_upper v0)
  unfold dn_X5_upper
  refine z_rec ?_
  refine z_aload_n (j := 0) (q := 1) (by decide +kernel) rfl 0 rfl ?_
  refine z_getL (q := 4) zf_RX5_93 (by decide +kernel) rfl fun x1 => ?_
  exact z_lret (by decide +kernel)
theorem rc_X5_upper (v0 : Nat) : ∀ h x, dn_X5_upper v0 h = some x → ∃ fs, zgO 5 v0 h = some fs := fun h x hd => by
  obtain ⟨fs, e, -⟩ := Option.bind_eq_some_iff.mp hd
  exact ⟨fs, e⟩
def dn_X5_lower (v0 : Nat) : zAH → Option (Int64 × zAH) := fun h => (zgO 5 v0 h).bind fun _ => (zgL 5 4 v0 h).bind fun x1 => some (x1, h)
theorem ct_X5_lower (g : zG) (l : Launch) (v0 : Nat) : zCt g l yX5_lower cX5_lower 1 (some .long) 0 0 zrL [.ref v0] (dn_X5_lower v0) := by
  refine zCt_of (lv := [(0, .ref v0)]) (by decide +kernel) (Nat.le_of_ble_eq_true rfl) rfl ?_
  show zSm g l cX5_lower 1 RX5 "lower" (some .long) 0 0 zrL 0 [(0, .ref v0)] [] (dn_X5_lower v0)
  unfold dn_X5_lower
  refine z_rec ?_
  refine z_aload_n (j := 0) (q := 1) (by decide +kernel) rfl 0 rfl ?_
  refine z_getL (q := 4) zf_RX5_78 (by decide +kernel) rfl fun x1 => ?_
  exact z_lret (by decide +kernel)
theorem rc_X5_lower (v0 : Nat) : ∀ h x, dn_X5_lower v0 h = some x → ∃ fs, zgO 5 v0 h = some fs := fun h x hd => by
  obtain ⟨fs, e, -⟩ := Option.bind_eq_some_iff.mp hd
  exact ⟨fs, e⟩
def dn_X5_isRow (v0 : Int32) : zAH → Option (Int32 × zAH) := fun h => zbd (dn_X5_in v0 0 5 h) fun x1 h2 => if x1 = 0 ∨ x1 = 1 then some (x1, h2) else none
theorem ct_X5_isRow (g : zG) (l : Launch) (v0 : Int32) : zCt g l yX5_isRow cX5_isRow 1 (some .boolean) 1 22 zrI [.int v0] (dn_X5_isRow v0) := by
  refine zCt_of (lv := [(0, .int v0)]) (by decide +kernel) (Nat.le_of_ble_eq_true rfl) rfl ?_
  show zSm g l cX5_isRow 1 RX5 "isRow" (some .boolean) 1 22 zrI 0 [(0, .int v0)] [] (dn_X5_isRow v0)
  unfold dn_X5_isRow
  refine z_iload_n (j := 0) (q := 1) (by decide +kernel) rfl 0 rfl ?_
  refine z_iconst (n := 0) (v := 0) (q := 2) (by decide +kernel) rfl (by decide) ?_
  refine z_iconst (n := 5) (v := 5) (q := 3) (by decide +kernel) rfl (by decide) ?_
  refine z_callSI (As := [.int v0, .int 0, .int 5]) (st := []) (q := 6) (ct_X5_in g l v0 0 5) zm_RX5_86 rfl (by decide) (by decide) (Nat.le_of_ble_eq_true rfl) rfl (by decide +kernel) rfl fun x1 => ?_
  exact z_zret (by decide +kernel)
def dn_X5_rowAt (v0 : Nat) (v1 : Int32) (v2 : Int32) : zAH → Option (Int32 × zAH) := fun h => (zgO 5 v0 h).bind fun _ => (zgA 5 6 v0 h).bind fun x1 => (zaI 0 x1 ((60 * v1) + v2) h).bind fun x2 => some (x2, h)
theorem ct_X5_rowAt (g : zG) (l : Launch) (v0 : Nat) (v1 : Int32) (v2 : Int32) : zCt g l yX5_rowAt cX5_rowAt 3 (some .int) 0 0 zrI [.ref v0, .int v1, .int v2] (dn_X5_rowAt v0 v1 v2) := by
  refine zCt_of (lv := [(0, .ref v0), (1, .int v1), (2, .int v2)]) (by decide +kernel) (Nat.le_of_ble_eq_true rfl) rfl ?_
  show zSm g l cX5_rowAt 3 RX5 "rowAt" (some .int) 0 0 zrI 0 [(0, .ref v0), (1, .int v1), (2, .int v2)] [] (dn_X5_rowAt v0 v1 v2)
  unfold dn_X5_rowAt
  refine z_rec ?_
  refine z_aload_n (j := 0) (q := 1) (by decide +kernel) rfl 0 rfl ?_
  refine z_getA (q := 4) zf_RX5_16 (by decide +kernel) rfl fun x1 => ?_
  refine z_bipush (n := 60) (v := 60) (q := 6) (by decide +kernel) rfl (by decide) ?_
  refine z_iload_n (j := 1) (q := 7) (by decide +kernel) rfl 1 rfl ?_
  refine z_imul (q := 8) (by decide +kernel) rfl ?_
  refine z_iload_n (j := 2) (q := 9) (by decide +kernel) rfl 2 rfl ?_
  refine z_iadd (q := 10) (by decide +kernel) rfl ?_
  refine z_iald (q := 11) (Or.inl ⟨rfl, rfl⟩) (by decide +kernel) rfl fun x2 => ?_
  exact z_iret (by decide +kernel)
theorem rc_X5_rowAt (v0 : Nat) (v1 : Int32) (v2 : Int32) : ∀ h x, dn_X5_rowAt v0 v1 v2 h = some x → ∃ fs, zgO 5 v0 h = some fs := fun h x hd => by
  obtain ⟨fs, e, -⟩ := Option.bind_eq_some_iff.mp hd
  exact ⟨fs, e⟩
