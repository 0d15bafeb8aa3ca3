def jn_X5_layPact_83 (kc18 : Int32 → zAH → Option (Unit × zAH)) (v0 : Nat) (v1 : Int32) (v2 : Int32) (v3 : Int32) (v4 : Int32) (v5 : Int32) : zAH → Option (Unit × zAH) := fun h => kc18 (v5 + 1) h
theorem sj_X5_layPact_83 (g : zG) (l : Launch) (kc18 : Int32 → zAH → Option (Unit × zAH)) (v0 : Nat) (v1 : Int32) (v2 : Int32) (v3 : Int32) (v4 : Int32) (v5 : Int32) (hkc18 : ∀ s, zSm g l cX5_layPact 6 RX5 "layPact" none 7 154 zrV 18 [(0, .ref v0), (1, .int v1), (2, .int v2), (3, .int v3), (4, .int v4), (5, .int s)] [] (kc18 s)) : zSm g l cX5_layPact 6 RX5 "layPact" none 7 154 zrV 83 [(0, .ref v0), (1, .int v1), (2, .int v2), (3, .int v3), (4, .int v4), (5, .int v5)] [] (jn_X5_layPact_83 kc18 v0 v1 v2 v3 v4 v5) := by
  unfold jn_X5_layPact_83
  refine z_iinc (j := 5) (n := 1) (v := 1) (q := 86) (by decide +kernel) rfl 5 rfl (by decide) (by decide) rfl ?_
  refine z_goto (off := (-68)) (t := 18) (by decide +kernel) (by decide) ?_
  refine zsub [1, 2, 3, 4, 5, 0] rfl ?_
  exact hkc18 (v5 + 1)
def jn_X5_layPact_70 (kc18 : Int32 → zAH → Option (Unit × zAH)) (v0 : Nat) (v1 : Int32) (v2 : Int32) (v3 : Int32) (v4 : Int32) (v5 : Int32) (w0 : Nat) (w1 : Int32) : zAH → Option (Unit × zAH) := fun h => (zpF 5 34 w0 (.int w1) h).bind fun h1 => (zgI 5 35 v0 h1).bind fun x2 => (zpF 5 35 v0 (.int (x2 + 1)) h1).bind fun h3 => jn_X5_layPact_83 kc18 v0 v1 v2 v3 v4 v5 h3
theorem sj_X5_layPact_70 (g : zG) (l : Launch) (kc18 : Int32 → zAH → Option (Unit × zAH)) (v0 : Nat) (v1 : Int32) (v2 : Int32) (v3 : Int32) (v4 : Int32) (v5 : Int32) (w0 : Nat) (w1 : Int32) (hkc18 : ∀ s, zSm g l cX5_layPact 6 RX5 "layPact" none 7 154 zrV 18 [(0, .ref v0), (1, .int v1), (2, .int v2), (3, .int v3), (4, .int v4), (5, .int s)] [] (kc18 s)) : zSm g l cX5_layPact 6 RX5 "layPact" none 7 154 zrV 70 [(0, .ref v0), (1, .int v1), (2, .int v2), (3, .int v3), (4, .int v4), (5, .int v5)] [.int w1, .ref w0] (jn_X5_layPact_70 kc18 v0 v1 v2 v3 v4 v5 w0 w1) := by
  unfold jn_X5_layPact_70
  refine z_putV (q := 73) zp_RX5_266 (fun z => by cases z) rfl rfl (by decide +kernel) rfl ?_
  refine z_aload_n (j := 0) (q := 74) (by decide +kernel) rfl 0 rfl ?_
  refine z_dup (q := 75) (by decide +kernel) rfl rfl ?_
  refine z_getI (q := 78) zf_RX5_269 (by decide +kernel) rfl fun x2 => ?_
  refine z_iconst (n := 1) (v := 1) (q := 79) (by decide +kernel) rfl (by decide) ?_
  refine z_iadd (q := 80) (by decide +kernel) rfl ?_
  refine z_putV (q := 83) zp_RX5_269 (fun z => by cases z) rfl rfl (by decide +kernel) rfl ?_
  refine zsub [0, 1, 2, 3, 4, 5] rfl ?_
  exact sj_X5_layPact_83 g l kc18 v0 v1 v2 v3 v4 v5 hkc18
def jn_X5_layPact_89 (v0 : Nat) : zAH → Option (Unit × zAH) := fun h => zbd (dn_X5_noChoices v0 h) fun x1 h2 => some ((), h2)
theorem sj_X5_layPact_89 (g : zG) (l : Launch) (v0 : Nat) : zSm g l cX5_layPact 6 RX5 "layPact" none 7 154 zrV 89 [(0, .ref v0)] [] (jn_X5_layPact_89 v0) := by
  unfold jn_X5_layPact_89
  refine z_aload_n (j := 0) (q := 90) (by decide +kernel) rfl 0 rfl ?_
  refine z_callVU (As := []) (st := []) (q := 93) (ct_X5_noChoices g l v0) zm_RX5_224 (rc_X5_noChoices v0) rfl (by decide) (by decide) (Nat.le_of_ble_eq_true rfl) rfl (by decide +kernel) rfl fun x1 => ?_
  exact z_vret (by decide +kernel)
def lb_X5_layPact_18 (v0 : Nat) (v1 : Int32) (v2 : Int32) (v3 : Int32) (v4 : Int32) (rec : (Int32) → zAH → Option (Unit × zAH)) (s : Int32) : zAH → Option (Unit × zAH) := fun h => zbd (dn_X5_powerOf 16 v4 h) fun x1 h2 => if s < x1 then zbd (dn_X5_layBoth v0 v1 v2 v4 s h2) fun x3 h4 => zbd (dn_X5_layEnd v0 h4) fun x5 h6 => zbd (dn_X5_v v0 1 h6) fun x7 h8 => if x7 = v3 then (zgI 5 35 v0 h8).bind fun x9 => if x9 = 0 then jn_X5_layPact_70 rec v0 v1 v2 v3 v4 s v0 s h8 else (zgI 5 34 v0 h8).bind fun x10 => jn_X5_layPact_70 rec v0 v1 v2 v3 v4 s v0 x10 h8 else jn_X5_layPact_83 rec v0 v1 v2 v3 v4 s h8 else jn_X5_layPact_89 v0 h2
def lp_X5_layPact_18 (v0 : Nat) (v1 : Int32) (v2 : Int32) (v3 : Int32) (v4 : Int32) (s : Int32) : zAH → Option (Unit × zAH) := zlp (lb_X5_layPact_18 v0 v1 v2 v3 v4) 2000 s
theorem sl_X5_layPact_18 (g : zG) (l : Launch) (v0 : Nat) (v1 : Int32) (v2 : Int32) (v3 : Int32) (v4 : Int32) (s : Int32) : zSm g l cX5_layPact 6 RX5 "layPact" none 7 154 zrV 18 [(0, .ref v0), (1, .int v1), (2, .int v2), (3, .int v3), (4, .int v4), (5, .int s)] [] (lp_X5_layPact_18 v0 v1 v2 v3 v4 s) := by
  unfold lp_X5_layPact_18
  refine z_loop (lvf := fun s => [(0, .ref v0), (1, .int v1), (2, .int v2), (3, .int v3), (4, .int v4), (5, .int s)]) (fun rec hrec s => ?_) 2000 s
  unfold lb_X5_layPact_18
  refine z_iload (j := 5) (q := 20) (by decide +kernel) rfl 5 rfl ?_
  refine z_bipush (n := 16) (v := 16) (q := 22) (by decide +kernel) rfl (by decide) ?_
  refine z_iload (j := 4) (q := 24) (by decide +kernel) rfl 4 rfl ?_
  refine z_callSI (As := [.int 16, .int v4]) (st := [.int s]) (q := 27) (ct_X5_powerOf g l 16 v4) zm_RX5_252 rfl (by decide) (by decide) (Nat.le_of_ble_eq_true rfl) rfl (by decide +kernel) rfl fun x1 => ?_
  refine z_icmp_ge (off := 62) (t := 89) (q := 30) (by decide +kernel) (by decide) rfl ?_ ?_
  · refine zsub [0] rfl ?_
    exact sj_X5_layPact_89 g l v0
  · refine z_aload_n (j := 0) (q := 31) (by decide +kernel) rfl 0 rfl ?_
    refine z_iload_n (j := 1) (q := 32) (by decide +kernel) rfl 1 rfl ?_
    refine z_iload_n (j := 2) (q := 33) (by decide +kernel) rfl 2 rfl ?_
    refine z_iload (j := 4) (q := 35) (by decide +kernel) rfl 4 rfl ?_
    refine z_iload (j := 5) (q := 37) (by decide +kernel) rfl 5 rfl ?_
    refine z_callVU (As := [.int v1, .int v2, .int v4, .int s]) (st := []) (q := 40) (ct_X5_layBoth g l v0 v1 v2 v4 s) zm_RX5_262 (rc_X5_layBoth v0 v1 v2 v4 s) rfl (by decide) (by decide) (Nat.le_of_ble_eq_true rfl) rfl (by decide +kernel) rfl fun x3 => ?_
    refine z_aload_n (j := 0) (q := 41) (by decide +kernel) rfl 0 rfl ?_
    refine z_callVU (As := []) (st := []) (q := 44) (ct_X5_layEnd g l v0) zm_RX5_243 (rc_X5_layEnd v0) rfl (by decide) (by decide) (Nat.le_of_ble_eq_true rfl) rfl (by decide +kernel) rfl fun x5 => ?_
    refine z_aload_n (j := 0) (q := 45) (by decide +kernel) rfl 0 rfl ?_
    refine z_iconst (n := 1) (v := 1) (q := 46) (by decide +kernel) rfl (by decide) ?_
    refine z_callVI (As := [.int 1]) (st := []) (q := 49) (ct_X5_v g l v0 1) zm_RX5_190 (rc_X5_v v0 1) rfl (by decide) (by decide) (Nat.le_of_ble_eq_true rfl) rfl (by decide +kernel) rfl fun x7 => ?_
    refine z_iload_n (j := 3) (q := 50) (by decide +kernel) rfl 3 rfl ?_
    refine z_icmp_ne (off := 33) (t := 83) (q := 53) (by decide +kernel) (by decide) rfl ?_ ?_
    · refine zsub [0, 1, 2, 3, 4, 5] rfl ?_
      exact sj_X5_layPact_83 g l rec v0 v1 v2 v3 v4 s hrec
    · refine z_aload_n (j := 0) (q := 54) (by decide +kernel) rfl 0 rfl ?_
      refine z_aload_n (j := 0) (q := 55) (by decide +kernel) rfl 0 rfl ?_
      refine z_getI (q := 58) zf_RX5_269 (by decide +kernel) rfl fun x9 => ?_
      refine z_if_ne (off := 8) (t := 66) (q := 61) (by decide +kernel) (by decide) rfl ?_ ?_
      · refine z_aload_n (j := 0) (q := 67) (by decide +kernel) rfl 0 rfl ?_
        refine z_getI (q := 70) zf_RX5_266 (by decide +kernel) rfl fun x10 => ?_
        refine zsub [0, 1, 2, 3, 4, 5] rfl ?_
        exact sj_X5_layPact_70 g l rec v0 v1 v2 v3 v4 s v0 x10 hrec
      · refine z_iload (j := 5) (q := 63) (by decide +kernel) rfl 5 rfl ?_
        refine z_goto (off := 7) (t := 70) (by decide +kernel) (by decide) ?_
        refine zsub [0, 1, 2, 3, 4, 5] rfl ?_
        exact sj_X5_layPact_70 g l rec v0 v1 v2 v3 v4 s v0 s hrec
def dn_X5_layPact (v0 : Nat) (v1 : Int32) (v2 : Int32) (v3 : Int32) (v4 : Int32) : zAH → Option (Unit × zAH) := fun h => (zgO 5 v0 h).bind fun _ => zbd (dn_X5_choicesBegin v0 h) fun x1 h2 => (zpF 5 34 v0 (.int ((-9))) h2).bind fun h3 => (zpF 5 35 v0 (.int 0) h3).bind fun h4 => lp_X5_layPact_18 v0 v1 v2 v3 v4 0 h4
theorem ct_X5_layPact (g : zG) (l : Launch) (v0 : Nat) (v1 : Int32) (v2 : Int32) (v3 : Int32) (v4 : Int32) : zCt g l yX5_layPact cX5_layPact 6 none 7 154 zrV [.ref v0, .int v1, .int v2, .int v3, .int v4] (dn_X5_layPact v0 v1 v2 v3 v4) := by
  refine zCt_of (lv := [(0, .ref v0), (1, .int v1), (2, .int v2), (3, .int v3), (4, .int v4)]) (by decide +kernel) (Nat.le_of_ble_eq_true rfl) rfl ?_
  show zSm g l cX5_layPact 6 RX5 "layPact" none 7 154 zrV 0 [(0, .ref v0), (1, .int v1), (2, .int v2), (3, .int v3), (4, .int v4)] [] (dn_X5_layPact v0 v1 v2 v3 v4)
  unfold dn_X5_layPact
  refine z_rec ?_
  refine z_aload_n (j := 0) (q := 1) (by decide +kernel) rfl 0 rfl ?_
  refine z_callVU (As := []) (st := []) (q := 4) (ct_X5_choicesBegin g l v0) zm_RX5_249 (rc_X5_choicesBegin v0) rfl (by decide) (by decide) (Nat.le_of_ble_eq_true rfl) rfl (by decide +kernel) rfl fun x1 => ?_
  refine z_aload_n (j := 0) (q := 5) (by decide +kernel) rfl 0 rfl ?_
  refine z_bipush (n := (-9)) (v := (-9)) (q := 7) (by decide +kernel) rfl (by decide) ?_
  refine z_putV (q := 10) zp_RX5_266 (fun z => by cases z) rfl rfl (by decide +kernel) rfl ?_
  refine z_aload_n (j := 0) (q := 11) (by decide +kernel) rfl 0 rfl ?_
  refine z_iconst (n := 0) (v := 0) (q := 12) (by decide +kernel) rfl (by decide) ?_
  refine z_putV (q := 15) zp_RX5_269 (fun z => by cases z) rfl rfl (by decide +kernel) rfl ?_
  refine z_iconst (n := 0) (v := 0) (q := 16) (by decide +kernel) rfl (by decide) ?_
  refine z_istore (j := 5) (q := 18) (by decide +kernel) rfl (by decide) rfl ?_
  refine zsub [1, 2, 3, 4, 5, 0] rfl ?_
  exact sl_X5_layPact_18 g l v0 v1 v2 v3 v4 0
theorem rc_X5_layPact (v0 : Nat) (v1 : Int32) (v2 : Int32) (v3 : Int32) (v4 : Int32) : ∀ h x, dn_X5_layPact v0 v1 v2 v3 v4 h = some x → ∃ fs, zgO 5 v0 h = some fs := fun h x hd => by
  obtain ⟨fs, e, -⟩ := Option.bind_eq_some_iff.mp hd
  exact ⟨fs, e⟩
def jn_X5_pact_49 : zAH → Option (Int32 × zAH) := fun h => some ((-1), h)
theorem sj_X5_pact_49 (g : zG) (l : Launch) : zSm g l cX5_pact 5 RX5 "pact" (some .int) 8 179 zrI 49 [] [] (jn_X5_pact_49) := by
  unfold jn_X5_pact_49
  refine z_iconst (n := (-1)) (v := (-1)) (q := 50) (by decide +kernel) rfl (by decide) ?_
  exact z_iret (by decide +kernel)
def jn_X5_pact_86 (w0 : Int32) : zAH → Option (Int32 × zAH) := fun h => some (w0, h)
theorem sj_X5_pact_86 (g : zG) (l : Launch) (w0 : Int32) : zSm g l cX5_pact 5 RX5 "pact" (some .int) 8 179 zrI 86 [] [.int w0] (jn_X5_pact_86 w0) := by
  unfold jn_X5_pact_86
  exact z_iret (by decide +kernel)
def dn_X5_pact (v0 : Nat) (v1 : Int32) (v2 : Int32) (v3 : Int32) (v4 : Int32) : zAH → Option (Int32 × zAH) := fun h => (zgO 5 v0 h).bind fun _ => zbd (dn_X5_isRunner v0 v1 h) fun x1 h2 => if x1 = 0 then jn_X5_pact_49 h2 else zbd (dn_X5_isRunner v0 v2 h2) fun x3 h4 => if x3 = 0 then jn_X5_pact_49 h4 else zbd (dn_X5_isRunner v0 v3 h4) fun x5 h6 => if x5 = 0 then jn_X5_pact_49 h6 else if v1 = v2 then jn_X5_pact_49 h6 else if v1 = v3 then jn_X5_pact_49 h6 else if v2 = v3 then jn_X5_pact_49 h6 else zbd (dn_X5_in v4 1 2 h6) fun x7 h8 => if x7 = 0 then jn_X5_pact_49 h8 else zbd (dn_X5_layPact v0 v1 v2 v3 v4 h8) fun x9 h10 => (zgI 5 34 v0 h10).bind fun x11 => if x11 = ((-9)) then jn_X5_pact_86 ((-9)) h10 else (zgI 5 35 v0 h10).bind fun x12 => (zgI 5 34 v0 h10).bind fun x13 => zbd (dn_X5_tells v0 x12 x13 h10) fun x14 h15 => jn_X5_pact_86 x14 h15
theorem ct_X5_pact (g : zG) (l : Launch) (v0 : Nat) (v1 : Int32) (v2 : Int32) (v3 : Int32) (v4 : Int32) : zCt g l yX5_pact cX5_pact 5 (some .int) 8 179 zrI [.ref v0, .int v1, .int v2, .int v3, .int v4] (dn_X5_pact v0 v1 v2 v3 v4) := by
  refine zCt_of (lv := [(0, .ref v0), (1, .int v1), (2, .int v2), (3, .int v3), (4, .int v4)]) (by decide +kernel) (Nat.le_of_ble_eq_true rfl) rfl ?_
  show zSm g l cX5_pact 5 RX5 "pact" (some .int) 8 179 zrI 0 [(0, .ref v0), (1, .int v1), (2, .int v2), (3, .int v3), (4, .int v4)] [] (dn_X5_pact v0 v1 v2 v3 v4)
  unfold dn_X5_pact
  refine z_rec ?_
  refine z_aload_n (j := 0) (q := 1) (by decide +kernel) rfl 0 rfl ?_
  refine z_iload_n (j := 1) (q := 2) (by decide +kernel) rfl 1 rfl ?_
  refine z_callVI (As := [.int v1]) (st := []) (q := 5) (ct_X5_isRunner g l v0 v1) zm_RX5_160 (rc_X5_isRunner v0 v1) rfl (by decide) (by decide) (Nat.le_of_ble_eq_true rfl) rfl (by decide +kernel) rfl fun x1 => ?_
  refine z_if_eq (off := 44) (t := 49) (q := 8) (by decide +kernel) (by decide) rfl ?_ ?_
  · refine zsub [] rfl ?_
    exact sj_X5_pact_49 g l 
  · refine z_aload_n (j := 0) (q := 9) (by decide +kernel) rfl 0 rfl ?_
    refine z_iload_n (j := 2) (q := 10) (by decide +kernel) rfl 2 rfl ?_
    refine z_callVI (As := [.int v2]) (st := []) (q := 13) (ct_X5_isRunner g l v0 v2) zm_RX5_160 (rc_X5_isRunner v0 v2) rfl (by decide) (by decide) (Nat.le_of_ble_eq_true rfl) rfl (by decide +kernel) rfl fun x3 => ?_
    refine z_if_eq (off := 36) (t := 49) (q := 16) (by decide +kernel) (by decide) rfl ?_ ?_
    · refine zsub [] rfl ?_
      exact sj_X5_pact_49 g l 
    · refine z_aload_n (j := 0) (q := 17) (by decide +kernel) rfl 0 rfl ?_
      refine z_iload_n (j := 3) (q := 18) (by decide +kernel) rfl 3 rfl ?_
      refine z_callVI (As := [.int v3]) (st := []) (q := 21) (ct_X5_isRunner g l v0 v3) zm_RX5_160 (rc_X5_isRunner v0 v3) rfl (by decide) (by decide) (Nat.le_of_ble_eq_true rfl) rfl (by decide +kernel) rfl fun x5 => ?_
      refine z_if_eq (off := 28) (t := 49) (q := 24) (by decide +kernel) (by decide) rfl ?_ ?_
      · refine zsub [] rfl ?_
        exact sj_X5_pact_49 g l 
      · refine z_iload_n (j := 1) (q := 25) (by decide +kernel) rfl 1 rfl ?_
        refine z_iload_n (j := 2) (q := 26) (by decide +kernel) rfl 2 rfl ?_
        refine z_icmp_eq (off := 23) (t := 49) (q := 29) (by decide +kernel) (by decide) rfl ?_ ?_
        · refine zsub [] rfl ?_
          exact sj_X5_pact_49 g l 
        · refine z_iload_n (j := 1) (q := 30) (by decide +kernel) rfl 1 rfl ?_
          refine z_iload_n (j := 3) (q := 31) (by decide +kernel) rfl 3 rfl ?_
          refine z_icmp_eq (off := 18) (t := 49) (q := 34) (by decide +kernel) (by decide) rfl ?_ ?_
          · refine zsub [] rfl ?_
            exact sj_X5_pact_49 g l 
          · refine z_iload_n (j := 2) (q := 35) (by decide +kernel) rfl 2 rfl ?_
            refine z_iload_n (j := 3) (q := 36) (by decide +kernel) rfl 3 rfl ?_
            refine z_icmp_eq (off := 13) (t := 49) (q := 39) (by decide +kernel) (by decide) rfl ?_ ?_
            · refine zsub [] rfl ?_
              exact sj_X5_pact_49 g l 
            · refine z_iload (j := 4) (q := 41) (by decide +kernel) rfl 4 rfl ?_
              refine z_iconst (n := 1) (v := 1) (q := 42) (by decide +kernel) rfl (by decide) ?_
              refine z_iconst (n := 2) (v := 2) (q := 43) (by decide +kernel) rfl (by decide) ?_
              refine z_callSI (As := [.int v4, .int 1, .int 2]) (st := []) (q := 46) (ct_X5_in g l v4 1 2) zm_RX5_86 rfl (by decide) (by decide) (Nat.le_of_ble_eq_true rfl) rfl (by decide +kernel) rfl fun x7 => ?_
              refine z_if_ne (off := 5) (t := 51) (q := 49) (by decide +kernel) (by decide) rfl ?_ ?_
              · refine z_aload_n (j := 0) (q := 52) (by decide +kernel) rfl 0 rfl ?_
                refine z_iload_n (j := 1) (q := 53) (by decide +kernel) rfl 1 rfl ?_
                refine z_iload_n (j := 2) (q := 54) (by decide +kernel) rfl 2 rfl ?_
                refine z_iload_n (j := 3) (q := 55) (by decide +kernel) rfl 3 rfl ?_
                refine z_iload (j := 4) (q := 57) (by decide +kernel) rfl 4 rfl ?_
                refine z_callVU (As := [.int v1, .int v2, .int v3, .int v4]) (st := []) (q := 60) (ct_X5_layPact g l v0 v1 v2 v3 v4) zm_RX5_272 (rc_X5_layPact v0 v1 v2 v3 v4) rfl (by decide) (by decide) (Nat.le_of_ble_eq_true rfl) rfl (by decide +kernel) rfl fun x9 => ?_
                refine z_aload_n (j := 0) (q := 61) (by decide +kernel) rfl 0 rfl ?_
                refine z_getI (q := 64) zf_RX5_266 (by decide +kernel) rfl fun x11 => ?_
                refine z_bipush (n := (-9)) (v := (-9)) (q := 66) (by decide +kernel) rfl (by decide) ?_
                refine z_icmp_ne (off := 8) (t := 74) (q := 69) (by decide +kernel) (by decide) rfl ?_ ?_
                · refine z_aload_n (j := 0) (q := 75) (by decide +kernel) rfl 0 rfl ?_
                  refine z_aload_n (j := 0) (q := 76) (by decide +kernel) rfl 0 rfl ?_
                  refine z_getI (q := 79) zf_RX5_269 (by decide +kernel) rfl fun x12 => ?_
                  refine z_aload_n (j := 0) (q := 80) (by decide +kernel) rfl 0 rfl ?_
                  refine z_getI (q := 83) zf_RX5_266 (by decide +kernel) rfl fun x13 => ?_
                  refine z_callVI (As := [.int x12, .int x13]) (st := []) (q := 86) (ct_X5_tells g l v0 x12 x13) zm_RX5_108 (rc_X5_tells v0 x12 x13) rfl (by decide) (by decide) (Nat.le_of_ble_eq_true rfl) rfl (by decide +kernel) rfl fun x14 => ?_
                  refine zsub [] rfl ?_
                  exact sj_X5_pact_86 g l x14
                · refine z_bipush (n := (-9)) (v := (-9)) (q := 71) (by decide +kernel) rfl (by decide) ?_
                  refine z_goto (off := 15) (t := 86) (by decide +kernel) (by decide) ?_
                  refine zsub [] rfl ?_
                  exact sj_X5_pact_86 g l ((-9))
              · refine zsub [] rfl ?_
                exact sj_X5_pact_49 g l 
theorem rc_X5_pact (v0 : Nat) (v1 : Int32) (v2 : Int32) (v3 : Int32) (v4 : Int32) : ∀ h x, dn_X5_pact v0 v1 v2 v3 v4 h = some x → ∃ fs, zgO 5 v0 h = some fs := fun h x hd => by
  obtain ⟨fs, e, -⟩ := Option.bind_eq_some_iff.mp hd
  exact ⟨fs, e⟩
def jn_X5_worth_30 : zAH → Option (Int32 × zAH) := fun h => some ((-1), h)
theorem sj_X5_worth_30 (g : zG) (l : Launch) : zSm g l cX5_worth 7 RX5 "worth" (some .int) 8 179 zrI 30 [] [] (jn_X5_worth_30) := by
  unfold jn_X5_worth_30
  refine z_iconst (n := (-1)) (v := (-1)) (q := 31) (by decide +kernel) rfl (by decide) ?_
  exact z_iret (by decide +kernel)
def jn_X5_worth_110 (kc53 : (Int32 × Int32) → zAH → Option (Int32 × zAH)) (v0 : Nat) (v1 : Int32) (v2 : Int32) (v3 : Int32) (v4 : Int32) (v5 : Int32) (v6 : Int32) : zAH → Option (Int32 × zAH) := fun h => kc53 (v5, v6 + 1) h
theorem sj_X5_worth_110 (g : zG) (l : Launch) (kc53 : (Int32 × Int32) → zAH → Option (Int32 × zAH)) (v0 : Nat) (v1 : Int32) (v2 : Int32) (v3 : Int32) (v4 : Int32) (v5 : Int32) (v6 : Int32) (hkc53 : ∀ s, zSm g l cX5_worth 7 RX5 "worth" (some .int) 8 179 zrI 53 [(0, .ref v0), (1, .int v1), (2, .int v2), (3, .int v3), (4, .int v4), (5, .int s.1), (6, .int s.2)] [] (kc53 s)) : zSm g l cX5_worth 7 RX5 "worth" (some .int) 8 179 zrI 110 [(0, .ref v0), (1, .int v1), (2, .int v2), (3, .int v3), (4, .int v4), (5, .int v5), (6, .int v6)] [] (jn_X5_worth_110 kc53 v0 v1 v2 v3 v4 v5 v6) := by
  unfold jn_X5_worth_110
  refine z_iinc (j := 6) (n := 1) (v := 1) (q := 113) (by decide +kernel) rfl 6 rfl (by decide) (by decide) rfl ?_
  refine z_goto (off := (-60)) (t := 53) (by decide +kernel) (by decide) ?_
  refine zsub [1, 2, 3, 4, 5, 6, 0] rfl ?_
  exact hkc53 (v5, v6 + 1)
def jn_X5_worth_107 (kc53 : (Int32 × Int32) → zAH → Option (Int32 × zAH)) (v0 : Nat) (v1 : Int32) (v2 : Int32) (v3 : Int32) (v4 : Int32) (v6 : Int32) (w0 : Int32) (w1 : Int32) : zAH → Option (Int32 × zAH) := fun h => jn_X5_worth_110 kc53 v0 v1 v2 v3 v4 (w0 ||| w1) v6 h
theorem sj_X5_worth_107 (g : zG) (l : Launch) (kc53 : (Int32 × Int32) → zAH → Option (Int32 × zAH)) (v0 : Nat) (v1 : Int32) (v2 : Int32) (v3 : Int32) (v4 : Int32) (v6 : Int32) (w0 : Int32) (w1 : Int32) (hkc53 : ∀ s, zSm g l cX5_worth 7 RX5 "worth" (some .int) 8 179 zrI 53 [(0, .ref v0), (1, .int v1), (2, .int v2), (3, .int v3), (4, .int v4), (5, .int s.1), (6, .int s.2)] [] (kc53 s)) : zSm g l cX5_worth 7 RX5 "worth" (some .int) 8 179 zrI 107 [(0, .ref v0), (1, .int v1), (2, .int v2), (3, .int v3), (4, .int v4), (6, .int v6)] [.int w1, .int w0] (jn_X5_worth_107 kc53 v0 v1 v2 v3 v4 v6 w0 w1) := by
  unfold jn_X5_worth_107
  refine z_ior (q := 108) (by decide +kernel) rfl ?_
  refine z_istore (j := 5) (q := 110) (by decide +kernel) rfl (by decide) rfl ?_
  refine zsub [1, 2, 3, 4, 5, 0, 6] rfl ?_
  exact sj_X5_worth_110 g l kc53 v0 v1 v2 v3 v4 (w0 ||| w1) v6 hkc53
def jn_X5_worth_116 (v0 : Nat) (v5 : Int32) : zAH → Option (Int32 × zAH) := fun h => zbd (dn_X5_bits v5 h) fun x1 h2 => zbd (dn_X5_tells v0 v5 x1 h2) fun x3 h4 => some (x3, h4)
theorem sj_X5_worth_116 (g : zG) (l : Launch) (v0 : Nat) (v5 : Int32) : zSm g l cX5_worth 7 RX5 "worth" (some .int) 8 179 zrI 116 [(0, .ref v0), (5, .int v5)] [] (jn_X5_worth_116 v0 v5) := by
  unfold jn_X5_worth_116
  refine z_aload_n (j := 0) (q := 117) (by decide +kernel) rfl 0 rfl ?_
  refine z_iload (j := 5) (q := 119) (by decide +kernel) rfl 1 rfl ?_
  refine z_iload (j := 5) (q := 121) (by decide +kernel) rfl 1 rfl ?_
  refine z_callSI (As := [.int v5]) (st := [.int v5, .ref v0]) (q := 124) (ct_X5_bits g l v5) zm_RX5_275 rfl (by decide) (by decide) (Nat.le_of_ble_eq_true rfl) rfl (by decide +kernel) rfl fun x1 => ?_
  refine z_callVI (As := [.int v5, .int x1]) (st := []) (q := 127) (ct_X5_tells g l v0 v5 x1) zm_RX5_108 (rc_X5_tells v0 v5 x1) rfl (by decide) (by decide) (Nat.le_of_ble_eq_true rfl) rfl (by decide +kernel) rfl fun x3 => ?_
  exact z_iret (by decide +kernel)
def lb_X5_worth_53 (v0 : Nat) (v1 : Int32) (v2 : Int32) (v3 : Int32) (v4 : Int32) (rec : (Int32 × Int32) → zAH → Option (Int32 × zAH)) (s : Int32 × Int32) : zAH → Option (Int32 × zAH) := fun h => (zgI 5 12 v0 h).bind fun x1 => if s.2 < x1 then if s.2 = v1 then jn_X5_worth_110 rec v0 v1 v2 v3 v4 s.1 s.2 h else if s.2 = v2 then jn_X5_worth_110 rec v0 v1 v2 v3 v4 s.1 s.2 h else if s.2 = v4 then jn_X5_worth_110 rec v0 v1 v2 v3 v4 s.1 s.2 h else zbd (dn_X5_layPact v0 v1 v2 s.2 v3 h) fun x2 h3 => (zgI 5 35 v0 h3).bind fun x4 => if 0 < x4 then jn_X5_worth_107 rec v0 v1 v2 v3 v4 s.2 s.1 (1 <<< (s.2 &&& 31)) h3 else jn_X5_worth_107 rec v0 v1 v2 v3 v4 s.2 s.1 0 h3 else jn_X5_worth_116 v0 s.1 h
def lp_X5_worth_53 (v0 : Nat) (v1 : Int32) (v2 : Int32) (v3 : Int32) (v4 : Int32) (s : Int32 × Int32) : zAH → Option (Int32 × zAH) := zlp (lb_X5_worth_53 v0 v1 v2 v3 v4) 2000 s
theorem sl_X5_worth_53 (g : zG) (l : Launch) (v0 : Nat) (v1 : Int32) (v2 : Int32) (v3 : Int32) (v4 : Int32) (s : Int32 × Int32) : zSm g l cX5_worth 7 RX5 "worth" (some .int) 8 179 zrI 53 [(0, .ref v0), (1, .int v1), (2, .int v2), (3, .int v3), (4, .int v4), (5, .int s.1), (6, .int s.2)] [] (lp_X5_worth_53 v0 v1 v2 v3 v4 s) := by
  unfold lp_X5_worth_53
  refine z_loop (lvf := fun s => [(0, .ref v0), (1, .int v1), (2, .int v2), (3, .int v3), (4, .int v4), (5, .int s.1), (6, .int s.2)]) (fun rec hrec s => ?_) 2000 s
  unfold lb_X5_worth_53
  refine z_iload (j := 6) (q := 55) (by decide +kernel) rfl 6 rfl ?_
  refine z_aload_n (j := 0) (q := 56) (by decide +kernel) rfl 0 rfl ?_
  refine z_getI (q := 59) zf_RX5_147 (by decide +kernel) rfl fun x1 => ?_
  refine z_icmp_ge (off := 57) (t := 116) (q := 62) (by decide +kernel) (by decide) rfl ?_ ?_
  · refine zsub [0, 5] rfl ?_
    exact sj_X5_worth_116 g l v0 s.1
  · refine z_iload (j := 6) (q := 64) (by decide +kernel) rfl 6 rfl ?_
    refine z_iload_n (j := 1) (q := 65) (by decide +kernel) rfl 1 rfl ?_
    refine z_icmp_eq (off := 45) (t := 110) (q := 68) (by decide +kernel) (by decide) rfl ?_ ?_
    · refine zsub [0, 1, 2, 3, 4, 5, 6] rfl ?_
      exact sj_X5_worth_110 g l rec v0 v1 v2 v3 v4 s.1 s.2 hrec
    · refine z_iload (j := 6) (q := 70) (by decide +kernel) rfl 6 rfl ?_
      refine z_iload_n (j := 2) (q := 71) (by decide +kernel) rfl 2 rfl ?_
      refine z_icmp_eq (off := 39) (t := 110) (q := 74) (by decide +kernel) (by decide) rfl ?_ ?_
      · refine zsub [0, 1, 2, 3, 4, 5, 6] rfl ?_
        exact sj_X5_worth_110 g l rec v0 v1 v2 v3 v4 s.1 s.2 hrec
      · refine z_iload (j := 6) (q := 76) (by decide +kernel) rfl 6 rfl ?_
        refine z_iload (j := 4) (q := 78) (by decide +kernel) rfl 4 rfl ?_
        refine z_icmp_eq (off := 32) (t := 110) (q := 81) (by decide +kernel) (by decide) rfl ?_ ?_
        · refine zsub [0, 1, 2, 3, 4, 5, 6] rfl ?_
          exact sj_X5_worth_110 g l rec v0 v1 v2 v3 v4 s.1 s.2 hrec
        · refine z_aload_n (j := 0) (q := 82) (by decide +kernel) rfl 0 rfl ?_
          refine z_iload_n (j := 1) (q := 83) (by decide +kernel) rfl 1 rfl ?_
          refine z_iload_n (j := 2) (q := 84) (by decide +kernel) rfl 2 rfl ?_
          refine z_iload (j := 6) (q := 86) (by decide +kernel) rfl 6 rfl ?_
          refine z_iload_n (j := 3) (q := 87) (by decide +kernel) rfl 3 rfl ?_
          refine z_callVU (As := [.int v1, .int v2, .int s.2, .int v3]) (st := []) (q := 90) (ct_X5_layPact g l v0 v1 v2 s.2 v3) zm_RX5_272 (rc_X5_layPact v0 v1 v2 s.2 v3) rfl (by decide) (by decide) (Nat.le_of_ble_eq_true rfl) rfl (by decide +kernel) rfl fun x2 => ?_
          refine z_iload (j := 5) (q := 92) (by decide +kernel) rfl 5 rfl ?_
          refine z_aload_n (j := 0) (q := 93) (by decide +kernel) rfl 0 rfl ?_
          refine z_getI (q := 96) zf_RX5_269 (by decide +kernel) rfl fun x4 => ?_
          refine z_if_le (off := 10) (t := 106) (q := 99) (by decide +kernel) (by decide) rfl ?_ ?_
          · refine z_iconst (n := 0) (v := 0) (q := 107) (by decide +kernel) rfl (by decide) ?_
            refine zsub [0, 1, 2, 3, 4, 6] rfl ?_
            exact sj_X5_worth_107 g l rec v0 v1 v2 v3 v4 s.2 s.1 0 hrec
          · refine z_iconst (n := 1) (v := 1) (q := 100) (by decide +kernel) rfl (by decide) ?_
            refine z_iload (j := 6) (q := 102) (by decide +kernel) rfl 6 rfl ?_
            refine z_ishl (q := 103) (by decide +kernel) rfl ?_
            refine z_goto (off := 4) (t := 107) (by decide +kernel) (by decide) ?_
            refine zsub [0, 1, 2, 3, 4, 6] rfl ?_
            exact sj_X5_worth_107 g l rec v0 v1 v2 v3 v4 s.2 s.1 (1 <<< (s.2 &&& 31)) hrec
def dn_X5_worth (v0 : Nat) (v1 : Int32) (v2 : Int32) (v3 : Int32) : zAH → Option (Int32 × zAH) := fun h => (zgO 5 v0 h).bind fun _ => zbd (dn_X5_isRunner v0 v1 h) fun x1 h2 => if x1 = 0 then jn_X5_worth_30 h2 else zbd (dn_X5_isRunner v0 v2 h2) fun x3 h4 => if x3 = 0 then jn_X5_worth_30 h4 else if v1 = v2 then jn_X5_worth_30 h4 else zbd (dn_X5_in v3 1 2 h4) fun x5 h6 => if x5 = 0 then jn_X5_worth_30 h6 else zbd (dn_X5_noChoices v0 h6) fun x7 h8 => zbd (dn_X5_layEnd v0 h8) fun x9 h10 => zbd (dn_X5_v v0 1 h10) fun x11 h12 => lp_X5_worth_53 v0 v1 v2 v3 x11 (0, 0) h12
theorem ct_X5_worth (g : zG) (l : Launch) (v0 : Nat) (v1 : Int32) (v2 : Int32) (v3 : Int32) : zCt g l yX5_worth cX5_worth 7 (some .int) 8 179 zrI [.ref v0, .int v1, .int v2, .int v3] (dn_X5_worth v0 v1 v2 v3) := by
  refine zCt_of (lv := [(0, .ref v0), (1, .int v1), (2, .int v2), (3, .int v3)]) (by decide +kernel) (Nat.le_of_ble_eq_true rfl) rfl ?_
  show zSm g l cX5_worth 7 RX5 "worth" (some .int) 8 179 zrI 0 [(0, .ref v0), (1, .int v1), (2, .int v2), (3, .int v3)] [] (dn_X5_worth v0 v1 v2 v3)
  unfold dn_X5_worth
  refine z_rec ?_
  refine z_aload_n (j := 0) (q := 1) (by decide +kernel) rfl 0 rfl ?_
  refine z_iload_n (j := 1) (q := 2) (by decide +kernel) rfl 1 rfl ?_
  refine z_callVI (As := [.int v1]) (st := []) (q := 5) (ct_X5_isRunner g l v0 v1) zm_RX5_160 (rc_X5_isRunner v0 v1) rfl (by decide) (by decide) (Nat.le_of_ble_eq_true rfl) rfl (by decide +kernel) rfl fun x1 => ?_
  refine z_if_eq (off := 25) (t := 30) (q := 8) (by decide +kernel) (by decide) rfl ?_ ?_
  · refine zsub [] rfl ?_
    exact sj_X5_worth_30 g l 
  · refine z_aload_n (j := 0) (q := 9) (by decide +kernel) rfl 0 rfl ?_
    refine z_iload_n (j := 2) (q := 10) (by decide +kernel) rfl 2 rfl ?_
    refine z_callVI (As := [.int v2]) (st := []) (q := 13) (ct_X5_isRunner g l v0 v2) zm_RX5_160 (rc_X5_isRunner v0 v2) rfl (by decide) (by decide) (Nat.le_of_ble_eq_true rfl) rfl (by decide +kernel) rfl fun x3 => ?_
    refine z_if_eq (off := 17) (t := 30) (q := 16) (by decide +kernel) (by decide) rfl ?_ ?_
    · refine zsub [] rfl ?_
      exact sj_X5_worth_30 g l 
    · refine z_iload_n (j := 1) (q := 17) (by decide +kernel) rfl 1 rfl ?_
      refine z_iload_n (j := 2) (q := 18) (by decide +kernel) rfl 2 rfl ?_
      refine z_icmp_eq (off := 12) (t := 30) (q := 21) (by decide +kernel) (by decide) rfl ?_ ?_
      · refine zsub [] rfl ?_
        exact sj_X5_worth_30 g l 
      · refine z_iload_n (j := 3) (q := 22) (by decide +kernel) rfl 3 rfl ?_
        refine z_iconst (n := 1) (v := 1) (q := 23) (by decide +kernel) rfl (by decide) ?_
        refine z_iconst (n := 2) (v := 2) (q := 24) (by decide +kernel) rfl (by decide) ?_
        refine z_callSI (As := [.int v3, .int 1, .int 2]) (st := []) (q := 27) (ct_X5_in g l v3 1 2) zm_RX5_86 rfl (by decide) (by decide) (Nat.le_of_ble_eq_true rfl) rfl (by decide +kernel) rfl fun x5 => ?_
        refine z_if_ne (off := 5) (t := 32) (q := 30) (by decide +kernel) (by decide) rfl ?_ ?_
        · refine z_aload_n (j := 0) (q := 33) (by decide +kernel) rfl 0 rfl ?_
          refine z_callVU (As := []) (st := []) (q := 36) (ct_X5_noChoices g l v0) zm_RX5_224 (rc_X5_noChoices v0) rfl (by decide) (by decide) (Nat.le_of_ble_eq_true rfl) rfl (by decide +kernel) rfl fun x7 => ?_
          refine z_aload_n (j := 0) (q := 37) (by decide +kernel) rfl 0 rfl ?_
          refine z_callVU (As := []) (st := []) (q := 40) (ct_X5_layEnd g l v0) zm_RX5_243 (rc_X5_layEnd v0) rfl (by decide) (by decide) (Nat.le_of_ble_eq_true rfl) rfl (by decide +kernel) rfl fun x9 => ?_
          refine z_aload_n (j := 0) (q := 41) (by decide +kernel) rfl 0 rfl ?_
          refine z_iconst (n := 1) (v := 1) (q := 42) (by decide +kernel) rfl (by decide) ?_
          refine z_callVI (As := [.int 1]) (st := []) (q := 45) (ct_X5_v g l v0 1) zm_RX5_190 (rc_X5_v v0 1) rfl (by decide) (by decide) (Nat.le_of_ble_eq_true rfl) rfl (by decide +kernel) rfl fun x11 => ?_
          refine z_istore (j := 4) (q := 47) (by decide +kernel) rfl (by decide) rfl ?_
          refine z_iconst (n := 0) (v := 0) (q := 48) (by decide +kernel) rfl (by decide) ?_
          refine z_istore (j := 5) (q := 50) (by decide +kernel) rfl (by decide) rfl ?_
          refine z_iconst (n := 0) (v := 0) (q := 51) (by decide +kernel) rfl (by decide) ?_
          refine z_istore (j := 6) (q := 53) (by decide +kernel) rfl (by decide) rfl ?_
          refine zsub [3, 4, 5, 6, 2, 1, 0] rfl ?_
          exact sl_X5_worth_53 g l v0 v1 v2 v3 x11 (0, 0)
        · refine zsub [] rfl ?_
          exact sj_X5_worth_30 g l 
theorem rc_X5_worth (v0 : Nat) (v1 : Int32) (v2 : Int32) (v3 : Int32) : ∀ h x, dn_X5_worth v0 v1 v2 v3 h = some x → ∃ fs, zgO 5 v0 h = some fs := fun h x hd => by
  obtain ⟨fs, e, -⟩ := Option.bind_eq_some_iff.mp hd
  exact ⟨fs, e⟩
def dn_X5_layWhole (v0 : Nat) : zAH → Option (Unit × zAH) := fun h => (zgO 5 v0 h).bind fun _ => zbd (dn_X5_noChoices v0 h) fun x1 h2 => zbd (dn_X5_look v0 4 h2) fun x3 h4 => zbd (dn_X5_begins v0 h4) fun x5 h6 => some ((), h6)
theorem ct_X5_layWhole (g : zG) (l : Launch) (v0 : Nat) : zCt g l yX5_layWhole cX5_layWhole 1 none 3 66 zrV [.ref v0] (dn_X5_layWhole v0) := by
  refine zCt_of (lv := [(0, .ref v0)]) (by decide +kernel) (Nat.le_of_ble_eq_true rfl) rfl ?_
  show zSm g l cX5_layWhole 1 RX5 "layWhole" none 3 66 zrV 0 [(0, .ref v0)] [] (dn_X5_layWhole v0)
  unfold dn_X5_layWhole
  refine z_rec ?_
  refine z_aload_n (j := 0) (q := 1) (by decide +kernel) rfl 0 rfl ?_
  refine z_callVU (As := []) (st := []) (q := 4) (ct_X5_noChoices g l v0) zm_RX5_224 (rc_X5_noChoices v0) rfl (by decide) (by decide) (Nat.le_of_ble_eq_true rfl) rfl (by decide +kernel) rfl fun x1 => ?_
  refine z_aload_n (j := 0) (q := 5) (by decide +kernel) rfl 0 rfl ?_
  refine z_iconst (n := 4) (v := 4) (q := 6) (by decide +kernel) rfl (by decide) ?_
  refine z_callVU (As := [.int 4]) (st := []) (q := 9) (ct_X5_look g l v0 4) zm_RX5_153 (rc_X5_look v0 4) rfl (by decide) (by decide) (Nat.le_of_ble_eq_true rfl) rfl (by decide +kernel) rfl fun x3 => ?_
  refine z_aload_n (j := 0) (q := 10) (by decide +kernel) rfl 0 rfl ?_
  refine z_callVU (As := []) (st := []) (q := 13) (ct_X5_begins g l v0) zm_RX5_157 (rc_X5_begins v0) rfl (by decide) (by decide) (Nat.le_of_ble_eq_true rfl) rfl (by decide +kernel) rfl fun x5 => ?_
  exact z_vret (by decide +kernel)
theorem rc_X5_layWhole (v0 : Nat) : ∀ h x, dn_X5_layWhole v0 h = some x → ∃ fs, zgO 5 v0 h = some fs := fun h x hd => by
  obtain ⟨fs, e, -⟩ := Option.bind_eq_some_iff.mp hd
  exact ⟨fs, e⟩
def jn_X5_start_47 (v2 : Int32) : zAH → Option (Int32 × zAH) := fun h => some (v2, h)
theorem sj_X5_start_47 (g : zG) (l : Launch) (v2 : Int32) : zSm g l cX5_start 3 RX5 "start" (some .int) 6 134 zrI 47 [(2, .int v2)] [] (jn_X5_start_47 v2) := by
  unfold jn_X5_start_47
  refine z_iload_n (j := 2) (q := 48) (by decide +kernel) rfl 0 rfl ?_
  exact z_iret (by decide +kernel)
def jn_X5_start_55 : zAH → Option (Int32 × zAH) := fun h => some ((-9), h)
theorem sj_X5_start_55 (g : zG) (l : Launch) : zSm g l cX5_start 3 RX5 "start" (some .int) 6 134 zrI 55 [] [] (jn_X5_start_55) := by
  unfold jn_X5_start_55
  refine z_bipush (n := (-9)) (v := (-9)) (q := 57) (by decide +kernel) rfl (by decide) ?_
  exact z_iret (by decide +kernel)
def lb_X5_start_12 (v0 : Nat) (v1 : Int32) (rec : (Int32) → zAH → Option (Int32 × zAH)) (s : Int32) : zAH → Option (Int32 × zAH) := fun h => if 9 < s then jn_X5_start_55 h else zbd (dn_X5_layWhole v0 h) fun x1 h2 => (zgA 5 14 v0 h2).bind fun x3 => (zaI 0 x3 v1 h2).bind fun x4 => zbd (dn_X5_starts v0 v1 x4 s h2) fun x5 h6 => zbd (dn_X5_toEnd v0 h6) fun x7 h8 => zbd (dn_X5_v v0 1 h8) fun x9 h10 => if x9 = v1 then rec (s + 1) h10 else jn_X5_start_47 s h10
def lp_X5_start_12 (v0 : Nat) (v1 : Int32) (s : Int32) : zAH → Option (Int32 × zAH) := zlp (lb_X5_start_12 v0 v1) 2000 s
theorem sl_X5_start_12 (g : zG) (l : Launch) (v0 : Nat) (v1 : Int32) (s : Int32) : zSm g l cX5_start 3 RX5 "start" (some .int) 6 134 zrI 12 [(0, .ref v0), (1, .int v1), (2, .int s)] [] (lp_X5_start_12 v0 v1 s) := by
  unfold lp_X5_start_12
  refine z_loop (lvf := fun s => [(0, .ref v0), (1, .int v1), (2, .int s)]) (fun rec hrec s => ?_) 2000 s
  unfold lb_X5_start_12
  refine z_iload_n (j := 2) (q := 13) (by decide +kernel) rfl 2 rfl ?_
  refine z_bipush (n := 9) (v := 9) (q := 15) (by decide +kernel) rfl (by decide) ?_
  refine z_icmp_gt (off := 40) (t := 55) (q := 18) (by decide +kernel) (by decide) rfl ?_ ?_
  · refine zsub [] rfl ?_
    exact sj_X5_start_55 g l 
  · refine z_aload_n (j := 0) (q := 19) (by decide +kernel) rfl 0 rfl ?_
    refine z_callVU (As := []) (st := []) (q := 22) (ct_X5_layWhole g l v0) zm_RX5_278 (rc_X5_layWhole v0) rfl (by decide) (by decide) (Nat.le_of_ble_eq_true rfl) rfl (by decide +kernel) rfl fun x1 => ?_
    refine z_aload_n (j := 0) (q := 23) (by decide +kernel) rfl 0 rfl ?_
    refine z_iload_n (j := 1) (q := 24) (by decide +kernel) rfl 1 rfl ?_
    refine z_aload_n (j := 0) (q := 25) (by decide +kernel) rfl 0 rfl ?_
    refine z_getA (q := 28) zf_RX5_35 (by decide +kernel) rfl fun x3 => ?_
    refine z_iload_n (j := 1) (q := 29) (by decide +kernel) rfl 1 rfl ?_
    refine z_iald (q := 30) (Or.inl ⟨rfl, rfl⟩) (by decide +kernel) rfl fun x4 => ?_
    refine z_iload_n (j := 2) (q := 31) (by decide +kernel) rfl 2 rfl ?_
    refine z_callVU (As := [.int v1, .int x4, .int s]) (st := []) (q := 34) (ct_X5_starts g l v0 v1 x4 s) zm_RX5_186 (rc_X5_starts v0 v1 x4 s) rfl (by decide) (by decide) (Nat.le_of_ble_eq_true rfl) rfl (by decide +kernel) rfl fun x5 => ?_
    refine z_aload_n (j := 0) (q := 35) (by decide +kernel) rfl 0 rfl ?_
    refine z_callVU (As := []) (st := []) (q := 38) (ct_X5_toEnd g l v0) zm_RX5_240 (rc_X5_toEnd v0) rfl (by decide) (by decide) (Nat.le_of_ble_eq_true rfl) rfl (by decide +kernel) rfl fun x7 => ?_
    refine z_aload_n (j := 0) (q := 39) (by decide +kernel) rfl 0 rfl ?_
    refine z_iconst (n := 1) (v := 1) (q := 40) (by decide +kernel) rfl (by decide) ?_
    refine z_callVI (As := [.int 1]) (st := []) (q := 43) (ct_X5_v g l v0 1) zm_RX5_190 (rc_X5_v v0 1) rfl (by decide) (by decide) (Nat.le_of_ble_eq_true rfl) rfl (by decide +kernel) rfl fun x9 => ?_
    refine z_iload_n (j := 1) (q := 44) (by decide +kernel) rfl 1 rfl ?_
    refine z_icmp_eq (off := 5) (t := 49) (q := 47) (by decide +kernel) (by decide) rfl ?_ ?_
    · refine z_iinc (j := 2) (n := 1) (v := 1) (q := 52) (by decide +kernel) rfl 2 rfl (by decide) (by decide) rfl ?_
      refine z_goto (off := (-40)) (t := 12) (by decide +kernel) (by decide) ?_
      refine zsub [1, 2, 0] rfl ?_
      exact hrec (s + 1)
    · refine zsub [2] rfl ?_
      exact sj_X5_start_47 g l s
def dn_X5_start (v0 : Nat) (v1 : Int32) : zAH → Option (Int32 × zAH) := fun h => (zgO 5 v0 h).bind fun _ => zbd (dn_X5_isRunner v0 v1 h) fun x1 h2 => if x1 = 0 then some ((-1), h2) else lp_X5_start_12 v0 v1 0 h2
theorem ct_X5_start (g : zG) (l : Launch) (v0 : Nat) (v1 : Int32) : zCt g l yX5_start cX5_start 3 (some .int) 6 134 zrI [.ref v0, .int v1] (dn_X5_start v0 v1) := by
  refine zCt_of (lv := [(0, .ref v0), (1, .int v1)]) (by decide +kernel) (Nat.le_of_ble_eq_true rfl) rfl ?_
  show zSm g l cX5_start 3 RX5 "start" (some .int) 6 134 zrI 0 [(0, .ref v0), (1, .int v1)] [] (dn_X5_start v0 v1)
  unfold dn_X5_start
  refine z_rec ?_
  refine z_aload_n (j := 0) (q := 1) (by decide +kernel) rfl 0 rfl ?_
  refine z_iload_n (j := 1) (q := 2) (by decide +kernel) rfl 1 rfl ?_
  refine z_callVI (As := [.int v1]) (st := []) (q := 5) (ct_X5_isRunner g l v0 v1) zm_RX5_160 (rc_X5_isRunner v0 v1) rfl (by decide) (by decide) (Nat.le_of_ble_eq_true rfl) rfl (by decide +kernel) rfl fun x1 => ?_
  refine z_if_ne (off := 5) (t := 10) (q := 8) (by decide +kernel) (by decide) rfl ?_ ?_
  · refine z_iconst (n := 0) (v := 0) (q := 11) (by decide +kernel) rfl (by decide) ?_
    refine z_istore_n (j := 2) (q := 12) (by decide +kernel) rfl (by decide) rfl ?_
    refine zsub [1, 2, 0] rfl ?_
    exact sl_X5_start_12 g l v0 v1 0
  · refine z_iconst (n := (-1)) (v := (-1)) (q := 9) (by decide +kernel) rfl (by decide) ?_
    exact z_iret (by decide +kernel)
theorem rc_X5_start (v0 : Nat) (v1 : Int32) : ∀ h x, dn_X5_start v0 v1 h = some x → ∃ fs, zgO 5 v0 h = some fs := fun h x hd => by
  obtain ⟨fs, e, -⟩ := Option.bind_eq_some_iff.mp hd
  exact ⟨fs, e⟩
def jn_X5_fair_138 (kc26 : (Int32 × Int32 × Int32) → zAH → Option (Int32 × zAH)) (kc106 : (Int32 × Int32 × Int32) → zAH → Option (Int32 × zAH)) (v0 : Nat) (v1 : Int32) (v2 : Int32) (v3 : Int32) (v4 : Int32) (v5 : Int32) (v6 : Int32) (v7 : Int32) (w0 : Int32) : zAH → Option (Int32 × zAH) := fun h => zbd (dn_X5_lesser v5 w0 h) fun x1 h2 => zbd (dn_X5_greater v6 w0 h2) fun x3 h4 => kc106 (x1, x3, v7 + 1) h4
theorem sj_X5_fair_138 (g : zG) (l : Launch) (kc26 : (Int32 × Int32 × Int32) → zAH → Option (Int32 × zAH)) (kc106 : (Int32 × Int32 × Int32) → zAH → Option (Int32 × zAH)) (v0 : Nat) (v1 : Int32) (v2 : Int32) (v3 : Int32) (v4 : Int32) (v5 : Int32) (v6 : Int32) (v7 : Int32) (w0 : Int32) (hkc26 : ∀ s, zSm g l cX5_fair 9 RX5 "fair" (some .int) 6 134 zrI 26 [(0, .ref v0), (1, .int v1), (2, .int s.1), (3, .int s.2.1), (4, .int s.2.2)] [] (kc26 s)) (hkc106 : ∀ s, zSm g l cX5_fair 9 RX5 "fair" (some .int) 6 134 zrI 106 [(0, .ref v0), (1, .int v1), (2, .int v2), (3, .int v3), (4, .int v4), (5, .int s.1), (6, .int s.2.1), (7, .int s.2.2)] [] (kc106 s)) : zSm g l cX5_fair 9 RX5 "fair" (some .int) 6 134 zrI 138 [(0, .ref v0), (1, .int v1), (2, .int v2), (3, .int v3), (4, .int v4), (5, .int v5), (6, .int v6), (7, .int v7)] [.int w0] (jn_X5_fair_138 kc26 kc106 v0 v1 v2 v3 v4 v5 v6 v7 w0) := by
  unfold jn_X5_fair_138
  refine z_istore (j := 8) (q := 140) (by decide +kernel) rfl (by decide) rfl ?_
  refine z_iload (j := 5) (q := 142) (by decide +kernel) rfl 6 rfl ?_
  refine z_iload (j := 8) (q := 144) (by decide +kernel) rfl 0 rfl ?_
  refine z_callSI (As := [.int v5, .int w0]) (st := []) (q := 147) (ct_X5_lesser g l v5 w0) zm_RX5_202 rfl (by decide) (by decide) (Nat.le_of_ble_eq_true rfl) rfl (by decide +kernel) rfl fun x1 => ?_
  refine z_istore (j := 5) (q := 149) (by decide +kernel) rfl (by decide) rfl ?_
  refine z_iload (j := 6) (q := 151) (by decide +kernel) rfl 7 rfl ?_
  refine z_iload (j := 8) (q := 153) (by decide +kernel) rfl 1 rfl ?_
  refine z_callSI (As := [.int v6, .int w0]) (st := []) (q := 156) (ct_X5_greater g l v6 w0) zm_RX5_281 rfl (by decide) (by decide) (Nat.le_of_ble_eq_true rfl) rfl (by decide +kernel) rfl fun x3 => ?_
  refine z_istore (j := 6) (q := 158) (by decide +kernel) rfl (by decide) rfl ?_
  refine z_iinc (j := 7) (n := 1) (v := 1) (q := 161) (by decide +kernel) rfl 8 rfl (by decide) (by decide) rfl ?_
  refine z_goto (off := (-55)) (t := 106) (by decide +kernel) (by decide) ?_
  refine zsub [4, 5, 6, 7, 8, 2, 1, 0] rfl ?_
  exact hkc106 (x1, x3, v7 + 1)
def jn_X5_fair_186 (kc26 : (Int32 × Int32 × Int32) → zAH → Option (Int32 × zAH)) (v0 : Nat) (v1 : Int32) (v2 : Int32) (v3 : Int32) (v4 : Int32) : zAH → Option (Int32 × zAH) := fun h => kc26 (v2, v3, v4 + 1) h
theorem sj_X5_fair_186 (g : zG) (l : Launch) (kc26 : (Int32 × Int32 × Int32) → zAH → Option (Int32 × zAH)) (v0 : Nat) (v1 : Int32) (v2 : Int32) (v3 : Int32) (v4 : Int32) (hkc26 : ∀ s, zSm g l cX5_fair 9 RX5 "fair" (some .int) 6 134 zrI 26 [(0, .ref v0), (1, .int v1), (2, .int s.1), (3, .int s.2.1), (4, .int s.2.2)] [] (kc26 s)) : zSm g l cX5_fair 9 RX5 "fair" (some .int) 6 134 zrI 186 [(0, .ref v0), (1, .int v1), (2, .int v2), (3, .int v3), (4, .int v4)] [] (jn_X5_fair_186 kc26 v0 v1 v2 v3 v4) := by
  unfold jn_X5_fair_186
  refine z_iinc (j := 4) (n := 1) (v := 1) (q := 189) (by decide +kernel) rfl 4 rfl (by decide) (by decide) rfl ?_
  refine z_goto (off := (-163)) (t := 26) (by decide +kernel) (by decide) ?_
  refine zsub [1, 2, 3, 4, 0] rfl ?_
  exact hkc26 (v2, v3, v4 + 1)
def jn_X5_fair_177 (kc26 : (Int32 × Int32 × Int32) → zAH → Option (Int32 × zAH)) (v0 : Nat) (v1 : Int32) (v4 : Int32) (v5 : Int32) (v6 : Int32) : zAH → Option (Int32 × zAH) := fun h => jn_X5_fair_186 kc26 v0 v1 v4 (v6 - v5) v4 h
theorem sj_X5_fair_177 (g : zG) (l : Launch) (kc26 : (Int32 × Int32 × Int32) → zAH → Option (Int32 × zAH)) (v0 : Nat) (v1 : Int32) (v4 : Int32) (v5 : Int32) (v6 : Int32) (hkc26 : ∀ s, zSm g l cX5_fair 9 RX5 "fair" (some .int) 6 134 zrI 26 [(0, .ref v0), (1, .int v1), (2, .int s.1), (3, .int s.2.1), (4, .int s.2.2)] [] (kc26 s)) : zSm g l cX5_fair 9 RX5 "fair" (some .int) 6 134 zrI 177 [(0, .ref v0), (1, .int v1), (4, .int v4), (5, .int v5), (6, .int v6)] [] (jn_X5_fair_177 kc26 v0 v1 v4 v5 v6) := by
  unfold jn_X5_fair_177
  refine z_iload (j := 4) (q := 179) (by decide +kernel) rfl 2 rfl ?_
  refine z_istore_n (j := 2) (q := 180) (by decide +kernel) rfl (by decide) rfl ?_
  refine z_iload (j := 6) (q := 182) (by decide +kernel) rfl 5 rfl ?_
  refine z_iload (j := 5) (q := 184) (by decide +kernel) rfl 4 rfl ?_
  refine z_isub (q := 185) (by decide +kernel) rfl ?_
  refine z_istore_n (j := 3) (q := 186) (by decide +kernel) rfl (by decide) rfl ?_
  refine zsub [2, 3, 1, 0, 4] rfl ?_
  exact sj_X5_fair_186 g l kc26 v0 v1 v4 (v6 - v5) v4 hkc26
def jn_X5_fair_164 (kc26 : (Int32 × Int32 × Int32) → zAH → Option (Int32 × zAH)) (v0 : Nat) (v1 : Int32) (v2 : Int32) (v3 : Int32) (v4 : Int32) (v5 : Int32) (v6 : Int32) : zAH → Option (Int32 × zAH) := fun h => if v3 < 0 then jn_X5_fair_177 kc26 v0 v1 v4 v5 v6 h else if (v6 - v5) < v3 then jn_X5_fair_177 kc26 v0 v1 v4 v5 v6 h else jn_X5_fair_186 kc26 v0 v1 v2 v3 v4 h
theorem sj_X5_fair_164 (g : zG) (l : Launch) (kc26 : (Int32 × Int32 × Int32) → zAH → Option (Int32 × zAH)) (v0 : Nat) (v1 : Int32) (v2 : Int32) (v3 : Int32) (v4 : Int32) (v5 : Int32) (v6 : Int32) (hkc26 : ∀ s, zSm g l cX5_fair 9 RX5 "fair" (some .int) 6 134 zrI 26 [(0, .ref v0), (1, .int v1), (2, .int s.1), (3, .int s.2.1), (4, .int s.2.2)] [] (kc26 s)) : zSm g l cX5_fair 9 RX5 "fair" (some .int) 6 134 zrI 164 [(0, .ref v0), (1, .int v1), (2, .int v2), (3, .int v3), (4, .int v4), (5, .int v5), (6, .int v6)] [] (jn_X5_fair_164 kc26 v0 v1 v2 v3 v4 v5 v6) := by
  unfold jn_X5_fair_164
  refine z_iload_n (j := 3) (q := 165) (by decide +kernel) rfl 3 rfl ?_
  refine z_if_lt (off := 12) (t := 177) (q := 168) (by decide +kernel) (by decide) rfl ?_ ?_
  · refine zsub [0, 1, 4, 5, 6] rfl ?_
    exact sj_X5_fair_177 g l kc26 v0 v1 v4 v5 v6 hkc26
  · refine z_iload (j := 6) (q := 170) (by decide +kernel) rfl 6 rfl ?_
    refine z_iload (j := 5) (q := 172) (by decide +kernel) rfl 5 rfl ?_
    refine z_isub (q := 173) (by decide +kernel) rfl ?_
    refine z_iload_n (j := 3) (q := 174) (by decide +kernel) rfl 3 rfl ?_
    refine z_icmp_ge (off := 12) (t := 186) (q := 177) (by decide +kernel) (by decide) rfl ?_ ?_
    · refine zsub [0, 1, 2, 3, 4] rfl ?_
      exact sj_X5_fair_186 g l kc26 v0 v1 v2 v3 v4 hkc26
    · refine zsub [0, 1, 4, 5, 6] rfl ?_
      exact sj_X5_fair_177 g l kc26 v0 v1 v4 v5 v6 hkc26
def lb_X5_fair_106 (kc26 : (Int32 × Int32 × Int32) → zAH → Option (Int32 × zAH)) (v0 : Nat) (v1 : Int32) (v2 : Int32) (v3 : Int32) (v4 : Int32) (rec : (Int32 × Int32 × Int32) → zAH → Option (Int32 × zAH)) (s : Int32 × Int32 × Int32) : zAH → Option (Int32 × zAH) := fun h => (zgI 5 12 v0 h).bind fun x1 => if s.2.2 < x1 then zbd (dn_X5_isDone v0 s.2.2 h) fun x2 h3 => if x2 = 0 then jn_X5_fair_138 kc26 rec v0 v1 v2 v3 v4 s.1 s.2.1 s.2.2 60 h3 else zbd (dn_X5_v v0 (13 + s.2.2) h3) fun x4 h5 => jn_X5_fair_138 kc26 rec v0 v1 v2 v3 v4 s.1 s.2.1 s.2.2 x4 h5 else jn_X5_fair_164 kc26 v0 v1 v2 v3 v4 s.1 s.2.1 h
def lp_X5_fair_106 (kc26 : (Int32 × Int32 × Int32) → zAH → Option (Int32 × zAH)) (v0 : Nat) (v1 : Int32) (v2 : Int32) (v3 : Int32) (v4 : Int32) (s : Int32 × Int32 × Int32) : zAH → Option (Int32 × zAH) := zlp (lb_X5_fair_106 kc26 v0 v1 v2 v3 v4) 2000 s
theorem sl_X5_fair_106 (g : zG) (l : Launch) (kc26 : (Int32 × Int32 × Int32) → zAH → Option (Int32 × zAH)) (v0 : Nat) (v1 : Int32) (v2 : Int32) (v3 : Int32) (v4 : Int32) (hkc26 : ∀ s, zSm g l cX5_fair 9 RX5 "fair" (some .int) 6 134 zrI 26 [(0, .ref v0), (1, .int v1), (2, .int s.1), (3, .int s.2.1), (4, .int s.2.2)] [] (kc26 s)) (s : Int32 × Int32 × Int32) : zSm g l cX5_fair 9 RX5 "fair" (some .int) 6 134 zrI 106 [(0, .ref v0), (1, .int v1), (2, .int v2), (3, .int v3), (4, .int v4), (5, .int s.1), (6, .int s.2.1), (7, .int s.2.2)] [] (lp_X5_fair_106 kc26 v0 v1 v2 v3 v4 s) := by
  unfold lp_X5_fair_106
  refine z_loop (lvf := fun s => [(0, .ref v0), (1, .int v1), (2, .int v2), (3, .int v3), (4, .int v4), (5, .int s.1), (6, .int s.2.1), (7, .int s.2.2)]) (fun rec hrec s => ?_) 2000 s
  unfold lb_X5_fair_106
  refine z_iload (j := 7) (q := 108) (by decide +kernel) rfl 7 rfl ?_
  refine z_aload_n (j := 0) (q := 109) (by decide +kernel) rfl 0 rfl ?_
  refine z_getI (q := 112) zf_RX5_147 (by decide +kernel) rfl fun x1 => ?_
  refine z_icmp_ge (off := 52) (t := 164) (q := 115) (by decide +kernel) (by decide) rfl ?_ ?_
  · refine zsub [0, 1, 2, 3, 4, 5, 6] rfl ?_
    exact sj_X5_fair_164 g l kc26 v0 v1 v2 v3 v4 s.1 s.2.1 hkc26
  · refine z_aload_n (j := 0) (q := 116) (by decide +kernel) rfl 0 rfl ?_
    refine z_iload (j := 7) (q := 118) (by decide +kernel) rfl 7 rfl ?_
    refine z_callVI (As := [.int s.2.2]) (st := []) (q := 121) (ct_X5_isDone g l v0 s.2.2) zm_RX5_193 (rc_X5_isDone v0 s.2.2) rfl (by decide) (by decide) (Nat.le_of_ble_eq_true rfl) rfl (by decide +kernel) rfl fun x2 => ?_
    refine z_if_eq (off := 15) (t := 136) (q := 124) (by decide +kernel) (by decide) rfl ?_ ?_
    · refine z_bipush (n := 60) (v := 60) (q := 138) (by decide +kernel) rfl (by decide) ?_
      refine zsub [0, 1, 2, 3, 4, 5, 6, 7] rfl ?_
      exact sj_X5_fair_138 g l kc26 rec v0 v1 v2 v3 v4 s.1 s.2.1 s.2.2 60 hkc26 hrec
    · refine z_aload_n (j := 0) (q := 125) (by decide +kernel) rfl 0 rfl ?_
      refine z_bipush (n := 13) (v := 13) (q := 127) (by decide +kernel) rfl (by decide) ?_
      refine z_iload (j := 7) (q := 129) (by decide +kernel) rfl 7 rfl ?_
      refine z_iadd (q := 130) (by decide +kernel) rfl ?_
      refine z_callVI (As := [.int (13 + s.2.2)]) (st := []) (q := 133) (ct_X5_v g l v0 (13 + s.2.2)) zm_RX5_190 (rc_X5_v v0 (13 + s.2.2)) rfl (by decide) (by decide) (Nat.le_of_ble_eq_true rfl) rfl (by decide +kernel) rfl fun x4 => ?_
      refine z_goto (off := 5) (t := 138) (by decide +kernel) (by decide) ?_
      refine zsub [0, 1, 2, 3, 4, 5, 6, 7] rfl ?_
      exact sj_X5_fair_138 g l kc26 rec v0 v1 v2 v3 v4 s.1 s.2.1 s.2.2 x4 hkc26 hrec
def jn_X5_fair_92 (kc26 : (Int32 × Int32 × Int32) → zAH → Option (Int32 × zAH)) (v0 : Nat) (v1 : Int32) (v2 : Int32) (v3 : Int32) (v4 : Int32) : zAH → Option (Int32 × zAH) := fun h => zbd (dn_X5_toEnd v0 h) fun x1 h2 => lp_X5_fair_106 kc26 v0 v1 v2 v3 v4 (60, 0, 0) h2
theorem sj_X5_fair_92 (g : zG) (l : Launch) (kc26 : (Int32 × Int32 × Int32) → zAH → Option (Int32 × zAH)) (v0 : Nat) (v1 : Int32) (v2 : Int32) (v3 : Int32) (v4 : Int32) (hkc26 : ∀ s, zSm g l cX5_fair 9 RX5 "fair" (some .int) 6 134 zrI 26 [(0, .ref v0), (1, .int v1), (2, .int s.1), (3, .int s.2.1), (4, .int s.2.2)] [] (kc26 s)) : zSm g l cX5_fair 9 RX5 "fair" (some .int) 6 134 zrI 92 [(0, .ref v0), (1, .int v1), (2, .int v2), (3, .int v3), (4, .int v4)] [] (jn_X5_fair_92 kc26 v0 v1 v2 v3 v4) := by
  unfold jn_X5_fair_92
  refine z_aload_n (j := 0) (q := 93) (by decide +kernel) rfl 0 rfl ?_
  refine z_callVU (As := []) (st := []) (q := 96) (ct_X5_toEnd g l v0) zm_RX5_240 (rc_X5_toEnd v0) rfl (by decide) (by decide) (Nat.le_of_ble_eq_true rfl) rfl (by decide +kernel) rfl fun x1 => ?_
  refine z_bipush (n := 60) (v := 60) (q := 98) (by decide +kernel) rfl (by decide) ?_
  refine z_istore (j := 5) (q := 100) (by decide +kernel) rfl (by decide) rfl ?_
  refine z_iconst (n := 0) (v := 0) (q := 101) (by decide +kernel) rfl (by decide) ?_
  refine z_istore (j := 6) (q := 103) (by decide +kernel) rfl (by decide) rfl ?_
  refine z_iconst (n := 0) (v := 0) (q := 104) (by decide +kernel) rfl (by decide) ?_
  refine z_istore (j := 7) (q := 106) (by decide +kernel) rfl (by decide) rfl ?_
  refine zsub [3, 4, 5, 6, 7, 2, 1, 0] rfl ?_
  exact sl_X5_fair_106 g l kc26 v0 v1 v2 v3 v4 hkc26 (60, 0, 0)
def lb_X5_fair_46 (kc26 : (Int32 × Int32 × Int32) → zAH → Option (Int32 × zAH)) (v0 : Nat) (v1 : Int32) (v2 : Int32) (v3 : Int32) (v4 : Int32) (rec : (Int32) → zAH → Option (Int32 × zAH)) (s : Int32) : zAH → Option (Int32 × zAH) := fun h => (zgI 5 12 v0 h).bind fun x1 => if s < x1 then (zgA 5 14 v0 h).bind fun x2 => (zaI 0 x2 s h).bind fun x3 => (zgI 5 12 v0 h).bind fun x4 => zbd (dn_X5_powerOf 4 ((x4 - 1) - s) h) fun x5 h6 => if x5 = 0 then none else if 4 = 0 then none else zbd (dn_X5_starts v0 s x3 ((v4 / x5) % 4) h6) fun x7 h8 => rec (s + 1) h8 else jn_X5_fair_92 kc26 v0 v1 v2 v3 v4 h
def lp_X5_fair_46 (kc26 : (Int32 × Int32 × Int32) → zAH → Option (Int32 × zAH)) (v0 : Nat) (v1 : Int32) (v2 : Int32) (v3 : Int32) (v4 : Int32) (s : Int32) : zAH → Option (Int32 × zAH) := zlp (lb_X5_fair_46 kc26 v0 v1 v2 v3 v4) 2000 s
theorem sl_X5_fair_46 (g : zG) (l : Launch) (kc26 : (Int32 × Int32 × Int32) → zAH → Option (Int32 × zAH)) (v0 : Nat) (v1 : Int32) (v2 : Int32) (v3 : Int32) (v4 : Int32) (hkc26 : ∀ s, zSm g l cX5_fair 9 RX5 "fair" (some .int) 6 134 zrI 26 [(0, .ref v0), (1, .int v1), (2, .int s.1), (3, .int s.2.1), (4, .int s.2.2)] [] (kc26 s)) (s : Int32) : zSm g l cX5_fair 9 RX5 "fair" (some .int) 6 134 zrI 46 [(0, .ref v0), (1, .int v1), (2, .int v2), (3, .int v3), (4, .int v4), (5, .int s)] [] (lp_X5_fair_46 kc26 v0 v1 v2 v3 v4 s) := by
  unfold lp_X5_fair_46
  refine z_loop (lvf := fun s => [(0, .ref v0), (1, .int v1), (2, .int v2), (3, .int v3), (4, .int v4), (5, .int s)]) (fun rec hrec s => ?_) 2000 s
  unfold lb_X5_fair_46
  refine z_iload (j := 5) (q := 48) (by decide +kernel) rfl 5 rfl ?_
  refine z_aload_n (j := 0) (q := 49) (by decide +kernel) rfl 0 rfl ?_
  refine z_getI (q := 52) zf_RX5_147 (by decide +kernel) rfl fun x1 => ?_
  refine z_icmp_ge (off := 40) (t := 92) (q := 55) (by decide +kernel) (by decide) rfl ?_ ?_
  · refine zsub [0, 1, 2, 3, 4] rfl ?_
    exact sj_X5_fair_92 g l kc26 v0 v1 v2 v3 v4 hkc26
  · refine z_aload_n (j := 0) (q := 56) (by decide +kernel) rfl 0 rfl ?_
    refine z_iload (j := 5) (q := 58) (by decide +kernel) rfl 5 rfl ?_
    refine z_aload_n (j := 0) (q := 59) (by decide +kernel) rfl 0 rfl ?_
    refine z_getA (q := 62) zf_RX5_35 (by decide +kernel) rfl fun x2 => ?_
    refine z_iload (j := 5) (q := 64) (by decide +kernel) rfl 5 rfl ?_
    refine z_iald (q := 65) (Or.inl ⟨rfl, rfl⟩) (by decide +kernel) rfl fun x3 => ?_
    refine z_iload (j := 4) (q := 67) (by decide +kernel) rfl 4 rfl ?_
    refine z_iconst (n := 4) (v := 4) (q := 68) (by decide +kernel) rfl (by decide) ?_
    refine z_aload_n (j := 0) (q := 69) (by decide +kernel) rfl 0 rfl ?_
    refine z_getI (q := 72) zf_RX5_147 (by decide +kernel) rfl fun x4 => ?_
    refine z_iconst (n := 1) (v := 1) (q := 73) (by decide +kernel) rfl (by decide) ?_
    refine z_isub (q := 74) (by decide +kernel) rfl ?_
    refine z_iload (j := 5) (q := 76) (by decide +kernel) rfl 5 rfl ?_
    refine z_isub (q := 77) (by decide +kernel) rfl ?_
    refine z_callSI (As := [.int 4, .int ((x4 - 1) - s)]) (st := [.int v4, .int x3, .int s, .ref v0]) (q := 80) (ct_X5_powerOf g l 4 ((x4 - 1) - s)) zm_RX5_252 rfl (by decide) (by decide) (Nat.le_of_ble_eq_true rfl) rfl (by decide +kernel) rfl fun x5 => ?_
    refine z_idiv (q := 81) (by decide +kernel) rfl ?_
    refine z_iconst (n := 4) (v := 4) (q := 82) (by decide +kernel) rfl (by decide) ?_
    refine z_irem (q := 83) (by decide +kernel) rfl ?_
    refine z_callVU (As := [.int s, .int x3, .int ((v4 / x5) % 4)]) (st := []) (q := 86) (ct_X5_starts g l v0 s x3 ((v4 / x5) % 4)) zm_RX5_186 (rc_X5_starts v0 s x3 ((v4 / x5) % 4)) rfl (by decide) (by decide) (Nat.le_of_ble_eq_true rfl) rfl (by decide +kernel) rfl fun x7 => ?_
    refine z_iinc (j := 5) (n := 1) (v := 1) (q := 89) (by decide +kernel) rfl 5 rfl (by decide) (by decide) rfl ?_
    refine z_goto (off := (-43)) (t := 46) (by decide +kernel) (by decide) ?_
    refine zsub [1, 2, 3, 4, 5, 0] rfl ?_
    exact hrec (s + 1)
def jn_X5_fair_253 (kc205 : Int32 → zAH → Option (Int32 × zAH)) (v0 : Nat) (v1 : Int32) (v2 : Int32) (v3 : Int32) (v4 : Int32) (w0 : Nat) (w1 : Int32) (w2 : Int32) : zAH → Option (Int32 × zAH) := fun h => (zaS 0 w0 w1 w2 h).bind fun h1 => kc205 (v4 + 1) h1
theorem sj_X5_fair_253 (g : zG) (l : Launch) (kc205 : Int32 → zAH → Option (Int32 × zAH)) (v0 : Nat) (v1 : Int32) (v2 : Int32) (v3 : Int32) (v4 : Int32) (w0 : Nat) (w1 : Int32) (w2 : Int32) (hkc205 : ∀ s, zSm g l cX5_fair 9 RX5 "fair" (some .int) 6 134 zrI 205 [(0, .ref v0), (1, .int v1), (2, .int v2), (3, .int v3), (4, .int s)] [] (kc205 s)) : zSm g l cX5_fair 9 RX5 "fair" (some .int) 6 134 zrI 253 [(0, .ref v0), (1, .int v1), (2, .int v2), (3, .int v3), (4, .int v4)] [.int w2, .int w1, .ref w0] (jn_X5_fair_253 kc205 v0 v1 v2 v3 v4 w0 w1 w2) := by
  unfold jn_X5_fair_253
  refine z_iast (q := 254) (Or.inl ⟨rfl, rfl, rfl⟩) (by decide +kernel) rfl ?_
  refine z_iinc (j := 4) (n := 1) (v := 1) (q := 257) (by decide +kernel) rfl 4 rfl (by decide) (by decide) rfl ?_
  refine z_goto (off := (-52)) (t := 205) (by decide +kernel) (by decide) ?_
  refine zsub [1, 2, 3, 4, 0] rfl ?_
  exact hkc205 (v4 + 1)
def jn_X5_fair_260 (v3 : Int32) : zAH → Option (Int32 × zAH) := fun h => some (v3, h)
theorem sj_X5_fair_260 (g : zG) (l : Launch) (v3 : Int32) : zSm g l cX5_fair 9 RX5 "fair" (some .int) 6 134 zrI 260 [(3, .int v3)] [] (jn_X5_fair_260 v3) := by
  unfold jn_X5_fair_260
  refine z_iload_n (j := 3) (q := 261) (by decide +kernel) rfl 0 rfl ?_
  exact z_iret (by decide +kernel)
def lb_X5_fair_205 (v0 : Nat) (v1 : Int32) (v2 : Int32) (v3 : Int32) (rec : (Int32) → zAH → Option (Int32 × zAH)) (s : Int32) : zAH → Option (Int32 × zAH) := fun h => if s < 60 then (zgA 5 6 v0 h).bind fun x1 => (zgI 5 12 v0 h).bind fun x2 => if s < x2 then (zgI 5 12 v0 h).bind fun x3 => zbd (dn_X5_powerOf 4 ((x3 - 1) - s) h) fun x4 h5 => if x4 = 0 then none else if 4 = 0 then none else jn_X5_fair_253 rec v0 v1 v2 v3 s x1 ((60 * v1) + s) ((v2 / x4) % 4) h5 else jn_X5_fair_253 rec v0 v1 v2 v3 s x1 ((60 * v1) + s) 0 h else jn_X5_fair_260 v3 h
def lp_X5_fair_205 (v0 : Nat) (v1 : Int32) (v2 : Int32) (v3 : Int32) (s : Int32) : zAH → Option (Int32 × zAH) := zlp (lb_X5_fair_205 v0 v1 v2 v3) 2000 s
theorem sl_X5_fair_205 (g : zG) (l : Launch) (v0 : Nat) (v1 : Int32) (v2 : Int32) (v3 : Int32) (s : Int32) : zSm g l cX5_fair 9 RX5 "fair" (some .int) 6 134 zrI 205 [(0, .ref v0), (1, .int v1), (2, .int v2), (3, .int v3), (4, .int s)] [] (lp_X5_fair_205 v0 v1 v2 v3 s) := by
  unfold lp_X5_fair_205
  refine z_loop (lvf := fun s => [(0, .ref v0), (1, .int v1), (2, .int v2), (3, .int v3), (4, .int s)]) (fun rec hrec s => ?_) 2000 s
  unfold lb_X5_fair_205
  refine z_iload (j := 4) (q := 207) (by decide +kernel) rfl 4 rfl ?_
  refine z_bipush (n := 60) (v := 60) (q := 209) (by decide +kernel) rfl (by decide) ?_
  refine z_icmp_ge (off := 51) (t := 260) (q := 212) (by decide +kernel) (by decide) rfl ?_ ?_
  · refine zsub [3] rfl ?_
    exact sj_X5_fair_260 g l v3
  · refine z_aload_n (j := 0) (q := 213) (by decide +kernel) rfl 0 rfl ?_
    refine z_getA (q := 216) zf_RX5_16 (by decide +kernel) rfl fun x1 => ?_
    refine z_bipush (n := 60) (v := 60) (q := 218) (by decide +kernel) rfl (by decide) ?_
    refine z_iload_n (j := 1) (q := 219) (by decide +kernel) rfl 1 rfl ?_
    refine z_imul (q := 220) (by decide +kernel) rfl ?_
    refine z_iload (j := 4) (q := 222) (by decide +kernel) rfl 4 rfl ?_
    refine z_iadd (q := 223) (by decide +kernel) rfl ?_
    refine z_iload (j := 4) (q := 225) (by decide +kernel) rfl 4 rfl ?_
    refine z_aload_n (j := 0) (q := 226) (by decide +kernel) rfl 0 rfl ?_
    refine z_getI (q := 229) zf_RX5_147 (by decide +kernel) rfl fun x2 => ?_
    refine z_icmp_ge (off := 23) (t := 252) (q := 232) (by decide +kernel) (by decide) rfl ?_ ?_
    · refine z_iconst (n := 0) (v := 0) (q := 253) (by decide +kernel) rfl (by decide) ?_
      refine zsub [0, 1, 2, 3, 4] rfl ?_
      exact sj_X5_fair_253 g l rec v0 v1 v2 v3 s x1 ((60 * v1) + s) 0 hrec
    · refine z_iload_n (j := 2) (q := 233) (by decide +kernel) rfl 2 rfl ?_
      refine z_iconst (n := 4) (v := 4) (q := 234) (by decide +kernel) rfl (by decide) ?_
      refine z_aload_n (j := 0) (q := 235) (by decide +kernel) rfl 0 rfl ?_
      refine z_getI (q := 238) zf_RX5_147 (by decide +kernel) rfl fun x3 => ?_
      refine z_iconst (n := 1) (v := 1) (q := 239) (by decide +kernel) rfl (by decide) ?_
      refine z_isub (q := 240) (by decide +kernel) rfl ?_
      refine z_iload (j := 4) (q := 242) (by decide +kernel) rfl 4 rfl ?_
      refine z_isub (q := 243) (by decide +kernel) rfl ?_
      refine z_callSI (As := [.int 4, .int ((x3 - 1) - s)]) (st := [.int v2, .int ((60 * v1) + s), .ref x1]) (q := 246) (ct_X5_powerOf g l 4 ((x3 - 1) - s)) zm_RX5_252 rfl (by decide) (by decide) (Nat.le_of_ble_eq_true rfl) rfl (by decide +kernel) rfl fun x4 => ?_
      refine z_idiv (q := 247) (by decide +kernel) rfl ?_
      refine z_iconst (n := 4) (v := 4) (q := 248) (by decide +kernel) rfl (by decide) ?_
      refine z_irem (q := 249) (by decide +kernel) rfl ?_
      refine z_goto (off := 4) (t := 253) (by decide +kernel) (by decide) ?_
      refine zsub [0, 1, 2, 3, 4] rfl ?_
      exact sj_X5_fair_253 g l rec v0 v1 v2 v3 s x1 ((60 * v1) + s) ((v2 / x4) % 4) hrec
def jn_X5_fair_192 (v0 : Nat) (v1 : Int32) (v2 : Int32) (v3 : Int32) : zAH → Option (Int32 × zAH) := fun h => (zgA 5 5 v0 h).bind fun x1 => (zgI 5 12 v0 h).bind fun x2 => (zaS 0 x1 v1 x2 h).bind fun h3 => lp_X5_fair_205 v0 v1 v2 v3 0 h3
theorem sj_X5_fair_192 (g : zG) (l : Launch) (v0 : Nat) (v1 : Int32) (v2 : Int32) (v3 : Int32) : zSm g l cX5_fair 9 RX5 "fair" (some .int) 6 134 zrI 192 [(0, .ref v0), (1, .int v1), (2, .int v2), (3, .int v3)] [] (jn_X5_fair_192 v0 v1 v2 v3) := by
  unfold jn_X5_fair_192
  refine z_aload_n (j := 0) (q := 193) (by decide +kernel) rfl 0 rfl ?_
  refine z_getA (q := 196) zf_RX5_13 (by decide +kernel) rfl fun x1 => ?_
  refine z_iload_n (j := 1) (q := 197) (by decide +kernel) rfl 1 rfl ?_
  refine z_aload_n (j := 0) (q := 198) (by decide +kernel) rfl 0 rfl ?_
  refine z_getI (q := 201) zf_RX5_147 (by decide +kernel) rfl fun x2 => ?_
  refine z_iast (q := 202) (Or.inl ⟨rfl, rfl, rfl⟩) (by decide +kernel) rfl ?_
  refine z_iconst (n := 0) (v := 0) (q := 203) (by decide +kernel) rfl (by decide) ?_
  refine z_istore (j := 4) (q := 205) (by decide +kernel) rfl (by decide) rfl ?_
  refine zsub [1, 2, 3, 4, 0] rfl ?_
  exact sl_X5_fair_205 g l v0 v1 v2 v3 0
def lb_X5_fair_26 (v0 : Nat) (v1 : Int32) (rec : (Int32 × Int32 × Int32) → zAH → Option (Int32 × zAH)) (s : Int32 × Int32 × Int32) : zAH → Option (Int32 × zAH) := fun h => (zgI 5 12 v0 h).bind fun x1 => zbd (dn_X5_powerOf 4 x1 h) fun x2 h3 => if s.2.2 < x2 then zbd (dn_X5_layWhole v0 h3) fun x4 h5 => lp_X5_fair_46 rec v0 v1 s.1 s.2.1 s.2.2 0 h5 else jn_X5_fair_192 v0 v1 s.1 s.2.1 h3
def lp_X5_fair_26 (v0 : Nat) (v1 : Int32) (s : Int32 × Int32 × Int32) : zAH → Option (Int32 × zAH) := zlp (lb_X5_fair_26 v0 v1) 2000 s
theorem sl_X5_fair_26 (g : zG) (l : Launch) (v0 : Nat) (v1 : Int32) (s : Int32 × Int32 × Int32) : zSm g l cX5_fair 9 RX5 "fair" (some .int) 6 134 zrI 26 [(0, .ref v0), (1, .int v1), (2, .int s.1), (3, .int s.2.1), (4, .int s.2.2)] [] (lp_X5_fair_26 v0 v1 s) := by
  unfold lp_X5_fair_26
  refine z_loop (lvf := fun s => [(0, .ref v0), (1, .int v1), (2, .int s.1), (3, .int s.2.1), (4, .int s.2.2)]) (fun rec hrec s => ?_) 2000 s
  unfold lb_X5_fair_26
  refine z_iload (j := 4) (q := 28) (by decide +kernel) rfl 4 rfl ?_
  refine z_iconst (n := 4) (v := 4) (q := 29) (by decide +kernel) rfl (by decide) ?_
  refine z_aload_n (j := 0) (q := 30) (by decide +kernel) rfl 0 rfl ?_
  refine z_getI (q := 33) zf_RX5_147 (by decide +kernel) rfl fun x1 => ?_
  refine z_callSI (As := [.int 4, .int x1]) (st := [.int s.2.2]) (q := 36) (ct_X5_powerOf g l 4 x1) zm_RX5_252 rfl (by decide) (by decide) (Nat.le_of_ble_eq_true rfl) rfl (by decide +kernel) rfl fun x2 => ?_
  refine z_icmp_ge (off := 156) (t := 192) (q := 39) (by decide +kernel) (by decide) rfl ?_ ?_
  · refine zsub [0, 1, 2, 3] rfl ?_
    exact sj_X5_fair_192 g l v0 v1 s.1 s.2.1
  · refine z_aload_n (j := 0) (q := 40) (by decide +kernel) rfl 0 rfl ?_
    refine z_callVU (As := []) (st := []) (q := 43) (ct_X5_layWhole g l v0) zm_RX5_278 (rc_X5_layWhole v0) rfl (by decide) (by decide) (Nat.le_of_ble_eq_true rfl) rfl (by decide +kernel) rfl fun x4 => ?_
    refine z_iconst (n := 0) (v := 0) (q := 44) (by decide +kernel) rfl (by decide) ?_
    refine z_istore (j := 5) (q := 46) (by decide +kernel) rfl (by decide) rfl ?_
    refine zsub [1, 2, 3, 4, 5, 0] rfl ?_
    exact sl_X5_fair_46 g l rec v0 v1 s.1 s.2.1 s.2.2 hrec 0
def dn_X5_fair (v0 : Nat) (v1 : Int32) : zAH → Option (Int32 × zAH) := fun h => (zgO 5 v0 h).bind fun _ => zbd (dn_X5_isRow v1 h) fun x1 h2 => if x1 = 0 then some ((-1), h2) else (zgI 5 12 v0 h2).bind fun x3 => if x3 = 0 then some ((-4), h2) else lp_X5_fair_26 v0 v1 (0, (-1), 0) h2
theorem ct_X5_fair (g : zG) (l : Launch) (v0 : Nat) (v1 : Int32) : zCt g l yX5_fair cX5_fair 9 (some .int) 6 134 zrI [.ref v0, .int v1] (dn_X5_fair v0 v1) := by
  refine zCt_of (lv := [(0, .ref v0), (1, .int v1)]) (by decide +kernel) (Nat.le_of_ble_eq_true rfl) rfl ?_
  show zSm g l cX5_fair 9 RX5 "fair" (some .int) 6 134 zrI 0 [(0, .ref v0), (1, .int v1)] [] (dn_X5_fair v0 v1)
  unfold dn_X5_fair
  refine z_rec ?_
  refine z_iload_n (j := 1) (q := 1) (by decide +kernel) rfl 1 rfl ?_
  refine z_callSI (As := [.int v1]) (st := []) (q := 4) (ct_X5_isRow g l v1) zm_RX5_96 rfl (by decide) (by decide) (Nat.le_of_ble_eq_true rfl) rfl (by decide +kernel) rfl fun x1 => ?_
  refine z_if_ne (off := 5) (t := 9) (q := 7) (by decide +kernel) (by decide) rfl ?_ ?_
  · refine z_aload_n (j := 0) (q := 10) (by decide +kernel) rfl 0 rfl ?_
    refine z_getI (q := 13) zf_RX5_147 (by decide +kernel) rfl fun x3 => ?_
    refine z_if_ne (off := 6) (t := 19) (q := 16) (by decide +kernel) (by decide) rfl ?_ ?_
    · refine z_iconst (n := 0) (v := 0) (q := 20) (by decide +kernel) rfl (by decide) ?_
      refine z_istore_n (j := 2) (q := 21) (by decide +kernel) rfl (by decide) rfl ?_
      refine z_iconst (n := (-1)) (v := (-1)) (q := 22) (by decide +kernel) rfl (by decide) ?_
      refine z_istore_n (j := 3) (q := 23) (by decide +kernel) rfl (by decide) rfl ?_
      refine z_iconst (n := 0) (v := 0) (q := 24) (by decide +kernel) rfl (by decide) ?_
      refine z_istore (j := 4) (q := 26) (by decide +kernel) rfl (by decide) rfl ?_
      refine zsub [3, 4, 2, 1, 0] rfl ?_
      exact sl_X5_fair_26 g l v0 v1 (0, (-1), 0)
    · refine z_bipush (n := (-4)) (v := (-4)) (q := 18) (by decide +kernel) rfl (by decide) ?_
      exact z_iret (by decide +kernel)
  · refine z_iconst (n := (-1)) (v := (-1)) (q := 8) (by decide +kernel) rfl (by decide) ?_
    exact z_iret (by decide +kernel)
theorem rc_X5_fair (v0 : Nat) (v1 : Int32) : ∀ h x, dn_X5_fair v0 v1 h = some x → ∃ fs, zgO 5 v0 h = some fs := fun h x hd => by
  obtain ⟨fs, e, -⟩ := Option.bind_eq_some_iff.mp hd
  exact ⟨fs, e⟩
def jn_X5_post_17 : zAH → Option (Int32 × zAH) := fun h => some ((-1), h)
theorem sj_X5_post_17 (g : zG) (l : Launch) : zSm g l cX5_post 7 RX5 "post" (some .int) 5 114 zrI 17 [] [] (jn_X5_post_17) := by
  unfold jn_X5_post_17
  refine z_iconst (n := (-1)) (v := (-1)) (q := 18) (by decide +kernel) rfl (by decide) ?_
  exact z_iret (by decide +kernel)
def jn_X5_post_148 (kc84 : (Int32 × Int32 × Int32) → zAH → Option (Int32 × zAH)) (kc94 : (Int32 × Int32 × Int32) → zAH → Option (Int32 × zAH)) (v0 : Nat) (v1 : Int32) (v2 : Int32) (v3 : Int32) (v4 : Int32) (v5 : Int32) (v6 : Int32) : zAH → Option (Int32 × zAH) := fun h => kc94 (v3, v4, v6 + 1) h
theorem sj_X5_post_148 (g : zG) (l : Launch) (kc84 : (Int32 × Int32 × Int32) → zAH → Option (Int32 × zAH)) (kc94 : (Int32 × Int32 × Int32) → zAH → Option (Int32 × zAH)) (v0 : Nat) (v1 : Int32) (v2 : Int32) (v3 : Int32) (v4 : Int32) (v5 : Int32) (v6 : Int32) (hkc84 : ∀ s, zSm g l cX5_post 7 RX5 "post" (some .int) 5 114 zrI 84 [(0, .ref v0), (1, .int v1), (2, .int v2), (3, .int s.1), (4, .int s.2.1), (5, .int s.2.2)] [] (kc84 s)) (hkc94 : ∀ s, zSm g l cX5_post 7 RX5 "post" (some .int) 5 114 zrI 94 [(0, .ref v0), (1, .int v1), (2, .int v2), (3, .int s.1), (4, .int s.2.1), (5, .int v5), (6, .int s.2.2)] [] (kc94 s)) : zSm g l cX5_post 7 RX5 "post" (some .int) 5 114 zrI 148 [(0, .ref v0), (1, .int v1), (2, .int v2), (3, .int v3), (4, .int v4), (5, .int v5), (6, .int v6)] [] (jn_X5_post_148 kc84 kc94 v0 v1 v2 v3 v4 v5 v6) := by
  unfold jn_X5_post_148
  refine z_iinc (j := 6) (n := 1) (v := 1) (q := 151) (by decide +kernel) rfl 6 rfl (by decide) (by decide) rfl ?_
  refine z_goto (off := (-57)) (t := 94) (by decide +kernel) (by decide) ?_
  refine zsub [1, 2, 3, 4, 5, 6, 0] rfl ?_
  exact hkc94 (v3, v4, v6 + 1)
def jn_X5_post_165 (kc84 : (Int32 × Int32 × Int32) → zAH → Option (Int32 × zAH)) (v0 : Nat) (v1 : Int32) (v2 : Int32) (v3 : Int32) (v4 : Int32) (v5 : Int32) : zAH → Option (Int32 × zAH) := fun h => kc84 (v3, v4, v5 + 1) h
theorem sj_X5_post_165 (g : zG) (l : Launch) (kc84 : (Int32 × Int32 × Int32) → zAH → Option (Int32 × zAH)) (v0 : Nat) (v1 : Int32) (v2 : Int32) (v3 : Int32) (v4 : Int32) (v5 : Int32) (hkc84 : ∀ s, zSm g l cX5_post 7 RX5 "post" (some .int) 5 114 zrI 84 [(0, .ref v0), (1, .int v1), (2, .int v2), (3, .int s.1), (4, .int s.2.1), (5, .int s.2.2)] [] (kc84 s)) : zSm g l cX5_post 7 RX5 "post" (some .int) 5 114 zrI 165 [(0, .ref v0), (1, .int v1), (2, .int v2), (3, .int v3), (4, .int v4), (5, .int v5)] [] (jn_X5_post_165 kc84 v0 v1 v2 v3 v4 v5) := by
  unfold jn_X5_post_165
  refine z_iinc (j := 5) (n := 1) (v := 1) (q := 168) (by decide +kernel) rfl 5 rfl (by decide) (by decide) rfl ?_
  refine z_goto (off := (-84)) (t := 84) (by decide +kernel) (by decide) ?_
  refine zsub [1, 2, 3, 4, 5, 0] rfl ?_
  exact hkc84 (v3, v4, v5 + 1)
def jn_X5_post_154 (kc84 : (Int32 × Int32 × Int32) → zAH → Option (Int32 × zAH)) (v0 : Nat) (v1 : Int32) (v2 : Int32) (v3 : Int32) (v4 : Int32) (v5 : Int32) : zAH → Option (Int32 × zAH) := fun h => zbd (dn_X5_isEnd v0 h) fun x1 h2 => if x1 = 0 then zbd (dn_X5_step v0 h2) fun x3 h4 => jn_X5_post_165 kc84 v0 v1 v2 v3 v4 v5 h4 else jn_X5_post_165 kc84 v0 v1 v2 v3 v4 v5 h2
theorem sj_X5_post_154 (g : zG) (l : Launch) (kc84 : (Int32 × Int32 × Int32) → zAH → Option (Int32 × zAH)) (v0 : Nat) (v1 : Int32) (v2 : Int32) (v3 : Int32) (v4 : Int32) (v5 : Int32) (hkc84 : ∀ s, zSm g l cX5_post 7 RX5 "post" (some .int) 5 114 zrI 84 [(0, .ref v0), (1, .int v1), (2, .int v2), (3, .int s.1), (4, .int s.2.1), (5, .int s.2.2)] [] (kc84 s)) : zSm g l cX5_post 7 RX5 "post" (some .int) 5 114 zrI 154 [(0, .ref v0), (1, .int v1), (2, .int v2), (3, .int v3), (4, .int v4), (5, .int v5)] [] (jn_X5_post_154 kc84 v0 v1 v2 v3 v4 v5) := by
  unfold jn_X5_post_154
  refine z_aload_n (j := 0) (q := 155) (by decide +kernel) rfl 0 rfl ?_
  refine z_callVI (As := []) (st := []) (q := 158) (ct_X5_isEnd g l v0) zm_RX5_217 (rc_X5_isEnd v0) rfl (by decide) (by decide) (Nat.le_of_ble_eq_true rfl) rfl (by decide +kernel) rfl fun x1 => ?_
  refine z_if_ne (off := 7) (t := 165) (q := 161) (by decide +kernel) (by decide) rfl ?_ ?_
  · refine zsub [0, 1, 2, 3, 4, 5] rfl ?_
    exact sj_X5_post_165 g l kc84 v0 v1 v2 v3 v4 v5 hkc84
  · refine z_aload_n (j := 0) (q := 162) (by decide +kernel) rfl 0 rfl ?_
    refine z_callVU (As := []) (st := []) (q := 165) (ct_X5_step g l v0) zm_RX5_221 (rc_X5_step v0) rfl (by decide) (by decide) (Nat.le_of_ble_eq_true rfl) rfl (by decide +kernel) rfl fun x3 => ?_
    refine zsub [0, 1, 2, 3, 4, 5] rfl ?_
    exact sj_X5_post_165 g l kc84 v0 v1 v2 v3 v4 v5 hkc84
def lb_X5_post_94 (kc84 : (Int32 × Int32 × Int32) → zAH → Option (Int32 × zAH)) (v0 : Nat) (v1 : Int32) (v2 : Int32) (v5 : Int32) (rec : (Int32 × Int32 × Int32) → zAH → Option (Int32 × zAH)) (s : Int32 × Int32 × Int32) : zAH → Option (Int32 × zAH) := fun h => (zgI 5 12 v0 h).bind fun x1 => if s.2.2 < x1 then zbd (dn_X5_has s.1 s.2.2 h) fun x2 h3 => if x2 = 0 then zbd (dn_X5_v v0 (3 + s.2.2) h3) fun x4 h5 => if x4 < v1 then jn_X5_post_148 kc84 rec v0 v1 v2 s.1 s.2.1 v5 s.2.2 h5 else (zgA 5 6 v0 h5).bind fun x6 => (zaS 0 x6 ((60 * v2) + s.2.1) s.2.2 h5).bind fun h7 => jn_X5_post_148 kc84 rec v0 v1 v2 (s.1 ||| (1 <<< (s.2.2 &&& 31))) (s.2.1 + 1) v5 s.2.2 h7 else jn_X5_post_148 kc84 rec v0 v1 v2 s.1 s.2.1 v5 s.2.2 h3 else jn_X5_post_154 kc84 v0 v1 v2 s.1 s.2.1 v5 h
def lp_X5_post_94 (kc84 : (Int32 × Int32 × Int32) → zAH → Option (Int32 × zAH)) (v0 : Nat) (v1 : Int32) (v2 : Int32) (v5 : Int32) (s : Int32 × Int32 × Int32) : zAH → Option (Int32 × zAH) := zlp (lb_X5_post_94 kc84 v0 v1 v2 v5) 2000 s
theorem sl_X5_post_94 (g : zG) (l : Launch) (kc84 : (Int32 × Int32 × Int32) → zAH → Option (Int32 × zAH)) (v0 : Nat) (v1 : Int32) (v2 : Int32) (v5 : Int32) (hkc84 : ∀ s, zSm g l cX5_post 7 RX5 "post" (some .int) 5 114 zrI 84 [(0, .ref v0), (1, .int v1), (2, .int v2), (3, .int s.1), (4, .int s.2.1), (5, .int s.2.2)] [] (kc84 s)) (s : Int32 × Int32 × Int32) : zSm g l cX5_post 7 RX5 "post" (some .int) 5 114 zrI 94 [(0, .ref v0), (1, .int v1), (2, .int v2), (3, .int s.1), (4, .int s.2.1), (5, .int v5), (6, .int s.2.2)] [] (lp_X5_post_94 kc84 v0 v1 v2 v5 s) := by
  unfold lp_X5_post_94
  refine z_loop (lvf := fun s => [(0, .ref v0), (1, .int v1), (2, .int v2), (3, .int s.1), (4, .int s.2.1), (5, .int v5), (6, .int s.2.2)]) (fun rec hrec s => ?_) 2000 s
  unfold lb_X5_post_94
  refine z_iload (j := 6) (q := 96) (by decide +kernel) rfl 6 rfl ?_
  refine z_aload_n (j := 0) (q := 97) (by decide +kernel) rfl 0 rfl ?_
  refine z_getI (q := 100) zf_RX5_147 (by decide +kernel) rfl fun x1 => ?_
  refine z_icmp_ge (off := 54) (t := 154) (q := 103) (by decide +kernel) (by decide) rfl ?_ ?_
  · refine zsub [0, 1, 2, 3, 4, 5] rfl ?_
    exact sj_X5_post_154 g l kc84 v0 v1 v2 s.1 s.2.1 v5 hkc84
  · refine z_iload_n (j := 3) (q := 104) (by decide +kernel) rfl 3 rfl ?_
    refine z_iload (j := 6) (q := 106) (by decide +kernel) rfl 6 rfl ?_
    refine z_callSI (As := [.int s.1, .int s.2.2]) (st := []) (q := 109) (ct_X5_has g l s.1 s.2.2) zm_RX5_284 rfl (by decide) (by decide) (Nat.le_of_ble_eq_true rfl) rfl (by decide +kernel) rfl fun x2 => ?_
    refine z_if_ne (off := 39) (t := 148) (q := 112) (by decide +kernel) (by decide) rfl ?_ ?_
    · refine zsub [0, 1, 2, 3, 4, 5, 6] rfl ?_
      exact sj_X5_post_148 g l kc84 rec v0 v1 v2 s.1 s.2.1 v5 s.2.2 hkc84 hrec
    · refine z_aload_n (j := 0) (q := 113) (by decide +kernel) rfl 0 rfl ?_
      refine z_iconst (n := 3) (v := 3) (q := 114) (by decide +kernel) rfl (by decide) ?_
      refine z_iload (j := 6) (q := 116) (by decide +kernel) rfl 6 rfl ?_
      refine z_iadd (q := 117) (by decide +kernel) rfl ?_
      refine z_callVI (As := [.int (3 + s.2.2)]) (st := []) (q := 120) (ct_X5_v g l v0 (3 + s.2.2)) zm_RX5_190 (rc_X5_v v0 (3 + s.2.2)) rfl (by decide) (by decide) (Nat.le_of_ble_eq_true rfl) rfl (by decide +kernel) rfl fun x4 => ?_
      refine z_iload_n (j := 1) (q := 121) (by decide +kernel) rfl 1 rfl ?_
      refine z_icmp_lt (off := 27) (t := 148) (q := 124) (by decide +kernel) (by decide) rfl ?_ ?_
      · refine zsub [0, 1, 2, 3, 4, 5, 6] rfl ?_
        exact sj_X5_post_148 g l kc84 rec v0 v1 v2 s.1 s.2.1 v5 s.2.2 hkc84 hrec
      · refine z_aload_n (j := 0) (q := 125) (by decide +kernel) rfl 0 rfl ?_
        refine z_getA (q := 128) zf_RX5_16 (by decide +kernel) rfl fun x6 => ?_
        refine z_bipush (n := 60) (v := 60) (q := 130) (by decide +kernel) rfl (by decide) ?_
        refine z_iload_n (j := 2) (q := 131) (by decide +kernel) rfl 2 rfl ?_
        refine z_imul (q := 132) (by decide +kernel) rfl ?_
        refine z_iload (j := 4) (q := 134) (by decide +kernel) rfl 4 rfl ?_
        refine z_iadd (q := 135) (by decide +kernel) rfl ?_
        refine z_iload (j := 6) (q := 137) (by decide +kernel) rfl 6 rfl ?_
        refine z_iast (q := 138) (Or.inl ⟨rfl, rfl, rfl⟩) (by decide +kernel) rfl ?_
        refine z_iinc (j := 4) (n := 1) (v := 1) (q := 141) (by decide +kernel) rfl 4 rfl (by decide) (by decide) rfl ?_
        refine z_iload_n (j := 3) (q := 142) (by decide +kernel) rfl 4 rfl ?_
        refine z_iconst (n := 1) (v := 1) (q := 143) (by decide +kernel) rfl (by decide) ?_
        refine z_iload (j := 6) (q := 145) (by decide +kernel) rfl 6 rfl ?_
        refine z_ishl (q := 146) (by decide +kernel) rfl ?_
        refine z_ior (q := 147) (by decide +kernel) rfl ?_
        refine z_istore_n (j := 3) (q := 148) (by decide +kernel) rfl (by decide) rfl ?_
        refine zsub [2, 3, 4, 0, 1, 5, 6] rfl ?_
        exact sj_X5_post_148 g l kc84 rec v0 v1 v2 (s.1 ||| (1 <<< (s.2.2 &&& 31))) (s.2.1 + 1) v5 s.2.2 hkc84 hrec
def jn_X5_post_171 (v0 : Nat) (v2 : Int32) (v4 : Int32) : zAH → Option (Int32 × zAH) := fun h => (zgA 5 5 v0 h).bind fun x1 => (zaS 0 x1 v2 v4 h).bind fun h2 => some (v4, h2)
theorem sj_X5_post_171 (g : zG) (l : Launch) (v0 : Nat) (v2 : Int32) (v4 : Int32) : zSm g l cX5_post 7 RX5 "post" (some .int) 5 114 zrI 171 [(0, .ref v0), (2, .int v2), (4, .int v4)] [] (jn_X5_post_171 v0 v2 v4) := by
  unfold jn_X5_post_171
  refine z_aload_n (j := 0) (q := 172) (by decide +kernel) rfl 0 rfl ?_
  refine z_getA (q := 175) zf_RX5_13 (by decide +kernel) rfl fun x1 => ?_
  refine z_iload_n (j := 2) (q := 176) (by decide +kernel) rfl 1 rfl ?_
  refine z_iload (j := 4) (q := 178) (by decide +kernel) rfl 2 rfl ?_
  refine z_iast (q := 179) (Or.inl ⟨rfl, rfl, rfl⟩) (by decide +kernel) rfl ?_
  refine z_iload (j := 4) (q := 181) (by decide +kernel) rfl 2 rfl ?_
  exact z_iret (by decide +kernel)
def lb_X5_post_84 (v0 : Nat) (v1 : Int32) (v2 : Int32) (rec : (Int32 × Int32 × Int32) → zAH → Option (Int32 × zAH)) (s : Int32 × Int32 × Int32) : zAH → Option (Int32 × zAH) := fun h => if 60 < s.2.2 then jn_X5_post_171 v0 v2 s.2.1 h else lp_X5_post_94 rec v0 v1 v2 s.2.2 (s.1, s.2.1, 0) h
def lp_X5_post_84 (v0 : Nat) (v1 : Int32) (v2 : Int32) (s : Int32 × Int32 × Int32) : zAH → Option (Int32 × zAH) := zlp (lb_X5_post_84 v0 v1 v2) 2000 s
theorem sl_X5_post_84 (g : zG) (l : Launch) (v0 : Nat) (v1 : Int32) (v2 : Int32) (s : Int32 × Int32 × Int32) : zSm g l cX5_post 7 RX5 "post" (some .int) 5 114 zrI 84 [(0, .ref v0), (1, .int v1), (2, .int v2), (3, .int s.1), (4, .int s.2.1), (5, .int s.2.2)] [] (lp_X5_post_84 v0 v1 v2 s) := by
  unfold lp_X5_post_84
  refine z_loop (lvf := fun s => [(0, .ref v0), (1, .int v1), (2, .int v2), (3, .int s.1), (4, .int s.2.1), (5, .int s.2.2)]) (fun rec hrec s => ?_) 2000 s
  unfold lb_X5_post_84
  refine z_iload (j := 5) (q := 86) (by decide +kernel) rfl 5 rfl ?_
  refine z_bipush (n := 60) (v := 60) (q := 88) (by decide +kernel) rfl (by decide) ?_
  refine z_icmp_gt (off := 83) (t := 171) (q := 91) (by decide +kernel) (by decide) rfl ?_ ?_
  · refine zsub [0, 2, 4] rfl ?_
    exact sj_X5_post_171 g l v0 v2 s.2.1
  · refine z_iconst (n := 0) (v := 0) (q := 92) (by decide +kernel) rfl (by decide) ?_
    refine z_istore (j := 6) (q := 94) (by decide +kernel) rfl (by decide) rfl ?_
    refine zsub [1, 2, 3, 4, 5, 6, 0] rfl ?_
    exact sl_X5_post_94 g l rec v0 v1 v2 s.2.2 hrec (s.1, s.2.1, 0)
def jn_X5_post_81 (v0 : Nat) (v1 : Int32) (v2 : Int32) (v3 : Int32) (v4 : Int32) : zAH → Option (Int32 × zAH) := fun h => lp_X5_post_84 v0 v1 v2 (v3, v4, 0) h
theorem sj_X5_post_81 (g : zG) (l : Launch) (v0 : Nat) (v1 : Int32) (v2 : Int32) (v3 : Int32) (v4 : Int32) : zSm g l cX5_post 7 RX5 "post" (some .int) 5 114 zrI 81 [(0, .ref v0), (1, .int v1), (2, .int v2), (3, .int v3), (4, .int v4)] [] (jn_X5_post_81 v0 v1 v2 v3 v4) := by
  unfold jn_X5_post_81
  refine z_iconst (n := 0) (v := 0) (q := 82) (by decide +kernel) rfl (by decide) ?_
  refine z_istore (j := 5) (q := 84) (by decide +kernel) rfl (by decide) rfl ?_
  refine zsub [1, 2, 3, 4, 5, 0] rfl ?_
  exact sl_X5_post_84 g l v0 v1 v2 (v3, v4, 0)
def lb_X5_post_55 (v0 : Nat) (v1 : Int32) (v2 : Int32) (v3 : Int32) (v4 : Int32) (rec : (Int32) → zAH → Option (Int32 × zAH)) (s : Int32) : zAH → Option (Int32 × zAH) := fun h => if s < 60 then (zgA 5 6 v0 h).bind fun x1 => (zaS 0 x1 ((60 * v2) + s) 0 h).bind fun h2 => rec (s + 1) h2 else jn_X5_post_81 v0 v1 v2 v3 v4 h
def lp_X5_post_55 (v0 : Nat) (v1 : Int32) (v2 : Int32) (v3 : Int32) (v4 : Int32) (s : Int32) : zAH → Option (Int32 × zAH) := zlp (lb_X5_post_55 v0 v1 v2 v3 v4) 2000 s
theorem sl_X5_post_55 (g : zG) (l : Launch) (v0 : Nat) (v1 : Int32) (v2 : Int32) (v3 : Int32) (v4 : Int32) (s : Int32) : zSm g l cX5_post 7 RX5 "post" (some .int) 5 114 zrI 55 [(0, .ref v0), (1, .int v1), (2, .int v2), (3, .int v3), (4, .int v4), (5, .int s)] [] (lp_X5_post_55 v0 v1 v2 v3 v4 s) := by
  unfold lp_X5_post_55
  refine z_loop (lvf := fun s => [(0, .ref v0), (1, .int v1), (2, .int v2), (3, .int v3), (4, .int v4), (5, .int s)]) (fun rec hrec s => ?_) 2000 s
  unfold lb_X5_post_55
  refine z_iload (j := 5) (q := 57) (by decide +kernel) rfl 5 rfl ?_
  refine z_bipush (n := 60) (v := 60) (q := 59) (by decide +kernel) rfl (by decide) ?_
  refine z_icmp_ge (off := 22) (t := 81) (q := 62) (by decide +kernel) (by decide) rfl ?_ ?_
  · refine zsub [0, 1, 2, 3, 4] rfl ?_
    exact sj_X5_post_81 g l v0 v1 v2 v3 v4
  · refine z_aload_n (j := 0) (q := 63) (by decide +kernel) rfl 0 rfl ?_
    refine z_getA (q := 66) zf_RX5_16 (by decide +kernel) rfl fun x1 => ?_
    refine z_bipush (n := 60) (v := 60) (q := 68) (by decide +kernel) rfl (by decide) ?_
    refine z_iload_n (j := 2) (q := 69) (by decide +kernel) rfl 2 rfl ?_
    refine z_imul (q := 70) (by decide +kernel) rfl ?_
    refine z_iload (j := 5) (q := 72) (by decide +kernel) rfl 5 rfl ?_
    refine z_iadd (q := 73) (by decide +kernel) rfl ?_
    refine z_iconst (n := 0) (v := 0) (q := 74) (by decide +kernel) rfl (by decide) ?_
    refine z_iast (q := 75) (Or.inl ⟨rfl, rfl, rfl⟩) (by decide +kernel) rfl ?_
    refine z_iinc (j := 5) (n := 1) (v := 1) (q := 78) (by decide +kernel) rfl 5 rfl (by decide) (by decide) rfl ?_
    refine z_goto (off := (-23)) (t := 55) (by decide +kernel) (by decide) ?_
    refine zsub [1, 2, 3, 4, 5, 0] rfl ?_
    exact hrec (s + 1)
def dn_X5_post (v0 : Nat) (v1 : Int32) (v2 : Int32) : zAH → Option (Int32 × zAH) := fun h => (zgO 5 v0 h).bind fun _ => zbd (dn_X5_in v1 1 40 h) fun x1 h2 => if x1 = 0 then jn_X5_post_17 h2 else zbd (dn_X5_isRow v2 h2) fun x3 h4 => if x3 = 0 then jn_X5_post_17 h4 else (zgI 5 10 v0 h4).bind fun x5 => if x5 = 0 then some ((-4), h4) else (zgI 5 10 v0 h4).bind fun x6 => if x6 < v1 then zbd (dn_X5_meets v0 2 h4) fun x9 h10 => some (x9, h10) else zbd (dn_X5_layWhole v0 h4) fun x7 h8 => lp_X5_post_55 v0 v1 v2 0 0 0 h8
theorem ct_X5_post (g : zG) (l : Launch) (v0 : Nat) (v1 : Int32) (v2 : Int32) : zCt g l yX5_post cX5_post 7 (some .int) 5 114 zrI [.ref v0, .int v1, .int v2] (dn_X5_post v0 v1 v2) := by
  refine zCt_of (lv := [(0, .ref v0), (1, .int v1), (2, .int v2)]) (by decide +kernel) (Nat.le_of_ble_eq_true rfl) rfl ?_
  show zSm g l cX5_post 7 RX5 "post" (some .int) 5 114 zrI 0 [(0, .ref v0), (1, .int v1), (2, .int v2)] [] (dn_X5_post v0 v1 v2)
  unfold dn_X5_post
  refine z_rec ?_
  refine z_iload_n (j := 1) (q := 1) (by decide +kernel) rfl 1 rfl ?_
  refine z_iconst (n := 1) (v := 1) (q := 2) (by decide +kernel) rfl (by decide) ?_
  refine z_bipush (n := 40) (v := 40) (q := 4) (by decide +kernel) rfl (by decide) ?_
  refine z_callSI (As := [.int v1, .int 1, .int 40]) (st := []) (q := 7) (ct_X5_in g l v1 1 40) zm_RX5_86 rfl (by decide) (by decide) (Nat.le_of_ble_eq_true rfl) rfl (by decide +kernel) rfl fun x1 => ?_
  refine z_if_eq (off := 10) (t := 17) (q := 10) (by decide +kernel) (by decide) rfl ?_ ?_
  · refine zsub [] rfl ?_
    exact sj_X5_post_17 g l 
  · refine z_iload_n (j := 2) (q := 11) (by decide +kernel) rfl 2 rfl ?_
    refine z_callSI (As := [.int v2]) (st := []) (q := 14) (ct_X5_isRow g l v2) zm_RX5_96 rfl (by decide) (by decide) (Nat.le_of_ble_eq_true rfl) rfl (by decide +kernel) rfl fun x3 => ?_
    refine z_if_ne (off := 5) (t := 19) (q := 17) (by decide +kernel) (by decide) rfl ?_ ?_
    · refine z_aload_n (j := 0) (q := 20) (by decide +kernel) rfl 0 rfl ?_
      refine z_getI (q := 23) zf_RX5_144 (by decide +kernel) rfl fun x5 => ?_
      refine z_if_ne (off := 6) (t := 29) (q := 26) (by decide +kernel) (by decide) rfl ?_ ?_
      · refine z_iload_n (j := 1) (q := 30) (by decide +kernel) rfl 1 rfl ?_
        refine z_aload_n (j := 0) (q := 31) (by decide +kernel) rfl 0 rfl ?_
        refine z_getI (q := 34) zf_RX5_144 (by decide +kernel) rfl fun x6 => ?_
        refine z_icmp_le (off := 9) (t := 43) (q := 37) (by decide +kernel) (by decide) rfl ?_ ?_
        · refine z_aload_n (j := 0) (q := 44) (by decide +kernel) rfl 0 rfl ?_
          refine z_callVU (As := []) (st := []) (q := 47) (ct_X5_layWhole g l v0) zm_RX5_278 (rc_X5_layWhole v0) rfl (by decide) (by decide) (Nat.le_of_ble_eq_true rfl) rfl (by decide +kernel) rfl fun x7 => ?_
          refine z_iconst (n := 0) (v := 0) (q := 48) (by decide +kernel) rfl (by decide) ?_
          refine z_istore_n (j := 3) (q := 49) (by decide +kernel) rfl (by decide) rfl ?_
          refine z_iconst (n := 0) (v := 0) (q := 50) (by decide +kernel) rfl (by decide) ?_
          refine z_istore (j := 4) (q := 52) (by decide +kernel) rfl (by decide) rfl ?_
          refine z_iconst (n := 0) (v := 0) (q := 53) (by decide +kernel) rfl (by decide) ?_
          refine z_istore (j := 5) (q := 55) (by decide +kernel) rfl (by decide) rfl ?_
          refine zsub [3, 4, 5, 2, 1, 0] rfl ?_
          exact sl_X5_post_55 g l v0 v1 v2 0 0 0
        · refine z_aload_n (j := 0) (q := 38) (by decide +kernel) rfl 0 rfl ?_
          refine z_iconst (n := 2) (v := 2) (q := 39) (by decide +kernel) rfl (by decide) ?_
          refine z_callVI (As := [.int 2]) (st := []) (q := 42) (ct_X5_meets g l v0 2) zm_RX5_100 (rc_X5_meets v0 2) rfl (by decide) (by decide) (Nat.le_of_ble_eq_true rfl) rfl (by decide +kernel) rfl fun x9 => ?_
          exact z_iret (by decide +kernel)
      · refine z_bipush (n := (-4)) (v := (-4)) (q := 28) (by decide +kernel) rfl (by decide) ?_
        exact z_iret (by decide +kernel)
    · refine zsub [] rfl ?_
      exact sj_X5_post_17 g l 
theorem rc_X5_post (v0 : Nat) (v1 : Int32) (v2 : Int32) : ∀ h x, dn_X5_post v0 v1 v2 h = some x → ∃ fs, zgO 5 v0 h = some fs := fun h x hd => by
  obtain ⟨fs, e, -⟩ := Option.bind_eq_some_iff.mp hd
  exact ⟨fs, e⟩
def jn_X5_placeIn_22 (v3 : Int32) : zAH → Option (Int32 × zAH) := fun h => some (v3, h)
theorem sj_X5_placeIn_22 (g : zG) (l : Launch) (v3 : Int32) : zSm g l cX5_placeIn 4 RX5 "placeIn" (some .int) 1 22 zrI 22 [(3, .int v3)] [] (jn_X5_placeIn_22 v3) := by
  unfold jn_X5_placeIn_22
  refine z_iload_n (j := 3) (q := 23) (by decide +kernel) rfl 0 rfl ?_
  exact z_iret (by decide +kernel)
def jn_X5_placeIn_30 : zAH → Option (Int32 × zAH) := fun h => some ((-9), h)
theorem sj_X5_placeIn_30 (g : zG) (l : Launch) : zSm g l cX5_placeIn 4 RX5 "placeIn" (some .int) 1 22 zrI 30 [] [] (jn_X5_placeIn_30) := by
  unfold jn_X5_placeIn_30
  refine z_bipush (n := (-9)) (v := (-9)) (q := 32) (by decide +kernel) rfl (by decide) ?_
  exact z_iret (by decide +kernel)
def lb_X5_placeIn_2 (v0 : Nat) (v1 : Int32) (v2 : Int32) (rec : (Int32) → zAH → Option (Int32 × zAH)) (s : Int32) : zAH → Option (Int32 × zAH) := fun h => (zgA 5 5 v0 h).bind fun x1 => (zaI 0 x1 v1 h).bind fun x2 => if s < x2 then zbd (dn_X5_rowAt v0 v1 s h) fun x3 h4 => if x3 = v2 then jn_X5_placeIn_22 s h4 else rec (s + 1) h4 else jn_X5_placeIn_30 h
def lp_X5_placeIn_2 (v0 : Nat) (v1 : Int32) (v2 : Int32) (s : Int32) : zAH → Option (Int32 × zAH) := zlp (lb_X5_placeIn_2 v0 v1 v2) 2000 s
theorem sl_X5_placeIn_2 (g : zG) (l : Launch) (v0 : Nat) (v1 : Int32) (v2 : Int32) (s : Int32) : zSm g l cX5_placeIn 4 RX5 "placeIn" (some .int) 1 22 zrI 2 [(0, .ref v0), (1, .int v1), (2, .int v2), (3, .int s)] [] (lp_X5_placeIn_2 v0 v1 v2 s) := by
  unfold lp_X5_placeIn_2
  refine z_loop (lvf := fun s => [(0, .ref v0), (1, .int v1), (2, .int v2), (3, .int s)]) (fun rec hrec s => ?_) 2000 s
  unfold lb_X5_placeIn_2
  refine z_iload_n (j := 3) (q := 3) (by decide +kernel) rfl 3 rfl ?_
  refine z_aload_n (j := 0) (q := 4) (by decide +kernel) rfl 0 rfl ?_
  refine z_getA (q := 7) zf_RX5_13 (by decide +kernel) rfl fun x1 => ?_
  refine z_iload_n (j := 1) (q := 8) (by decide +kernel) rfl 1 rfl ?_
  refine z_iald (q := 9) (Or.inl ⟨rfl, rfl⟩) (by decide +kernel) rfl fun x2 => ?_
  refine z_icmp_ge (off := 21) (t := 30) (q := 12) (by decide +kernel) (by decide) rfl ?_ ?_
  · refine zsub [] rfl ?_
    exact sj_X5_placeIn_30 g l 
  · refine z_aload_n (j := 0) (q := 13) (by decide +kernel) rfl 0 rfl ?_
    refine z_iload_n (j := 1) (q := 14) (by decide +kernel) rfl 1 rfl ?_
    refine z_iload_n (j := 3) (q := 15) (by decide +kernel) rfl 3 rfl ?_
    refine z_callVI (As := [.int v1, .int s]) (st := []) (q := 18) (ct_X5_rowAt g l v0 v1 s) zm_RX5_104 (rc_X5_rowAt v0 v1 s) rfl (by decide) (by decide) (Nat.le_of_ble_eq_true rfl) rfl (by decide +kernel) rfl fun x3 => ?_
    refine z_iload_n (j := 2) (q := 19) (by decide +kernel) rfl 2 rfl ?_
    refine z_icmp_ne (off := 5) (t := 24) (q := 22) (by decide +kernel) (by decide) rfl ?_ ?_
    · refine z_iinc (j := 3) (n := 1) (v := 1) (q := 27) (by decide +kernel) rfl 3 rfl (by decide) (by decide) rfl ?_
      refine z_goto (off := (-25)) (t := 2) (by decide +kernel) (by decide) ?_
      refine zsub [1, 2, 3, 0] rfl ?_
      exact hrec (s + 1)
    · refine zsub [3] rfl ?_
      exact sj_X5_placeIn_22 g l s
def dn_X5_placeIn (v0 : Nat) (v1 : Int32) (v2 : Int32) : zAH → Option (Int32 × zAH) := fun h => (zgO 5 v0 h).bind fun _ => lp_X5_placeIn_2 v0 v1 v2 0 h
theorem ct_X5_placeIn (g : zG) (l : Launch) (v0 : Nat) (v1 : Int32) (v2 : Int32) : zCt g l yX5_placeIn cX5_placeIn 4 (some .int) 1 22 zrI [.ref v0, .int v1, .int v2] (dn_X5_placeIn v0 v1 v2) := by
  refine zCt_of (lv := [(0, .ref v0), (1, .int v1), (2, .int v2)]) (by decide +kernel) (Nat.le_of_ble_eq_true rfl) rfl ?_
  show zSm g l cX5_placeIn 4 RX5 "placeIn" (some .int) 1 22 zrI 0 [(0, .ref v0), (1, .int v1), (2, .int v2)] [] (dn_X5_placeIn v0 v1 v2)
  unfold dn_X5_placeIn
  refine z_rec ?_
  refine z_iconst (n := 0) (v := 0) (q := 1) (by decide +kernel) rfl (by decide) ?_
  refine z_istore_n (j := 3) (q := 2) (by decide +kernel) rfl (by decide) rfl ?_
  refine zsub [1, 2, 3, 0] rfl ?_
  exact sl_X5_placeIn_2 g l v0 v1 v2 0
theorem rc_X5_placeIn (v0 : Nat) (v1 : Int32) (v2 : Int32) : ∀ h x, dn_X5_placeIn v0 v1 v2 h = some x → ∃ fs, zgO 5 v0 h = some fs := fun h x hd => by
  obtain ⟨fs, e, -⟩ := Option.bind_eq_some_iff.mp hd
  exact ⟨fs, e⟩
def jn_X5_runnersIn_40 : zAH → Option (Int32 × zAH) := fun h => some ((-1), h)
theorem sj_X5_runnersIn_40 (g : zG) (l : Launch) : zSm g l cX5_runnersIn 5 RX5 "runnersIn" (some .int) 2 43 zrI 40 [] [] (jn_X5_runnersIn_40) := by
  unfold jn_X5_runnersIn_40
  refine z_iconst (n := (-1)) (v := (-1)) (q := 41) (by decide +kernel) rfl (by decide) ?_
  exact z_iret (by decide +kernel)
def jn_X5_runnersIn_55 (v2 : Int32) : zAH → Option (Int32 × zAH) := fun h => some (v2, h)
theorem sj_X5_runnersIn_55 (g : zG) (l : Launch) (v2 : Int32) : zSm g l cX5_runnersIn 5 RX5 "runnersIn" (some .int) 2 43 zrI 55 [(2, .int v2)] [] (jn_X5_runnersIn_55 v2) := by
  unfold jn_X5_runnersIn_55
  refine z_iload_n (j := 2) (q := 56) (by decide +kernel) rfl 0 rfl ?_
  exact z_iret (by decide +kernel)
def lb_X5_runnersIn_4 (v0 : Nat) (v1 : Int32) (rec : (Int32 × Int32) → zAH → Option (Int32 × zAH)) (s : Int32 × Int32) : zAH → Option (Int32 × zAH) := fun h => (zgA 5 5 v0 h).bind fun x1 => (zaI 0 x1 v1 h).bind fun x2 => if s.2 < x2 then zbd (dn_X5_rowAt v0 v1 s.2 h) fun x3 h4 => zbd (dn_X5_isRunner v0 x3 h4) fun x5 h6 => if x5 = 0 then jn_X5_runnersIn_40 h6 else zbd (dn_X5_has s.1 x3 h6) fun x7 h8 => if x7 = 0 then rec (s.1 ||| (1 <<< (x3 &&& 31)), s.2 + 1) h8 else jn_X5_runnersIn_40 h8 else jn_X5_runnersIn_55 s.1 h
def lp_X5_runnersIn_4 (v0 : Nat) (v1 : Int32) (s : Int32 × Int32) : zAH → Option (Int32 × zAH) := zlp (lb_X5_runnersIn_4 v0 v1) 2000 s
theorem sl_X5_runnersIn_4 (g : zG) (l : Launch) (v0 : Nat) (v1 : Int32) (s : Int32 × Int32) : zSm g l cX5_runnersIn 5 RX5 "runnersIn" (some .int) 2 43 zrI 4 [(0, .ref v0), (1, .int v1), (2, .int s.1), (3, .int s.2)] [] (lp_X5_runnersIn_4 v0 v1 s) := by
  unfold lp_X5_runnersIn_4
  refine z_loop (lvf := fun s => [(0, .ref v0), (1, .int v1), (2, .int s.1), (3, .int s.2)]) (fun rec hrec s => ?_) 2000 s
  unfold lb_X5_runnersIn_4
  refine z_iload_n (j := 3) (q := 5) (by decide +kernel) rfl 3 rfl ?_
  refine z_aload_n (j := 0) (q := 6) (by decide +kernel) rfl 0 rfl ?_
  refine z_getA (q := 9) zf_RX5_13 (by decide +kernel) rfl fun x1 => ?_
  refine z_iload_n (j := 1) (q := 10) (by decide +kernel) rfl 1 rfl ?_
  refine z_iald (q := 11) (Or.inl ⟨rfl, rfl⟩) (by decide +kernel) rfl fun x2 => ?_
  refine z_icmp_ge (off := 44) (t := 55) (q := 14) (by decide +kernel) (by decide) rfl ?_ ?_
  · refine zsub [2] rfl ?_
    exact sj_X5_runnersIn_55 g l s.1
  · refine z_aload_n (j := 0) (q := 15) (by decide +kernel) rfl 0 rfl ?_
    refine z_iload_n (j := 1) (q := 16) (by decide +kernel) rfl 1 rfl ?_
    refine z_iload_n (j := 3) (q := 17) (by decide +kernel) rfl 3 rfl ?_
    refine z_callVI (As := [.int v1, .int s.2]) (st := []) (q := 20) (ct_X5_rowAt g l v0 v1 s.2) zm_RX5_104 (rc_X5_rowAt v0 v1 s.2) rfl (by decide) (by decide) (Nat.le_of_ble_eq_true rfl) rfl (by decide +kernel) rfl fun x3 => ?_
    refine z_istore (j := 4) (q := 22) (by decide +kernel) rfl (by decide) rfl ?_
    refine z_aload_n (j := 0) (q := 23) (by decide +kernel) rfl 1 rfl ?_
    refine z_iload (j := 4) (q := 25) (by decide +kernel) rfl 0 rfl ?_
    refine z_callVI (As := [.int x3]) (st := []) (q := 28) (ct_X5_isRunner g l v0 x3) zm_RX5_160 (rc_X5_isRunner v0 x3) rfl (by decide) (by decide) (Nat.le_of_ble_eq_true rfl) rfl (by decide +kernel) rfl fun x5 => ?_
    refine z_if_eq (off := 12) (t := 40) (q := 31) (by decide +kernel) (by decide) rfl ?_ ?_
    · refine zsub [] rfl ?_
      exact sj_X5_runnersIn_40 g l 
    · refine z_iload_n (j := 2) (q := 32) (by decide +kernel) rfl 3 rfl ?_
      refine z_iload (j := 4) (q := 34) (by decide +kernel) rfl 0 rfl ?_
      refine z_callSI (As := [.int s.1, .int x3]) (st := []) (q := 37) (ct_X5_has g l s.1 x3) zm_RX5_284 rfl (by decide) (by decide) (Nat.le_of_ble_eq_true rfl) rfl (by decide +kernel) rfl fun x7 => ?_
      refine z_if_eq (off := 5) (t := 42) (q := 40) (by decide +kernel) (by decide) rfl ?_ ?_
      · refine z_iload_n (j := 2) (q := 43) (by decide +kernel) rfl 3 rfl ?_
        refine z_iconst (n := 1) (v := 1) (q := 44) (by decide +kernel) rfl (by decide) ?_
        refine z_iload (j := 4) (q := 46) (by decide +kernel) rfl 0 rfl ?_
        refine z_ishl (q := 47) (by decide +kernel) rfl ?_
        refine z_ior (q := 48) (by decide +kernel) rfl ?_
        refine z_istore_n (j := 2) (q := 49) (by decide +kernel) rfl (by decide) rfl ?_
        refine z_iinc (j := 3) (n := 1) (v := 1) (q := 52) (by decide +kernel) rfl 4 rfl (by decide) (by decide) rfl ?_
        refine z_goto (off := (-48)) (t := 4) (by decide +kernel) (by decide) ?_
        refine zsub [3, 4, 1, 0] rfl ?_
        exact hrec (s.1 ||| (1 <<< (x3 &&& 31)), s.2 + 1)
      · refine zsub [] rfl ?_
        exact sj_X5_runnersIn_40 g l 
def dn_X5_runnersIn (v0 : Nat) (v1 : Int32) : zAH → Option (Int32 × zAH) := fun h => (zgO 5 v0 h).bind fun _ => lp_X5_runnersIn_4 v0 v1 (0, 0) h
theorem ct_X5_runnersIn (g : zG) (l : Launch) (v0 : Nat) (v1 : Int32) : zCt g l yX5_runnersIn cX5_runnersIn 5 (some .int) 2 43 zrI [.ref v0, .int v1] (dn_X5_runnersIn v0 v1) := by
  refine zCt_of (lv := [(0, .ref v0), (1, .int v1)]) (by decide +kernel) (Nat.le_of_ble_eq_true rfl) rfl ?_
  show zSm g l cX5_runnersIn 5 RX5 "runnersIn" (some .int) 2 43 zrI 0 [(0, .ref v0), (1, .int v1)] [] (dn_X5_runnersIn v0 v1)
  unfold dn_X5_runnersIn
  refine z_rec ?_
  refine z_iconst (n := 0) (v := 0) (q := 1) (by decide +kernel) rfl (by decide) ?_
  refine z_istore_n (j := 2) (q := 2) (by decide +kernel) rfl (by decide) rfl ?_
  refine z_iconst (n := 0) (v := 0) (q := 3) (by decide +kernel) rfl (by decide) ?_
  refine z_istore_n (j := 3) (q := 4) (by decide +kernel) rfl (by decide) rfl ?_
  refine zsub [2, 3, 1, 0] rfl ?_
  exact sl_X5_runnersIn_4 g l v0 v1 (0, 0)
theorem rc_X5_runnersIn (v0 : Nat) (v1 : Int32) : ∀ h x, dn_X5_runnersIn v0 v1 h = some x → ∃ fs, zgO 5 v0 h = some fs := fun h x hd => by
  obtain ⟨fs, e, -⟩ := Option.bind_eq_some_iff.mp hd
  exact ⟨fs, e⟩
def jn_X5_could_30 : zAH → Option (Int32 × zAH) := fun h => some ((-1), h)
theorem sj_X5_could_30 (g : zG) (l : Launch) : zSm g l cX5_could 9 RX5 "could" (some .int) 3 67 zrI 30 [] [] (jn_X5_could_30) := by
  unfold jn_X5_could_30
  refine z_iconst (n := (-1)) (v := (-1)) (q := 31) (by decide +kernel) rfl (by decide) ?_
  exact z_iret (by decide +kernel)
def jn_X5_could_50 (v0 : Nat) : zAH → Option (Int32 × zAH) := fun h => zbd (dn_X5_meets v0 1 h) fun x1 h2 => some (x1, h2)
theorem sj_X5_could_50 (g : zG) (l : Launch) (v0 : Nat) : zSm g l cX5_could 9 RX5 "could" (some .int) 3 67 zrI 50 [(0, .ref v0)] [] (jn_X5_could_50 v0) := by
  unfold jn_X5_could_50
  refine z_aload_n (j := 0) (q := 51) (by decide +kernel) rfl 0 rfl ?_
  refine z_iconst (n := 1) (v := 1) (q := 52) (by decide +kernel) rfl (by decide) ?_
  refine z_callVI (As := [.int 1]) (st := []) (q := 55) (ct_X5_meets g l v0 1) zm_RX5_100 (rc_X5_meets v0 1) rfl (by decide) (by decide) (Nat.le_of_ble_eq_true rfl) rfl (by decide +kernel) rfl fun x1 => ?_
  exact z_iret (by decide +kernel)
def jn_X5_could_98 (v0 : Nat) : zAH → Option (Int32 × zAH) := fun h => zbd (dn_X5_meets v0 3 h) fun x1 h2 => some (x1, h2)
theorem sj_X5_could_98 (g : zG) (l : Launch) (v0 : Nat) : zSm g l cX5_could 9 RX5 "could" (some .int) 3 67 zrI 98 [(0, .ref v0)] [] (jn_X5_could_98 v0) := by
  unfold jn_X5_could_98
  refine z_aload_n (j := 0) (q := 99) (by decide +kernel) rfl 0 rfl ?_
  refine z_iconst (n := 3) (v := 3) (q := 100) (by decide +kernel) rfl (by decide) ?_
  refine z_callVI (As := [.int 3]) (st := []) (q := 103) (ct_X5_meets g l v0 3) zm_RX5_100 (rc_X5_meets v0 3) rfl (by decide) (by decide) (Nat.le_of_ble_eq_true rfl) rfl (by decide +kernel) rfl fun x1 => ?_
  exact z_iret (by decide +kernel)
def jn_X5_could_183 (kc110 : (Int32 × Int32) → zAH → Option (Int32 × zAH)) (kc127 : (Int32 × Int32) → zAH → Option (Int32 × zAH)) (v0 : Nat) (v1 : Int32) (v2 : Int32) (v3 : Int32) (v5 : Int32) (v6 : Int32) (w0 : Int32) (w1 : Int32) : zAH → Option (Int32 × zAH) := fun h => kc127 (w0 ||| w1, v6 + 1) h
theorem sj_X5_could_183 (g : zG) (l : Launch) (kc110 : (Int32 × Int32) → zAH → Option (Int32 × zAH)) (kc127 : (Int32 × Int32) → zAH → Option (Int32 × zAH)) (v0 : Nat) (v1 : Int32) (v2 : Int32) (v3 : Int32) (v5 : Int32) (v6 : Int32) (w0 : Int32) (w1 : Int32) (hkc110 : ∀ s, zSm g l cX5_could 9 RX5 "could" (some .int) 3 67 zrI 110 [(0, .ref v0), (1, .int v1), (2, .int v2), (3, .int v3), (4, .int s.1), (5, .int s.2)] [] (kc110 s)) (hkc127 : ∀ s, zSm g l cX5_could 9 RX5 "could" (some .int) 3 67 zrI 127 [(0, .ref v0), (1, .int v1), (2, .int v2), (3, .int v3), (4, .int s.1), (5, .int v5), (6, .int s.2)] [] (kc127 s)) : zSm g l cX5_could 9 RX5 "could" (some .int) 3 67 zrI 183 [(0, .ref v0), (1, .int v1), (2, .int v2), (3, .int v3), (5, .int v5), (6, .int v6)] [.int w1, .int w0] (jn_X5_could_183 kc110 kc127 v0 v1 v2 v3 v5 v6 w0 w1) := by
  unfold jn_X5_could_183
  refine z_ior (q := 184) (by decide +kernel) rfl ?_
  refine z_istore (j := 4) (q := 186) (by decide +kernel) rfl (by decide) rfl ?_
  refine z_iinc (j := 6) (n := 1) (v := 1) (q := 189) (by decide +kernel) rfl 6 rfl (by decide) (by decide) rfl ?_
  refine z_goto (off := (-62)) (t := 127) (by decide +kernel) (by decide) ?_
  refine zsub [2, 3, 4, 5, 1, 6, 0] rfl ?_
  exact hkc127 (w0 ||| w1, v6 + 1)
def jn_X5_could_192 (kc110 : (Int32 × Int32) → zAH → Option (Int32 × zAH)) (v0 : Nat) (v1 : Int32) (v2 : Int32) (v3 : Int32) (v4 : Int32) (v5 : Int32) : zAH → Option (Int32 × zAH) := fun h => kc110 (v4, v5 + 1) h
theorem sj_X5_could_192 (g : zG) (l : Launch) (kc110 : (Int32 × Int32) → zAH → Option (Int32 × zAH)) (v0 : Nat) (v1 : Int32) (v2 : Int32) (v3 : Int32) (v4 : Int32) (v5 : Int32) (hkc110 : ∀ s, zSm g l cX5_could 9 RX5 "could" (some .int) 3 67 zrI 110 [(0, .ref v0), (1, .int v1), (2, .int v2), (3, .int v3), (4, .int s.1), (5, .int s.2)] [] (kc110 s)) : zSm g l cX5_could 9 RX5 "could" (some .int) 3 67 zrI 192 [(0, .ref v0), (1, .int v1), (2, .int v2), (3, .int v3), (4, .int v4), (5, .int v5)] [] (jn_X5_could_192 kc110 v0 v1 v2 v3 v4 v5) := by
  unfold jn_X5_could_192
  refine z_iinc (j := 5) (n := 1) (v := 1) (q := 195) (by decide +kernel) rfl 5 rfl (by decide) (by decide) rfl ?_
  refine z_goto (off := (-85)) (t := 110) (by decide +kernel) (by decide) ?_
  refine zsub [1, 2, 3, 4, 5, 0] rfl ?_
  exact hkc110 (v4, v5 + 1)
def lb_X5_could_127 (kc110 : (Int32 × Int32) → zAH → Option (Int32 × zAH)) (v0 : Nat) (v1 : Int32) (v2 : Int32) (v3 : Int32) (v5 : Int32) (rec : (Int32 × Int32) → zAH → Option (Int32 × zAH)) (s : Int32 × Int32) : zAH → Option (Int32 × zAH) := fun h => (zgA 5 5 v0 h).bind fun x1 => (zaI 0 x1 v1 h).bind fun x2 => if s.2 < x2 then zbd (dn_X5_rowAt v0 v1 v5 h) fun x3 h4 => zbd (dn_X5_rowAt v0 v1 s.2 h4) fun x5 h6 => zbd (dn_X5_placeIn v0 v2 x5 h6) fun x7 h8 => zbd (dn_X5_placeIn v0 v2 x3 h8) fun x9 h10 => if x7 < x9 then jn_X5_could_183 kc110 rec v0 v1 v2 v3 v5 s.2 s.1 (1 <<< (x3 &&& 31)) h10 else jn_X5_could_183 kc110 rec v0 v1 v2 v3 v5 s.2 s.1 0 h10 else jn_X5_could_192 kc110 v0 v1 v2 v3 s.1 v5 h
def lp_X5_could_127 (kc110 : (Int32 × Int32) → zAH → Option (Int32 × zAH)) (v0 : Nat) (v1 : Int32) (v2 : Int32) (v3 : Int32) (v5 : Int32) (s : Int32 × Int32) : zAH → Option (Int32 × zAH) := zlp (lb_X5_could_127 kc110 v0 v1 v2 v3 v5) 2000 s
theorem sl_X5_could_127 (g : zG) (l : Launch) (kc110 : (Int32 × Int32) → zAH → Option (Int32 × zAH)) (v0 : Nat) (v1 : Int32) (v2 : Int32) (v3 : Int32) (v5 : Int32) (hkc110 : ∀ s, zSm g l cX5_could 9 RX5 "could" (some .int) 3 67 zrI 110 [(0, .ref v0), (1, .int v1), (2, .int v2), (3, .int v3), (4, .int s.1), (5, .int s.2)] [] (kc110 s)) (s : Int32 × Int32) : zSm g l cX5_could 9 RX5 "could" (some .int) 3 67 zrI 127 [(0, .ref v0), (1, .int v1), (2, .int v2), (3, .int v3), (4, .int s.1), (5, .int v5), (6, .int s.2)] [] (lp_X5_could_127 kc110 v0 v1 v2 v3 v5 s) := by
  unfold lp_X5_could_127
  refine z_loop (lvf := fun s => [(0, .ref v0), (1, .int v1), (2, .int v2), (3, .int v3), (4, .int s.1), (5, .int v5), (6, .int s.2)]) (fun rec hrec s => ?_) 2000 s
  unfold lb_X5_could_127
  refine z_iload (j := 6) (q := 129) (by decide +kernel) rfl 6 rfl ?_
  refine z_aload_n (j := 0) (q := 130) (by decide +kernel) rfl 0 rfl ?_
  refine z_getA (q := 133) zf_RX5_13 (by decide +kernel) rfl fun x1 => ?_
  refine z_iload_n (j := 1) (q := 134) (by decide +kernel) rfl 1 rfl ?_
  refine z_iald (q := 135) (Or.inl ⟨rfl, rfl⟩) (by decide +kernel) rfl fun x2 => ?_
  refine z_icmp_ge (off := 57) (t := 192) (q := 138) (by decide +kernel) (by decide) rfl ?_ ?_
  · refine zsub [0, 1, 2, 3, 4, 5] rfl ?_
    exact sj_X5_could_192 g l kc110 v0 v1 v2 v3 s.1 v5 hkc110
  · refine z_aload_n (j := 0) (q := 139) (by decide +kernel) rfl 0 rfl ?_
    refine z_iload_n (j := 1) (q := 140) (by decide +kernel) rfl 1 rfl ?_
    refine z_iload (j := 5) (q := 142) (by decide +kernel) rfl 5 rfl ?_
    refine z_callVI (As := [.int v1, .int v5]) (st := []) (q := 145) (ct_X5_rowAt g l v0 v1 v5) zm_RX5_104 (rc_X5_rowAt v0 v1 v5) rfl (by decide) (by decide) (Nat.le_of_ble_eq_true rfl) rfl (by decide +kernel) rfl fun x3 => ?_
    refine z_istore (j := 7) (q := 147) (by decide +kernel) rfl (by decide) rfl ?_
    refine z_aload_n (j := 0) (q := 148) (by decide +kernel) rfl 1 rfl ?_
    refine z_iload_n (j := 1) (q := 149) (by decide +kernel) rfl 2 rfl ?_
    refine z_iload (j := 6) (q := 151) (by decide +kernel) rfl 7 rfl ?_
    refine z_callVI (As := [.int v1, .int s.2]) (st := []) (q := 154) (ct_X5_rowAt g l v0 v1 s.2) zm_RX5_104 (rc_X5_rowAt v0 v1 s.2) rfl (by decide) (by decide) (Nat.le_of_ble_eq_true rfl) rfl (by decide +kernel) rfl fun x5 => ?_
    refine z_istore (j := 8) (q := 156) (by decide +kernel) rfl (by decide) rfl ?_
    refine z_iload (j := 4) (q := 158) (by decide +kernel) rfl 6 rfl ?_
    refine z_aload_n (j := 0) (q := 159) (by decide +kernel) rfl 2 rfl ?_
    refine z_iload_n (j := 2) (q := 160) (by decide +kernel) rfl 4 rfl ?_
    refine z_iload (j := 8) (q := 162) (by decide +kernel) rfl 0 rfl ?_
    refine z_callVI (As := [.int v2, .int x5]) (st := [.int s.1]) (q := 165) (ct_X5_placeIn g l v0 v2 x5) zm_RX5_290 (rc_X5_placeIn v0 v2 x5) rfl (by decide) (by decide) (Nat.le_of_ble_eq_true rfl) rfl (by decide +kernel) rfl fun x7 => ?_
    refine z_aload_n (j := 0) (q := 166) (by decide +kernel) rfl 2 rfl ?_
    refine z_iload_n (j := 2) (q := 167) (by decide +kernel) rfl 4 rfl ?_
    refine z_iload (j := 7) (q := 169) (by decide +kernel) rfl 1 rfl ?_
    refine z_callVI (As := [.int v2, .int x3]) (st := [.int x7, .int s.1]) (q := 172) (ct_X5_placeIn g l v0 v2 x3) zm_RX5_290 (rc_X5_placeIn v0 v2 x3) rfl (by decide) (by decide) (Nat.le_of_ble_eq_true rfl) rfl (by decide +kernel) rfl fun x9 => ?_
    refine z_icmp_ge (off := 10) (t := 182) (q := 175) (by decide +kernel) (by decide) rfl ?_ ?_
    · refine z_iconst (n := 0) (v := 0) (q := 183) (by decide +kernel) rfl (by decide) ?_
      refine zsub [2, 3, 4, 5, 7, 8] rfl ?_
      exact sj_X5_could_183 g l kc110 rec v0 v1 v2 v3 v5 s.2 s.1 0 hkc110 hrec
    · refine z_iconst (n := 1) (v := 1) (q := 176) (by decide +kernel) rfl (by decide) ?_
      refine z_iload (j := 7) (q := 178) (by decide +kernel) rfl 1 rfl ?_
      refine z_ishl (q := 179) (by decide +kernel) rfl ?_
      refine z_goto (off := 4) (t := 183) (by decide +kernel) (by decide) ?_
      refine zsub [2, 3, 4, 5, 7, 8] rfl ?_
      exact sj_X5_could_183 g l kc110 rec v0 v1 v2 v3 v5 s.2 s.1 (1 <<< (x3 &&& 31)) hkc110 hrec
def jn_X5_could_209 (w0 : Int32) : zAH → Option (Int32 × zAH) := fun h => some (w0, h)
theorem sj_X5_could_209 (g : zG) (l : Launch) (w0 : Int32) : zSm g l cX5_could 9 RX5 "could" (some .int) 3 67 zrI 209 [] [.int w0] (jn_X5_could_209 w0) := by
  unfold jn_X5_could_209
  exact z_iret (by decide +kernel)
def jn_X5_could_198 (v3 : Int32) (v4 : Int32) : zAH → Option (Int32 × zAH) := fun h => if v4 = 0 then jn_X5_could_209 v3 h else jn_X5_could_209 v4 h
theorem sj_X5_could_198 (g : zG) (l : Launch) (v3 : Int32) (v4 : Int32) : zSm g l cX5_could 9 RX5 "could" (some .int) 3 67 zrI 198 [(3, .int v3), (4, .int v4)] [] (jn_X5_could_198 v3 v4) := by
  unfold jn_X5_could_198
  refine z_iload (j := 4) (q := 200) (by decide +kernel) rfl 1 rfl ?_
  refine z_if_ne (off := 7) (t := 207) (q := 203) (by decide +kernel) (by decide) rfl ?_ ?_
  · refine z_iload (j := 4) (q := 209) (by decide +kernel) rfl 1 rfl ?_
    refine zsub [] rfl ?_
    exact sj_X5_could_209 g l v4
  · refine z_iload_n (j := 3) (q := 204) (by decide +kernel) rfl 0 rfl ?_
    refine z_goto (off := 5) (t := 209) (by decide +kernel) (by decide) ?_
    refine zsub [] rfl ?_
    exact sj_X5_could_209 g l v3
def lb_X5_could_110 (v0 : Nat) (v1 : Int32) (v2 : Int32) (v3 : Int32) (rec : (Int32 × Int32) → zAH → Option (Int32 × zAH)) (s : Int32 × Int32) : zAH → Option (Int32 × zAH) := fun h => (zgA 5 5 v0 h).bind fun x1 => (zaI 0 x1 v1 h).bind fun x2 => if s.2 < x2 then lp_X5_could_127 rec v0 v1 v2 v3 s.2 (s.1, s.2 + 1) h else jn_X5_could_198 v3 s.1 h
def lp_X5_could_110 (v0 : Nat) (v1 : Int32) (v2 : Int32) (v3 : Int32) (s : Int32 × Int32) : zAH → Option (Int32 × zAH) := zlp (lb_X5_could_110 v0 v1 v2 v3) 2000 s
theorem sl_X5_could_110 (g : zG) (l : Launch) (v0 : Nat) (v1 : Int32) (v2 : Int32) (v3 : Int32) (s : Int32 × Int32) : zSm g l cX5_could 9 RX5 "could" (some .int) 3 67 zrI 110 [(0, .ref v0), (1, .int v1), (2, .int v2), (3, .int v3), (4, .int s.1), (5, .int s.2)] [] (lp_X5_could_110 v0 v1 v2 v3 s) := by
  unfold lp_X5_could_110
  refine z_loop (lvf := fun s => [(0, .ref v0), (1, .int v1), (2, .int v2), (3, .int v3), (4, .int s.1), (5, .int s.2)]) (fun rec hrec s => ?_) 2000 s
  unfold lb_X5_could_110
  refine z_iload (j := 5) (q := 112) (by decide +kernel) rfl 5 rfl ?_
  refine z_aload_n (j := 0) (q := 113) (by decide +kernel) rfl 0 rfl ?_
  refine z_getA (q := 116) zf_RX5_13 (by decide +kernel) rfl fun x1 => ?_
  refine z_iload_n (j := 1) (q := 117) (by decide +kernel) rfl 1 rfl ?_
  refine z_iald (q := 118) (Or.inl ⟨rfl, rfl⟩) (by decide +kernel) rfl fun x2 => ?_
  refine z_icmp_ge (off := 80) (t := 198) (q := 121) (by decide +kernel) (by decide) rfl ?_ ?_
  · refine zsub [3, 4] rfl ?_
    exact sj_X5_could_198 g l v3 s.1
  · refine z_iload (j := 5) (q := 123) (by decide +kernel) rfl 5 rfl ?_
    refine z_iconst (n := 1) (v := 1) (q := 124) (by decide +kernel) rfl (by decide) ?_
    refine z_iadd (q := 125) (by decide +kernel) rfl ?_
    refine z_istore (j := 6) (q := 127) (by decide +kernel) rfl (by decide) rfl ?_
    refine zsub [1, 2, 3, 4, 5, 6, 0] rfl ?_
    exact sl_X5_could_127 g l rec v0 v1 v2 v3 s.2 hrec (s.1, s.2 + 1)
def dn_X5_could (v0 : Nat) (v1 : Int32) (v2 : Int32) (v3 : Int32) : zAH → Option (Int32 × zAH) := fun h => (zgO 5 v0 h).bind fun _ => zbd (dn_X5_isRow v1 h) fun x1 h2 => if x1 = 0 then jn_X5_could_30 h2 else zbd (dn_X5_isRow v2 h2) fun x3 h4 => if x3 = 0 then jn_X5_could_30 h4 else (zgI 5 12 v0 h4).bind fun x5 => zbd (dn_X5_in v3 0 ((1 <<< (x5 &&& 31)) - 1) h4) fun x6 h7 => if x6 = 0 then jn_X5_could_30 h7 else (zgA 5 5 v0 h7).bind fun x8 => (zaI 0 x8 v1 h7).bind fun x9 => if x9 < 0 then jn_X5_could_50 v0 h7 else (zgA 5 5 v0 h7).bind fun x10 => (zaI 0 x10 v2 h7).bind fun x11 => if x11 < 0 then jn_X5_could_50 v0 h7 else (zgA 5 5 v0 h7).bind fun x12 => (zaI 0 x12 v1 h7).bind fun x13 => (zgA 5 5 v0 h7).bind fun x14 => (zaI 0 x14 v2 h7).bind fun x15 => if x13 = x15 then zbd (dn_X5_runnersIn v0 v1 h7) fun x16 h17 => if x16 < 0 then jn_X5_could_98 v0 h17 else zbd (dn_X5_runnersIn v0 v1 h17) fun x18 h19 => zbd (dn_X5_runnersIn v0 v2 h19) fun x20 h21 => if x18 = x20 then lp_X5_could_110 v0 v1 v2 v3 (0, 0) h21 else jn_X5_could_98 v0 h21 else zbd (dn_X5_meets v0 5 h7) fun x22 h23 => some (x22, h23)
theorem ct_X5_could (g : zG) (l : Launch) (v0 : Nat) (v1 : Int32) (v2 : Int32) (v3 : Int32) : zCt g l yX5_could cX5_could 9 (some .int) 3 67 zrI [.ref v0, .int v1, .int v2, .int v3] (dn_X5_could v0 v1 v2 v3) := by
  refine zCt_of (lv := [(0, .ref v0), (1, .int v1), (2, .int v2), (3, .int v3)]) (by decide +kernel) (Nat.le_of_ble_eq_true rfl) rfl ?_
  show zSm g l cX5_could 9 RX5 "could" (some .int) 3 67 zrI 0 [(0, .ref v0), (1, .int v1), (2, .int v2), (3, .int v3)] [] (dn_X5_could v0 v1 v2 v3)
  unfold dn_X5_could
  refine z_rec ?_
  refine z_iload_n (j := 1) (q := 1) (by decide +kernel) rfl 1 rfl ?_
  refine z_callSI (As := [.int v1]) (st := []) (q := 4) (ct_X5_isRow g l v1) zm_RX5_96 rfl (by decide) (by decide) (Nat.le_of_ble_eq_true rfl) rfl (by decide +kernel) rfl fun x1 => ?_
  refine z_if_eq (off := 26) (t := 30) (q := 7) (by decide +kernel) (by decide) rfl ?_ ?_
  · refine zsub [] rfl ?_
    exact sj_X5_could_30 g l 
  · refine z_iload_n (j := 2) (q := 8) (by decide +kernel) rfl 2 rfl ?_
    refine z_callSI (As := [.int v2]) (st := []) (q := 11) (ct_X5_isRow g l v2) zm_RX5_96 rfl (by decide) (by decide) (Nat.le_of_ble_eq_true rfl) rfl (by decide +kernel) rfl fun x3 => ?_
    refine z_if_eq (off := 19) (t := 30) (q := 14) (by decide +kernel) (by decide) rfl ?_ ?_
    · refine zsub [] rfl ?_
      exact sj_X5_could_30 g l 
    · refine z_iload_n (j := 3) (q := 15) (by decide +kernel) rfl 3 rfl ?_
      refine z_iconst (n := 0) (v := 0) (q := 16) (by decide +kernel) rfl (by decide) ?_
      refine z_iconst (n := 1) (v := 1) (q := 17) (by decide +kernel) rfl (by decide) ?_
      refine z_aload_n (j := 0) (q := 18) (by decide +kernel) rfl 0 rfl ?_
      refine z_getI (q := 21) zf_RX5_147 (by decide +kernel) rfl fun x5 => ?_
      refine z_ishl (q := 22) (by decide +kernel) rfl ?_
      refine z_iconst (n := 1) (v := 1) (q := 23) (by decide +kernel) rfl (by decide) ?_
      refine z_isub (q := 24) (by decide +kernel) rfl ?_
      refine z_callSI (As := [.int v3, .int 0, .int ((1 <<< (x5 &&& 31)) - 1)]) (st := []) (q := 27) (ct_X5_in g l v3 0 ((1 <<< (x5 &&& 31)) - 1)) zm_RX5_86 rfl (by decide) (by decide) (Nat.le_of_ble_eq_true rfl) rfl (by decide +kernel) rfl fun x6 => ?_
      refine z_if_ne (off := 5) (t := 32) (q := 30) (by decide +kernel) (by decide) rfl ?_ ?_
      · refine z_aload_n (j := 0) (q := 33) (by decide +kernel) rfl 0 rfl ?_
        refine z_getA (q := 36) zf_RX5_13 (by decide +kernel) rfl fun x8 => ?_
        refine z_iload_n (j := 1) (q := 37) (by decide +kernel) rfl 1 rfl ?_
        refine z_iald (q := 38) (Or.inl ⟨rfl, rfl⟩) (by decide +kernel) rfl fun x9 => ?_
        refine z_if_lt (off := 12) (t := 50) (q := 41) (by decide +kernel) (by decide) rfl ?_ ?_
        · refine zsub [0] rfl ?_
          exact sj_X5_could_50 g l v0
        · refine z_aload_n (j := 0) (q := 42) (by decide +kernel) rfl 0 rfl ?_
          refine z_getA (q := 45) zf_RX5_13 (by decide +kernel) rfl fun x10 => ?_
          refine z_iload_n (j := 2) (q := 46) (by decide +kernel) rfl 2 rfl ?_
          refine z_iald (q := 47) (Or.inl ⟨rfl, rfl⟩) (by decide +kernel) rfl fun x11 => ?_
          refine z_if_ge (off := 9) (t := 56) (q := 50) (by decide +kernel) (by decide) rfl ?_ ?_
          · refine z_aload_n (j := 0) (q := 57) (by decide +kernel) rfl 0 rfl ?_
            refine z_getA (q := 60) zf_RX5_13 (by decide +kernel) rfl fun x12 => ?_
            refine z_iload_n (j := 1) (q := 61) (by decide +kernel) rfl 1 rfl ?_
            refine z_iald (q := 62) (Or.inl ⟨rfl, rfl⟩) (by decide +kernel) rfl fun x13 => ?_
            refine z_aload_n (j := 0) (q := 63) (by decide +kernel) rfl 0 rfl ?_
            refine z_getA (q := 66) zf_RX5_13 (by decide +kernel) rfl fun x14 => ?_
            refine z_iload_n (j := 2) (q := 67) (by decide +kernel) rfl 2 rfl ?_
            refine z_iald (q := 68) (Or.inl ⟨rfl, rfl⟩) (by decide +kernel) rfl fun x15 => ?_
            refine z_icmp_eq (off := 9) (t := 77) (q := 71) (by decide +kernel) (by decide) rfl ?_ ?_
            · refine z_aload_n (j := 0) (q := 78) (by decide +kernel) rfl 0 rfl ?_
              refine z_iload_n (j := 1) (q := 79) (by decide +kernel) rfl 1 rfl ?_
              refine z_callVI (As := [.int v1]) (st := []) (q := 82) (ct_X5_runnersIn g l v0 v1) zm_RX5_287 (rc_X5_runnersIn v0 v1) rfl (by decide) (by decide) (Nat.le_of_ble_eq_true rfl) rfl (by decide +kernel) rfl fun x16 => ?_
              refine z_if_lt (off := 16) (t := 98) (q := 85) (by decide +kernel) (by decide) rfl ?_ ?_
              · refine zsub [0] rfl ?_
                exact sj_X5_could_98 g l v0
              · refine z_aload_n (j := 0) (q := 86) (by decide +kernel) rfl 0 rfl ?_
                refine z_iload_n (j := 1) (q := 87) (by decide +kernel) rfl 1 rfl ?_
                refine z_callVI (As := [.int v1]) (st := []) (q := 90) (ct_X5_runnersIn g l v0 v1) zm_RX5_287 (rc_X5_runnersIn v0 v1) rfl (by decide) (by decide) (Nat.le_of_ble_eq_true rfl) rfl (by decide +kernel) rfl fun x18 => ?_
                refine z_aload_n (j := 0) (q := 91) (by decide +kernel) rfl 0 rfl ?_
                refine z_iload_n (j := 2) (q := 92) (by decide +kernel) rfl 2 rfl ?_
                refine z_callVI (As := [.int v2]) (st := [.int x18]) (q := 95) (ct_X5_runnersIn g l v0 v2) zm_RX5_287 (rc_X5_runnersIn v0 v2) rfl (by decide) (by decide) (Nat.le_of_ble_eq_true rfl) rfl (by decide +kernel) rfl fun x20 => ?_
                refine z_icmp_eq (off := 9) (t := 104) (q := 98) (by decide +kernel) (by decide) rfl ?_ ?_
                · refine z_iconst (n := 0) (v := 0) (q := 105) (by decide +kernel) rfl (by decide) ?_
                  refine z_istore (j := 4) (q := 107) (by decide +kernel) rfl (by decide) rfl ?_
                  refine z_iconst (n := 0) (v := 0) (q := 108) (by decide +kernel) rfl (by decide) ?_
                  refine z_istore (j := 5) (q := 110) (by decide +kernel) rfl (by decide) rfl ?_
                  refine zsub [2, 3, 4, 5, 1, 0] rfl ?_
                  exact sl_X5_could_110 g l v0 v1 v2 v3 (0, 0)
                · refine zsub [0] rfl ?_
                  exact sj_X5_could_98 g l v0
            · refine z_aload_n (j := 0) (q := 72) (by decide +kernel) rfl 0 rfl ?_
              refine z_iconst (n := 5) (v := 5) (q := 73) (by decide +kernel) rfl (by decide) ?_
              refine z_callVI (As := [.int 5]) (st := []) (q := 76) (ct_X5_meets g l v0 5) zm_RX5_100 (rc_X5_meets v0 5) rfl (by decide) (by decide) (Nat.le_of_ble_eq_true rfl) rfl (by decide +kernel) rfl fun x22 => ?_
              exact z_iret (by decide +kernel)
          · refine zsub [0] rfl ?_
            exact sj_X5_could_50 g l v0
      · refine zsub [] rfl ?_
        exact sj_X5_could_30 g l 
theorem rc_X5_could (v0 : Nat) (v1 : Int32) (v2 : Int32) (v3 : Int32) : ∀ h x, dn_X5_could v0 v1 v2 v3 h = some x → ∃ fs, zgO 5 v0 h = some fs := fun h x hd => by
  obtain ⟨fs, e, -⟩ := Option.bind_eq_some_iff.mp hd
  exact ⟨fs, e⟩
