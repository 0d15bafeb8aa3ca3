def jn_X1_passOthers_93 (kc8 : Int32 → zAH → Option (Unit × zAH)) (kc17 : Int32 → zAH → Option (Unit × zAH)) (v0 : Nat) (v1 : Int32) (v2 : Int32) (v3 : Int32) (v4 : Int32) (v5 : Int32) (v6 : Int32) : zAH → Option (Unit × zAH) := fun h => kc17 (v6 + 1) h
theorem sj_X1_passOthers_93 (g : zG) (l : Launch) (kc8 : Int32 → zAH → Option (Unit × zAH)) (kc17 : Int32 → zAH → Option (Unit × zAH)) (v0 : Nat) (v1 : Int32) (v2 : Int32) (v3 : Int32) (v4 : Int32) (v5 : Int32) (v6 : Int32) (hkc8 : ∀ s, zSm g l cX1_passOthers 7 RX1 "passOthers" none 1 23 zrV 8 [(0, .ref v0), (1, .int v1), (2, .int v2), (3, .int v3), (4, .int v4), (5, .int s)] [] (kc8 s)) (hkc17 : ∀ s, zSm g l cX1_passOthers 7 RX1 "passOthers" none 1 23 zrV 17 [(0, .ref v0), (1, .int v1), (2, .int v2), (3, .int v3), (4, .int v4), (5, .int v5), (6, .int s)] [] (kc17 s)) : zSm g l cX1_passOthers 7 RX1 "passOthers" none 1 23 zrV 93 [(0, .ref v0), (1, .int v1), (2, .int v2), (3, .int v3), (4, .int v4), (5, .int v5), (6, .int v6)] [] (jn_X1_passOthers_93 kc8 kc17 v0 v1 v2 v3 v4 v5 v6) := by
  unfold jn_X1_passOthers_93
  refine z_iinc (j := 6) (n := 1) (v := 1) (q := 96) (by decide +kernel) rfl 6 rfl (by decide) (by decide) rfl ?_
  refine z_goto (off := (-79)) (t := 17) (by decide +kernel) (by decide) ?_
  refine zsub [1, 2, 3, 4, 5, 6, 0] rfl ?_
  exact hkc17 (v6 + 1)
def jn_X1_passOthers_99 (kc8 : Int32 → zAH → Option (Unit × zAH)) (v0 : Nat) (v1 : Int32) (v2 : Int32) (v3 : Int32) (v4 : Int32) (v5 : Int32) : zAH → Option (Unit × zAH) := fun h => kc8 (v5 + 1) h
theorem sj_X1_passOthers_99 (g : zG) (l : Launch) (kc8 : Int32 → zAH → Option (Unit × zAH)) (v0 : Nat) (v1 : Int32) (v2 : Int32) (v3 : Int32) (v4 : Int32) (v5 : Int32) (hkc8 : ∀ s, zSm g l cX1_passOthers 7 RX1 "passOthers" none 1 23 zrV 8 [(0, .ref v0), (1, .int v1), (2, .int v2), (3, .int v3), (4, .int v4), (5, .int s)] [] (kc8 s)) : zSm g l cX1_passOthers 7 RX1 "passOthers" none 1 23 zrV 99 [(0, .ref v0), (1, .int v1), (2, .int v2), (3, .int v3), (4, .int v4), (5, .int v5)] [] (jn_X1_passOthers_99 kc8 v0 v1 v2 v3 v4 v5) := by
  unfold jn_X1_passOthers_99
  refine z_iinc (j := 5) (n := 1) (v := 1) (q := 102) (by decide +kernel) rfl 5 rfl (by decide) (by decide) rfl ?_
  refine z_goto (off := (-94)) (t := 8) (by decide +kernel) (by decide) ?_
  refine zsub [1, 2, 3, 4, 5, 0] rfl ?_
  exact hkc8 (v5 + 1)
def lb_X1_passOthers_17 (kc8 : Int32 → zAH → Option (Unit × zAH)) (v0 : Nat) (v1 : Int32) (v2 : Int32) (v3 : Int32) (v4 : Int32) (v5 : Int32) (rec : (Int32) → zAH → Option (Unit × zAH)) (s : Int32) : zAH → Option (Unit × zAH) := fun h => (zgI 1 0 v0 h).bind fun x1 => if s < x1 then (zgA 1 6 v0 h).bind fun x2 => (zaI 0 x2 s h).bind fun x3 => if x3 = v5 then if s = v1 then jn_X1_passOthers_93 kc8 rec v0 v1 v2 v3 v4 v5 s h else zbd (dn_X1_isDone v0 s h) fun x4 h5 => if x4 = 0 then (zgI 1 4 v0 h5).bind fun x6 => (zpF 1 4 v0 (.int (x6 + 1)) h5).bind fun h7 => (zgA 1 11 v0 h7).bind fun x8 => (zaI 0 x8 v1 h7).bind fun x9 => (zaS 0 x8 v1 (x9 ||| (1 <<< (s &&& 31))) h7).bind fun h10 => zbd (dn_X1_sackMoves v0 v1 v3 v4 h10) fun x11 h12 => if x11 = 0 then jn_X1_passOthers_93 kc8 rec v0 v1 v2 v3 v4 v5 s h12 else (zpF 1 3 v0 (.int s) h12).bind fun h13 => jn_X1_passOthers_93 kc8 rec v0 v1 v2 v3 v4 v5 s h13 else jn_X1_passOthers_93 kc8 rec v0 v1 v2 v3 v4 v5 s h5 else jn_X1_passOthers_93 kc8 rec v0 v1 v2 v3 v4 v5 s h else jn_X1_passOthers_99 kc8 v0 v1 v2 v3 v4 v5 h
def lp_X1_passOthers_17 (kc8 : Int32 → zAH → Option (Unit × zAH)) (v0 : Nat) (v1 : Int32) (v2 : Int32) (v3 : Int32) (v4 : Int32) (v5 : Int32) (s : Int32) : zAH → Option (Unit × zAH) := zlp (lb_X1_passOthers_17 kc8 v0 v1 v2 v3 v4 v5) 2000 s
theorem sl_X1_passOthers_17 (g : zG) (l : Launch) (kc8 : Int32 → zAH → Option (Unit × zAH)) (v0 : Nat) (v1 : Int32) (v2 : Int32) (v3 : Int32) (v4 : Int32) (v5 : Int32) (hkc8 : ∀ s, zSm g l cX1_passOthers 7 RX1 "passOthers" none 1 23 zrV 8 [(0, .ref v0), (1, .int v1), (2, .int v2), (3, .int v3), (4, .int v4), (5, .int s)] [] (kc8 s)) (s : Int32) : zSm g l cX1_passOthers 7 RX1 "passOthers" none 1 23 zrV 17 [(0, .ref v0), (1, .int v1), (2, .int v2), (3, .int v3), (4, .int v4), (5, .int v5), (6, .int s)] [] (lp_X1_passOthers_17 kc8 v0 v1 v2 v3 v4 v5 s) := by
  unfold lp_X1_passOthers_17
  refine z_loop (lvf := fun s => [(0, .ref v0), (1, .int v1), (2, .int v2), (3, .int v3), (4, .int v4), (5, .int v5), (6, .int s)]) (fun rec hrec s => ?_) 2000 s
  unfold lb_X1_passOthers_17
  refine z_iload (j := 6) (q := 19) (by decide +kernel) rfl 6 rfl ?_
  refine z_aload_n (j := 0) (q := 20) (by decide +kernel) rfl 0 rfl ?_
  refine z_getI (q := 23) zf_RX1_9 (by decide +kernel) rfl fun x1 => ?_
  refine z_icmp_ge (off := 76) (t := 99) (q := 26) (by decide +kernel) (by decide) rfl ?_ ?_
  · refine zsub [0, 1, 2, 3, 4, 5] rfl ?_
    exact sj_X1_passOthers_99 g l kc8 v0 v1 v2 v3 v4 v5 hkc8
  · refine z_aload_n (j := 0) (q := 27) (by decide +kernel) rfl 0 rfl ?_
    refine z_getA (q := 30) zf_RX1_31 (by decide +kernel) rfl fun x2 => ?_
    refine z_iload (j := 6) (q := 32) (by decide +kernel) rfl 6 rfl ?_
    refine z_iald (q := 33) (Or.inl ⟨rfl, rfl⟩) (by decide +kernel) rfl fun x3 => ?_
    refine z_iload (j := 5) (q := 35) (by decide +kernel) rfl 5 rfl ?_
    refine z_icmp_ne (off := 58) (t := 93) (q := 38) (by decide +kernel) (by decide) rfl ?_ ?_
    · refine zsub [0, 1, 2, 3, 4, 5, 6] rfl ?_
      exact sj_X1_passOthers_93 g l kc8 rec v0 v1 v2 v3 v4 v5 s hkc8 hrec
    · refine z_iload (j := 6) (q := 40) (by decide +kernel) rfl 6 rfl ?_
      refine z_iload_n (j := 1) (q := 41) (by decide +kernel) rfl 1 rfl ?_
      refine z_icmp_eq (off := 52) (t := 93) (q := 44) (by decide +kernel) (by decide) rfl ?_ ?_
      · refine zsub [0, 1, 2, 3, 4, 5, 6] rfl ?_
        exact sj_X1_passOthers_93 g l kc8 rec v0 v1 v2 v3 v4 v5 s hkc8 hrec
      · refine z_aload_n (j := 0) (q := 45) (by decide +kernel) rfl 0 rfl ?_
        refine z_iload (j := 6) (q := 47) (by decide +kernel) rfl 6 rfl ?_
        refine z_callVI (As := [.int s]) (st := []) (q := 50) (ct_X1_isDone g l v0 s) zm_RX1_74 (rc_X1_isDone v0 s) rfl (by decide) (by decide) (Nat.le_of_ble_eq_true rfl) rfl (by decide +kernel) rfl fun x4 => ?_
        refine z_if_ne (off := 43) (t := 93) (q := 53) (by decide +kernel) (by decide) rfl ?_ ?_
        · refine zsub [0, 1, 2, 3, 4, 5, 6] rfl ?_
          exact sj_X1_passOthers_93 g l kc8 rec v0 v1 v2 v3 v4 v5 s hkc8 hrec
        · refine z_aload_n (j := 0) (q := 54) (by decide +kernel) rfl 0 rfl ?_
          refine z_dup (q := 55) (by decide +kernel) rfl rfl ?_
          refine z_getI (q := 58) zf_RX1_24 (by decide +kernel) rfl fun x6 => ?_
          refine z_iconst (n := 1) (v := 1) (q := 59) (by decide +kernel) rfl (by decide) ?_
          refine z_iadd (q := 60) (by decide +kernel) rfl ?_
          refine z_putV (q := 63) zp_RX1_24 (fun z => by cases z) rfl rfl (by decide +kernel) rfl ?_
          refine z_aload_n (j := 0) (q := 64) (by decide +kernel) rfl 0 rfl ?_
          refine z_getA (q := 67) zf_RX1_47 (by decide +kernel) rfl fun x8 => ?_
          refine z_iload_n (j := 1) (q := 68) (by decide +kernel) rfl 1 rfl ?_
          refine z_dup2 (q := 69) (by decide +kernel) rfl rfl rfl ?_
          refine z_iald (q := 70) (Or.inl ⟨rfl, rfl⟩) (by decide +kernel) rfl fun x9 => ?_
          refine z_iconst (n := 1) (v := 1) (q := 71) (by decide +kernel) rfl (by decide) ?_
          refine z_iload (j := 6) (q := 73) (by decide +kernel) rfl 6 rfl ?_
          refine z_ishl (q := 74) (by decide +kernel) rfl ?_
          refine z_ior (q := 75) (by decide +kernel) rfl ?_
          refine z_iast (q := 76) (Or.inl ⟨rfl, rfl, rfl⟩) (by decide +kernel) rfl ?_
          refine z_aload_n (j := 0) (q := 77) (by decide +kernel) rfl 0 rfl ?_
          refine z_iload_n (j := 1) (q := 78) (by decide +kernel) rfl 1 rfl ?_
          refine z_iload_n (j := 3) (q := 79) (by decide +kernel) rfl 3 rfl ?_
          refine z_iload (j := 4) (q := 81) (by decide +kernel) rfl 4 rfl ?_
          refine z_callVI (As := [.int v1, .int v3, .int v4]) (st := []) (q := 84) (ct_X1_sackMoves g l v0 v1 v3 v4) zm_RX1_107 (rc_X1_sackMoves v0 v1 v3 v4) rfl (by decide) (by decide) (Nat.le_of_ble_eq_true rfl) rfl (by decide +kernel) rfl fun x11 => ?_
          refine z_if_eq (off := 9) (t := 93) (q := 87) (by decide +kernel) (by decide) rfl ?_ ?_
          · refine zsub [0, 1, 2, 3, 4, 5, 6] rfl ?_
            exact sj_X1_passOthers_93 g l kc8 rec v0 v1 v2 v3 v4 v5 s hkc8 hrec
          · refine z_aload_n (j := 0) (q := 88) (by decide +kernel) rfl 0 rfl ?_
            refine z_iload (j := 6) (q := 90) (by decide +kernel) rfl 6 rfl ?_
            refine z_putV (q := 93) zp_RX1_21 (fun z => by cases z) rfl rfl (by decide +kernel) rfl ?_
            refine zsub [0, 1, 2, 3, 4, 5, 6] rfl ?_
            exact sj_X1_passOthers_93 g l kc8 rec v0 v1 v2 v3 v4 v5 s hkc8 hrec
def jn_X1_passOthers_105 : zAH → Option (Unit × zAH) := fun h => some ((), h)
theorem sj_X1_passOthers_105 (g : zG) (l : Launch) : zSm g l cX1_passOthers 7 RX1 "passOthers" none 1 23 zrV 105 [] [] (jn_X1_passOthers_105) := by
  unfold jn_X1_passOthers_105
  exact z_vret (by decide +kernel)
def lb_X1_passOthers_8 (v0 : Nat) (v1 : Int32) (v2 : Int32) (v3 : Int32) (v4 : Int32) (rec : (Int32) → zAH → Option (Unit × zAH)) (s : Int32) : zAH → Option (Unit × zAH) := fun h => if s < v2 then lp_X1_passOthers_17 rec v0 v1 v2 v3 v4 s 0 h else jn_X1_passOthers_105 h
def lp_X1_passOthers_8 (v0 : Nat) (v1 : Int32) (v2 : Int32) (v3 : Int32) (v4 : Int32) (s : Int32) : zAH → Option (Unit × zAH) := zlp (lb_X1_passOthers_8 v0 v1 v2 v3 v4) 2000 s
theorem sl_X1_passOthers_8 (g : zG) (l : Launch) (v0 : Nat) (v1 : Int32) (v2 : Int32) (v3 : Int32) (v4 : Int32) (s : Int32) : zSm g l cX1_passOthers 7 RX1 "passOthers" none 1 23 zrV 8 [(0, .ref v0), (1, .int v1), (2, .int v2), (3, .int v3), (4, .int v4), (5, .int s)] [] (lp_X1_passOthers_8 v0 v1 v2 v3 v4 s) := by
  unfold lp_X1_passOthers_8
  refine z_loop (lvf := fun s => [(0, .ref v0), (1, .int v1), (2, .int v2), (3, .int v3), (4, .int v4), (5, .int s)]) (fun rec hrec s => ?_) 2000 s
  unfold lb_X1_passOthers_8
  refine z_iload (j := 5) (q := 10) (by decide +kernel) rfl 5 rfl ?_
  refine z_iload_n (j := 2) (q := 11) (by decide +kernel) rfl 2 rfl ?_
  refine z_icmp_ge (off := 94) (t := 105) (q := 14) (by decide +kernel) (by decide) rfl ?_ ?_
  · refine zsub [] rfl ?_
    exact sj_X1_passOthers_105 g l 
  · refine z_iconst (n := 0) (v := 0) (q := 15) (by decide +kernel) rfl (by decide) ?_
    refine z_istore (j := 6) (q := 17) (by decide +kernel) rfl (by decide) rfl ?_
    refine zsub [1, 2, 3, 4, 5, 6, 0] rfl ?_
    exact sl_X1_passOthers_17 g l rec v0 v1 v2 v3 v4 s hrec 0
def dn_X1_passOthers (v0 : Nat) (v1 : Int32) (v2 : Int32) (v3 : Int32) (v4 : Int32) : zAH → Option (Unit × zAH) := fun h => (zgO 1 v0 h).bind fun _ => (zgA 1 6 v0 h).bind fun x1 => (zaI 0 x1 v1 h).bind fun x2 => lp_X1_passOthers_8 v0 v1 v2 v3 v4 x2 h
theorem ct_X1_passOthers (g : zG) (l : Launch) (v0 : Nat) (v1 : Int32) (v2 : Int32) (v3 : Int32) (v4 : Int32) : zCt g l yX1_passOthers cX1_passOthers 7 none 1 23 zrV [.ref v0, .int v1, .int v2, .int v3, .int v4] (dn_X1_passOthers v0 v1 v2 v3 v4) := by
  refine zCt_of (lv := [(0, .ref v0), (1, .int v1), (2, .int v2), (3, .int v3), (4, .int v4)]) (by decide +kernel) (Nat.le_of_ble_eq_true rfl) rfl ?_
  show zSm g l cX1_passOthers 7 RX1 "passOthers" none 1 23 zrV 0 [(0, .ref v0), (1, .int v1), (2, .int v2), (3, .int v3), (4, .int v4)] [] (dn_X1_passOthers v0 v1 v2 v3 v4)
  unfold dn_X1_passOthers
  refine z_rec ?_
  refine z_aload_n (j := 0) (q := 1) (by decide +kernel) rfl 0 rfl ?_
  refine z_getA (q := 4) zf_RX1_31 (by decide +kernel) rfl fun x1 => ?_
  refine z_iload_n (j := 1) (q := 5) (by decide +kernel) rfl 1 rfl ?_
  refine z_iald (q := 6) (Or.inl ⟨rfl, rfl⟩) (by decide +kernel) rfl fun x2 => ?_
  refine z_istore (j := 5) (q := 8) (by decide +kernel) rfl (by decide) rfl ?_
  refine zsub [1, 2, 3, 4, 5, 0] rfl ?_
  exact sl_X1_passOthers_8 g l v0 v1 v2 v3 v4 x2
theorem rc_X1_passOthers (v0 : Nat) (v1 : Int32) (v2 : Int32) (v3 : Int32) (v4 : Int32) : ∀ h x, dn_X1_passOthers v0 v1 v2 v3 v4 h = some x → ∃ fs, zgO 1 v0 h = some fs := fun h x hd => by
  obtain ⟨fs, e, -⟩ := Option.bind_eq_some_iff.mp hd
  exact ⟨fs, e⟩
def jn_X1_goBy_151 (v0 : Nat) (v1 : Nat) (v2 : Int32) (v3 : Int32) (v7 : Int32) (v10 : Int32) : zAH → Option (Unit × zAH) := fun h => zbd (dn_X1_passOthers v0 v3 v10 v2 v7 h) fun x1 h2 => (zgA 1 6 v0 h2).bind fun x3 => (zaS 0 x3 v3 v10 h2).bind fun h4 => zbd (dn_X1_noteEnd v0 v1 v3 h4) fun x5 h6 => some ((), h6)
theorem sj_X1_goBy_151 (g : zG) (l : Launch) (v0 : Nat) (v1 : Nat) (v2 : Int32) (v3 : Int32) (v7 : Int32) (v10 : Int32) : zSm g l cX1_goBy 11 RX1 "goBy" none 2 49 zrV 151 [(0, .ref v0), (1, .ref v1), (2, .int v2), (3, .int v3), (7, .int v7), (10, .int v10)] [] (jn_X1_goBy_151 v0 v1 v2 v3 v7 v10) := by
  unfold jn_X1_goBy_151
  refine z_aload_n (j := 0) (q := 152) (by decide +kernel) rfl 0 rfl ?_
  refine z_iload_n (j := 3) (q := 153) (by decide +kernel) rfl 3 rfl ?_
  refine z_iload (j := 10) (q := 155) (by decide +kernel) rfl 5 rfl ?_
  refine z_iload_n (j := 2) (q := 156) (by decide +kernel) rfl 2 rfl ?_
  refine z_iload (j := 7) (q := 158) (by decide +kernel) rfl 4 rfl ?_
  refine z_callVU (As := [.int v3, .int v10, .int v2, .int v7]) (st := []) (q := 161) (ct_X1_passOthers g l v0 v3 v10 v2 v7) zm_RX1_96 (rc_X1_passOthers v0 v3 v10 v2 v7) rfl (by decide) (by decide) (Nat.le_of_ble_eq_true rfl) rfl (by decide +kernel) rfl fun x1 => ?_
  refine z_aload_n (j := 0) (q := 162) (by decide +kernel) rfl 0 rfl ?_
  refine z_getA (q := 165) zf_RX1_31 (by decide +kernel) rfl fun x3 => ?_
  refine z_iload_n (j := 3) (q := 166) (by decide +kernel) rfl 3 rfl ?_
  refine z_iload (j := 10) (q := 168) (by decide +kernel) rfl 5 rfl ?_
  refine z_iast (q := 169) (Or.inl ⟨rfl, rfl, rfl⟩) (by decide +kernel) rfl ?_
  refine z_aload_n (j := 0) (q := 170) (by decide +kernel) rfl 0 rfl ?_
  refine z_aload_n (j := 1) (q := 171) (by decide +kernel) rfl 1 rfl ?_
  refine z_iload_n (j := 3) (q := 172) (by decide +kernel) rfl 3 rfl ?_
  refine z_callVU (As := [.ref v1, .int v3]) (st := []) (q := 175) (ct_X1_noteEnd g l v0 v1 v3) zm_RX1_62 (rc_X1_noteEnd v0 v1 v3) rfl (by decide) (by decide) (Nat.le_of_ble_eq_true rfl) rfl (by decide +kernel) rfl fun x5 => ?_
  exact z_vret (by decide +kernel)
def jn_X1_goBy_113 (v0 : Nat) (v1 : Nat) (v2 : Int32) (v3 : Int32) (v6 : Int32) (v7 : Int32) (w0 : Int32) : zAH → Option (Unit × zAH) := fun h => (zgI 0 0 v1 h).bind fun x1 => (zgI 1 3 v0 h).bind fun x2 => if x2 = v3 then (zgA 1 10 v0 h).bind fun x3 => (zaI 0 x3 v3 h).bind fun x4 => (zaS 0 x3 v3 (x4 + ((zmn (v6 + w0) x1) - v6)) h).bind fun h5 => jn_X1_goBy_151 v0 v1 v2 v3 v7 (zmn (v6 + w0) x1) h5 else jn_X1_goBy_151 v0 v1 v2 v3 v7 (zmn (v6 + w0) x1) h
theorem sj_X1_goBy_113 (g : zG) (l : Launch) (v0 : Nat) (v1 : Nat) (v2 : Int32) (v3 : Int32) (v6 : Int32) (v7 : Int32) (w0 : Int32) : zSm g l cX1_goBy 11 RX1 "goBy" none 2 49 zrV 113 [(0, .ref v0), (1, .ref v1), (2, .int v2), (3, .int v3), (6, .int v6), (7, .int v7)] [.int w0] (jn_X1_goBy_113 v0 v1 v2 v3 v6 v7 w0) := by
  unfold jn_X1_goBy_113
  refine z_istore (j := 9) (q := 115) (by decide +kernel) rfl (by decide) rfl ?_
  refine z_iload (j := 6) (q := 117) (by decide +kernel) rfl 5 rfl ?_
  refine z_iload (j := 9) (q := 119) (by decide +kernel) rfl 0 rfl ?_
  refine z_iadd (q := 120) (by decide +kernel) rfl ?_
  refine z_aload_n (j := 1) (q := 121) (by decide +kernel) rfl 2 rfl ?_
  refine z_getI (q := 124) zf_RX1_53 (by decide +kernel) rfl fun x1 => ?_
  refine z_mmin (st := []) (q := 127) zw413 zw414 zw81 zw415 (by decide) (by decide) (Nat.le_of_ble_eq_true rfl) (by decide +kernel) rfl ?_
  refine z_istore (j := 10) (q := 129) (by decide +kernel) rfl (by decide) rfl ?_
  refine z_aload_n (j := 0) (q := 130) (by decide +kernel) rfl 2 rfl ?_
  refine z_getI (q := 133) zf_RX1_21 (by decide +kernel) rfl fun x2 => ?_
  refine z_iload_n (j := 3) (q := 134) (by decide +kernel) rfl 5 rfl ?_
  refine z_icmp_ne (off := 17) (t := 151) (q := 137) (by decide +kernel) (by decide) rfl ?_ ?_
  · refine zsub [2, 3, 4, 5, 7, 0] rfl ?_
    exact sj_X1_goBy_151 g l v0 v1 v2 v3 v7 (zmn (v6 + w0) x1)
  · refine z_aload_n (j := 0) (q := 138) (by decide +kernel) rfl 2 rfl ?_
    refine z_getA (q := 141) zf_RX1_44 (by decide +kernel) rfl fun x3 => ?_
    refine z_iload_n (j := 3) (q := 142) (by decide +kernel) rfl 5 rfl ?_
    refine z_dup2 (q := 143) (by decide +kernel) rfl rfl rfl ?_
    refine z_iald (q := 144) (Or.inl ⟨rfl, rfl⟩) (by decide +kernel) rfl fun x4 => ?_
    refine z_iload (j := 10) (q := 146) (by decide +kernel) rfl 0 rfl ?_
    refine z_iload (j := 6) (q := 148) (by decide +kernel) rfl 6 rfl ?_
    refine z_isub (q := 149) (by decide +kernel) rfl ?_
    refine z_iadd (q := 150) (by decide +kernel) rfl ?_
    refine z_iast (q := 151) (Or.inl ⟨rfl, rfl, rfl⟩) (by decide +kernel) rfl ?_
    refine zsub [2, 3, 4, 5, 7, 0] rfl ?_
    exact sj_X1_goBy_151 g l v0 v1 v2 v3 v7 (zmn (v6 + w0) x1)
def jn_X1_goBy_111 (v0 : Nat) (v1 : Nat) (v2 : Int32) (v3 : Int32) (v6 : Int32) (v7 : Int32) (v8 : Int32) : zAH → Option (Unit × zAH) := fun h => jn_X1_goBy_113 v0 v1 v2 v3 v6 v7 v8 h
theorem sj_X1_goBy_111 (g : zG) (l : Launch) (v0 : Nat) (v1 : Nat) (v2 : Int32) (v3 : Int32) (v6 : Int32) (v7 : Int32) (v8 : Int32) : zSm g l cX1_goBy 11 RX1 "goBy" none 2 49 zrV 111 [(0, .ref v0), (1, .ref v1), (2, .int v2), (3, .int v3), (6, .int v6), (7, .int v7), (8, .int v8)] [] (jn_X1_goBy_111 v0 v1 v2 v3 v6 v7 v8) := by
  unfold jn_X1_goBy_111
  refine z_iload (j := 8) (q := 113) (by decide +kernel) rfl 6 rfl ?_
  refine zsub [0, 1, 2, 3, 4, 5] rfl ?_
  exact sj_X1_goBy_113 g l v0 v1 v2 v3 v6 v7 v8
def jn_X1_goBy_69 (v0 : Nat) (v1 : Nat) (v2 : Int32) (v3 : Int32) (v5 : Int32) (v6 : Int32) (v7 : Int32) (v8 : Int32) : zAH → Option (Unit × zAH) := fun h => (zgA 1 7 v0 h).bind fun x1 => (zgA 1 8 v0 h).bind fun x2 => (zaI 0 x2 v3 h).bind fun x3 => zbd (dn_X1_breathAfter v0 v5 v3 v7 v8 h) fun x4 h5 => (zaS 0 x1 v3 (zmn x3 x4) h5).bind fun h6 => if v5 = 3 then if v8 = 3 then jn_X1_goBy_113 v0 v1 v2 v3 v6 v7 4 h6 else jn_X1_goBy_111 v0 v1 v2 v3 v6 v7 v8 h6 else jn_X1_goBy_111 v0 v1 v2 v3 v6 v7 v8 h6
theorem sj_X1_goBy_69 (g : zG) (l : Launch) (v0 : Nat) (v1 : Nat) (v2 : Int32) (v3 : Int32) (v5 : Int32) (v6 : Int32) (v7 : Int32) (v8 : Int32) : zSm g l cX1_goBy 11 RX1 "goBy" none 2 49 zrV 69 [(0, .ref v0), (1, .ref v1), (2, .int v2), (3, .int v3), (5, .int v5), (6, .int v6), (7, .int v7), (8, .int v8)] [] (jn_X1_goBy_69 v0 v1 v2 v3 v5 v6 v7 v8) := by
  unfold jn_X1_goBy_69
  refine z_aload_n (j := 0) (q := 70) (by decide +kernel) rfl 0 rfl ?_
  refine z_getA (q := 73) zf_RX1_35 (by decide +kernel) rfl fun x1 => ?_
  refine z_iload_n (j := 3) (q := 74) (by decide +kernel) rfl 3 rfl ?_
  refine z_aload_n (j := 0) (q := 75) (by decide +kernel) rfl 0 rfl ?_
  refine z_getA (q := 78) zf_RX1_38 (by decide +kernel) rfl fun x2 => ?_
  refine z_iload_n (j := 3) (q := 79) (by decide +kernel) rfl 3 rfl ?_
  refine z_iald (q := 80) (Or.inl ⟨rfl, rfl⟩) (by decide +kernel) rfl fun x3 => ?_
  refine z_aload_n (j := 0) (q := 81) (by decide +kernel) rfl 0 rfl ?_
  refine z_iload (j := 5) (q := 83) (by decide +kernel) rfl 4 rfl ?_
  refine z_iload_n (j := 3) (q := 84) (by decide +kernel) rfl 3 rfl ?_
  refine z_iload (j := 7) (q := 86) (by decide +kernel) rfl 6 rfl ?_
  refine z_iload (j := 8) (q := 88) (by decide +kernel) rfl 7 rfl ?_
  refine z_callVI (As := [.int v5, .int v3, .int v7, .int v8]) (st := [.int x3, .int v3, .ref x1]) (q := 91) (ct_X1_breathAfter g l v0 v5 v3 v7 v8) zm_RX1_92 (rc_X1_breathAfter v0 v5 v3 v7 v8) rfl (by decide) (by decide) (Nat.le_of_ble_eq_true rfl) rfl (by decide +kernel) rfl fun x4 => ?_
  refine z_mmin (st := [.int v3, .ref x1]) (q := 94) zw413 zw414 zw81 zw415 (by decide) (by decide) (Nat.le_of_ble_eq_true rfl) (by decide +kernel) rfl ?_
  refine z_iast (q := 95) (Or.inl ⟨rfl, rfl, rfl⟩) (by decide +kernel) rfl ?_
  refine z_iload (j := 5) (q := 97) (by decide +kernel) rfl 4 rfl ?_
  refine z_iconst (n := 3) (v := 3) (q := 98) (by decide +kernel) rfl (by decide) ?_
  refine z_icmp_ne (off := 13) (t := 111) (q := 101) (by decide +kernel) (by decide) rfl ?_ ?_
  · refine zsub [0, 1, 2, 3, 5, 6, 7] rfl ?_
    exact sj_X1_goBy_111 g l v0 v1 v2 v3 v6 v7 v8
  · refine z_iload (j := 8) (q := 103) (by decide +kernel) rfl 7 rfl ?_
    refine z_iconst (n := 3) (v := 3) (q := 104) (by decide +kernel) rfl (by decide) ?_
    refine z_icmp_ne (off := 7) (t := 111) (q := 107) (by decide +kernel) (by decide) rfl ?_ ?_
    · refine zsub [0, 1, 2, 3, 5, 6, 7] rfl ?_
      exact sj_X1_goBy_111 g l v0 v1 v2 v3 v6 v7 v8
    · refine z_iconst (n := 4) (v := 4) (q := 108) (by decide +kernel) rfl (by decide) ?_
      refine z_goto (off := 5) (t := 113) (by decide +kernel) (by decide) ?_
      refine zsub [0, 1, 2, 3, 5, 6] rfl ?_
      exact sj_X1_goBy_113 g l v0 v1 v2 v3 v6 v7 4
def lb_X1_goBy_44 (v0 : Nat) (v1 : Nat) (v2 : Int32) (v3 : Int32) (v5 : Int32) (v6 : Int32) (v7 : Int32) (rec : (Int32) → zAH → Option (Unit × zAH)) (s : Int32) : zAH → Option (Unit × zAH) := fun h => if 0 < s then zbd (dn_X1_breathAfter v0 v5 v3 v7 s h) fun x1 h2 => if x1 < 0 then rec (s + (-1)) h2 else jn_X1_goBy_69 v0 v1 v2 v3 v5 v6 v7 s h2 else jn_X1_goBy_69 v0 v1 v2 v3 v5 v6 v7 s h
def lp_X1_goBy_44 (v0 : Nat) (v1 : Nat) (v2 : Int32) (v3 : Int32) (v5 : Int32) (v6 : Int32) (v7 : Int32) (s : Int32) : zAH → Option (Unit × zAH) := zlp (lb_X1_goBy_44 v0 v1 v2 v3 v5 v6 v7) 2000 s
theorem sl_X1_goBy_44 (g : zG) (l : Launch) (v0 : Nat) (v1 : Nat) (v2 : Int32) (v3 : Int32) (v5 : Int32) (v6 : Int32) (v7 : Int32) (s : Int32) : zSm g l cX1_goBy 11 RX1 "goBy" none 2 49 zrV 44 [(0, .ref v0), (1, .ref v1), (2, .int v2), (3, .int v3), (5, .int v5), (6, .int v6), (7, .int v7), (8, .int s)] [] (lp_X1_goBy_44 v0 v1 v2 v3 v5 v6 v7 s) := by
  unfold lp_X1_goBy_44
  refine z_loop (lvf := fun s => [(0, .ref v0), (1, .ref v1), (2, .int v2), (3, .int v3), (5, .int v5), (6, .int v6), (7, .int v7), (8, .int s)]) (fun rec hrec s => ?_) 2000 s
  unfold lb_X1_goBy_44
  refine z_iload (j := 8) (q := 46) (by decide +kernel) rfl 7 rfl ?_
  refine z_if_le (off := 23) (t := 69) (q := 49) (by decide +kernel) (by decide) rfl ?_ ?_
  · refine zsub [0, 1, 2, 3, 4, 5, 6, 7] rfl ?_
    exact sj_X1_goBy_69 g l v0 v1 v2 v3 v5 v6 v7 s
  · refine z_aload_n (j := 0) (q := 50) (by decide +kernel) rfl 0 rfl ?_
    refine z_iload (j := 5) (q := 52) (by decide +kernel) rfl 4 rfl ?_
    refine z_iload_n (j := 3) (q := 53) (by decide +kernel) rfl 3 rfl ?_
    refine z_iload (j := 7) (q := 55) (by decide +kernel) rfl 6 rfl ?_
    refine z_iload (j := 8) (q := 57) (by decide +kernel) rfl 7 rfl ?_
    refine z_callVI (As := [.int v5, .int v3, .int v7, .int s]) (st := []) (q := 60) (ct_X1_breathAfter g l v0 v5 v3 v7 s) zm_RX1_92 (rc_X1_breathAfter v0 v5 v3 v7 s) rfl (by decide) (by decide) (Nat.le_of_ble_eq_true rfl) rfl (by decide +kernel) rfl fun x1 => ?_
    refine z_if_ge (off := 9) (t := 69) (q := 63) (by decide +kernel) (by decide) rfl ?_ ?_
    · refine zsub [0, 1, 2, 3, 4, 5, 6, 7] rfl ?_
      exact sj_X1_goBy_69 g l v0 v1 v2 v3 v5 v6 v7 s
    · refine z_iinc (j := 8) (n := (-1)) (v := (-1)) (q := 66) (by decide +kernel) rfl 7 rfl (by decide) (by decide) rfl ?_
      refine z_goto (off := (-22)) (t := 44) (by decide +kernel) (by decide) ?_
      refine zsub [1, 2, 3, 4, 5, 6, 7, 0] rfl ?_
      exact hrec (s + (-1))
def jn_X1_goBy_42 (v0 : Nat) (v1 : Nat) (v2 : Int32) (v3 : Int32) (v5 : Int32) (v6 : Int32) (v7 : Int32) (w0 : Int32) : zAH → Option (Unit × zAH) := fun h => lp_X1_goBy_44 v0 v1 v2 v3 v5 v6 v7 w0 h
theorem sj_X1_goBy_42 (g : zG) (l : Launch) (v0 : Nat) (v1 : Nat) (v2 : Int32) (v3 : Int32) (v5 : Int32) (v6 : Int32) (v7 : Int32) (w0 : Int32) : zSm g l cX1_goBy 11 RX1 "goBy" none 2 49 zrV 42 [(0, .ref v0), (1, .ref v1), (2, .int v2), (3, .int v3), (5, .int v5), (6, .int v6), (7, .int v7)] [.int w0] (jn_X1_goBy_42 v0 v1 v2 v3 v5 v6 v7 w0) := by
  unfold jn_X1_goBy_42
  refine z_istore (j := 8) (q := 44) (by decide +kernel) rfl (by decide) rfl ?_
  refine zsub [1, 2, 3, 4, 5, 6, 7, 0] rfl ?_
  exact sl_X1_goBy_44 g l v0 v1 v2 v3 v5 v6 v7 w0
def jn_X1_goBy_40 (v0 : Nat) (v1 : Nat) (v2 : Int32) (v3 : Int32) (v4 : Int32) (v5 : Int32) (v6 : Int32) (v7 : Int32) : zAH → Option (Unit × zAH) := fun h => jn_X1_goBy_42 v0 v1 v2 v3 v5 v6 v7 v4 h
theorem sj_X1_goBy_40 (g : zG) (l : Launch) (v0 : Nat) (v1 : Nat) (v2 : Int32) (v3 : Int32) (v4 : Int32) (v5 : Int32) (v6 : Int32) (v7 : Int32) : zSm g l cX1_goBy 11 RX1 "goBy" none 2 49 zrV 40 [(0, .ref v0), (1, .ref v1), (2, .int v2), (3, .int v3), (4, .int v4), (5, .int v5), (6, .int v6), (7, .int v7)] [] (jn_X1_goBy_40 v0 v1 v2 v3 v4 v5 v6 v7) := by
  unfold jn_X1_goBy_40
  refine z_iload (j := 4) (q := 42) (by decide +kernel) rfl 4 rfl ?_
  refine zsub [0, 1, 2, 3, 5, 6, 7] rfl ?_
  exact sj_X1_goBy_42 g l v0 v1 v2 v3 v5 v6 v7 v4
def dn_X1_goBy (v0 : Nat) (v1 : Nat) (v2 : Int32) (v3 : Int32) (v4 : Int32) : zAH → Option (Unit × zAH) := fun h => (zgO 1 v0 h).bind fun _ => (zgA 0 3 v1 h).bind fun x1 => (zaI 0 x1 v3 h).bind fun x2 => (zgA 1 6 v0 h).bind fun x3 => (zaI 0 x3 v3 h).bind fun x4 => zbd (dn_X0_slopeAt v1 x4 h) fun x5 h6 => if x2 = 5 then if v4 = 3 then jn_X1_goBy_42 v0 v1 v2 v3 x2 x4 x5 2 h6 else jn_X1_goBy_40 v0 v1 v2 v3 v4 x2 x4 x5 h6 else jn_X1_goBy_40 v0 v1 v2 v3 v4 x2 x4 x5 h6
theorem ct_X1_goBy (g : zG) (l : Launch) (v0 : Nat) (v1 : Nat) (v2 : Int32) (v3 : Int32) (v4 : Int32) : zCt g l yX1_goBy cX1_goBy 11 none 2 49 zrV [.ref v0, .ref v1, .int v2, .int v3, .int v4] (dn_X1_goBy v0 v1 v2 v3 v4) := by
  refine zCt_of (lv := [(0, .ref v0), (1, .ref v1), (2, .int v2), (3, .int v3), (4, .int v4)]) (by decide +kernel) (Nat.le_of_ble_eq_true rfl) rfl ?_
  show zSm g l cX1_goBy 11 RX1 "goBy" none 2 49 zrV 0 [(0, .ref v0), (1, .ref v1), (2, .int v2), (3, .int v3), (4, .int v4)] [] (dn_X1_goBy v0 v1 v2 v3 v4)
  unfold dn_X1_goBy
  refine z_rec ?_
  refine z_aload_n (j := 1) (q := 1) (by decide +kernel) rfl 1 rfl ?_
  refine z_getA (q := 4) zf_RX1_85 (by decide +kernel) rfl fun x1 => ?_
  refine z_iload_n (j := 3) (q := 5) (by decide +kernel) rfl 3 rfl ?_
  refine z_iald (q := 6) (Or.inl ⟨rfl, rfl⟩) (by decide +kernel) rfl fun x2 => ?_
  refine z_istore (j := 5) (q := 8) (by decide +kernel) rfl (by decide) rfl ?_
  refine z_aload_n (j := 0) (q := 9) (by decide +kernel) rfl 1 rfl ?_
  refine z_getA (q := 12) zf_RX1_31 (by decide +kernel) rfl fun x3 => ?_
  refine z_iload_n (j := 3) (q := 13) (by decide +kernel) rfl 4 rfl ?_
  refine z_iald (q := 14) (Or.inl ⟨rfl, rfl⟩) (by decide +kernel) rfl fun x4 => ?_
  refine z_istore (j := 6) (q := 16) (by decide +kernel) rfl (by decide) rfl ?_
  refine z_aload_n (j := 1) (q := 17) (by decide +kernel) rfl 3 rfl ?_
  refine z_iload (j := 6) (q := 19) (by decide +kernel) rfl 0 rfl ?_
  refine z_callVI (As := [.int x4]) (st := []) (q := 22) (ct_X0_slopeAt g l v1 x4) zm_RX1_88 (rc_X0_slopeAt v1 x4) rfl (by decide) (by decide) (Nat.le_of_ble_eq_true rfl) rfl (by decide +kernel) rfl fun x5 => ?_
  refine z_istore (j := 7) (q := 24) (by decide +kernel) rfl (by decide) rfl ?_
  refine z_iload (j := 5) (q := 26) (by decide +kernel) rfl 2 rfl ?_
  refine z_iconst (n := 5) (v := 5) (q := 27) (by decide +kernel) rfl (by decide) ?_
  refine z_icmp_ne (off := 13) (t := 40) (q := 30) (by decide +kernel) (by decide) rfl ?_ ?_
  · refine zsub [3, 4, 5, 6, 7, 2, 1, 0] rfl ?_
    exact sj_X1_goBy_40 g l v0 v1 v2 v3 v4 x2 x4 x5
  · refine z_iload (j := 4) (q := 32) (by decide +kernel) rfl 7 rfl ?_
    refine z_iconst (n := 3) (v := 3) (q := 33) (by decide +kernel) rfl (by decide) ?_
    refine z_icmp_ne (off := 7) (t := 40) (q := 36) (by decide +kernel) (by decide) rfl ?_ ?_
    · refine zsub [3, 4, 5, 6, 7, 2, 1, 0] rfl ?_
      exact sj_X1_goBy_40 g l v0 v1 v2 v3 v4 x2 x4 x5
    · refine z_iconst (n := 2) (v := 2) (q := 37) (by decide +kernel) rfl (by decide) ?_
      refine z_goto (off := 5) (t := 42) (by decide +kernel) (by decide) ?_
      refine zsub [3, 4, 5, 6, 2, 1, 0] rfl ?_
      exact sj_X1_goBy_42 g l v0 v1 v2 v3 x2 x4 x5 2
theorem rc_X1_goBy (v0 : Nat) (v1 : Nat) (v2 : Int32) (v3 : Int32) (v4 : Int32) : ∀ h x, dn_X1_goBy v0 v1 v2 v3 v4 h = some x → ∃ fs, zgO 1 v0 h = some fs := fun h x hd => by
  obtain ⟨fs, e, -⟩ := Option.bind_eq_some_iff.mp hd
  exact ⟨fs, e⟩
def jn_X1_takeStep_58 (kc3 : Int32 → zAH → Option (Unit × zAH)) (v0 : Nat) (v1 : Nat) (v2 : Int32) (v3 : Nat) (v4 : Int32) : zAH → Option (Unit × zAH) := fun h => kc3 (v4 + 1) h
theorem sj_X1_takeStep_58 (g : zG) (l : Launch) (kc3 : Int32 → zAH → Option (Unit × zAH)) (v0 : Nat) (v1 : Nat) (v2 : Int32) (v3 : Nat) (v4 : Int32) (hkc3 : ∀ s, zSm g l cX1_takeStep 6 RX1 "takeStep" none 3 79 zrV 3 [(0, .ref v0), (1, .ref v1), (2, .int v2), (3, .ref v3), (4, .int s)] [] (kc3 s)) : zSm g l cX1_takeStep 6 RX1 "takeStep" none 3 79 zrV 58 [(0, .ref v0), (1, .ref v1), (2, .int v2), (3, .ref v3), (4, .int v4)] [] (jn_X1_takeStep_58 kc3 v0 v1 v2 v3 v4) := by
  unfold jn_X1_takeStep_58
  refine z_iinc (j := 4) (n := 1) (v := 1) (q := 61) (by decide +kernel) rfl 4 rfl (by decide) (by decide) rfl ?_
  refine z_goto (off := (-58)) (t := 3) (by decide +kernel) (by decide) ?_
  refine zsub [1, 2, 3, 4, 0] rfl ?_
  exact hkc3 (v4 + 1)
def jn_X1_takeStep_46 (kc3 : Int32 → zAH → Option (Unit × zAH)) (v0 : Nat) (v1 : Nat) (v2 : Int32) (v3 : Nat) (v4 : Int32) (w0 : Int32) : zAH → Option (Unit × zAH) := fun h => zbd (dn_X1_goBy v0 v1 v2 v4 w0 h) fun x1 h2 => jn_X1_takeStep_58 kc3 v0 v1 v2 v3 v4 h2
theorem sj_X1_takeStep_46 (g : zG) (l : Launch) (kc3 : Int32 → zAH → Option (Unit × zAH)) (v0 : Nat) (v1 : Nat) (v2 : Int32) (v3 : Nat) (v4 : Int32) (w0 : Int32) (hkc3 : ∀ s, zSm g l cX1_takeStep 6 RX1 "takeStep" none 3 79 zrV 3 [(0, .ref v0), (1, .ref v1), (2, .int v2), (3, .ref v3), (4, .int s)] [] (kc3 s)) : zSm g l cX1_takeStep 6 RX1 "takeStep" none 3 79 zrV 46 [(0, .ref v0), (1, .ref v1), (2, .int v2), (3, .ref v3), (4, .int v4)] [.int w0] (jn_X1_takeStep_46 kc3 v0 v1 v2 v3 v4 w0) := by
  unfold jn_X1_takeStep_46
  refine z_istore (j := 5) (q := 48) (by decide +kernel) rfl (by decide) rfl ?_
  refine z_aload_n (j := 0) (q := 49) (by decide +kernel) rfl 1 rfl ?_
  refine z_aload_n (j := 1) (q := 50) (by decide +kernel) rfl 2 rfl ?_
  refine z_iload_n (j := 2) (q := 51) (by decide +kernel) rfl 3 rfl ?_
  refine z_iload (j := 4) (q := 53) (by decide +kernel) rfl 5 rfl ?_
  refine z_iload (j := 5) (q := 55) (by decide +kernel) rfl 0 rfl ?_
  refine z_callVU (As := [.ref v1, .int v2, .int v4, .int w0]) (st := []) (q := 58) (ct_X1_goBy g l v0 v1 v2 v4 w0) zm_RX1_81 (rc_X1_goBy v0 v1 v2 v4 w0) rfl (by decide) (by decide) (Nat.le_of_ble_eq_true rfl) rfl (by decide +kernel) rfl fun x1 => ?_
  refine zsub [1, 2, 3, 4, 5] rfl ?_
  exact sj_X1_takeStep_58 g l kc3 v0 v1 v2 v3 v4 hkc3
def jn_X1_takeStep_64 (v0 : Nat) : zAH → Option (Unit × zAH) := fun h => (zgI 1 1 v0 h).bind fun x1 => (zpF 1 1 v0 (.int (x1 + 1)) h).bind fun h2 => some ((), h2)
theorem sj_X1_takeStep_64 (g : zG) (l : Launch) (v0 : Nat) : zSm g l cX1_takeStep 6 RX1 "takeStep" none 3 79 zrV 64 [(0, .ref v0)] [] (jn_X1_takeStep_64 v0) := by
  unfold jn_X1_takeStep_64
  refine z_aload_n (j := 0) (q := 65) (by decide +kernel) rfl 0 rfl ?_
  refine z_dup (q := 66) (by decide +kernel) rfl rfl ?_
  refine z_getI (q := 69) zf_RX1_15 (by decide +kernel) rfl fun x1 => ?_
  refine z_iconst (n := 1) (v := 1) (q := 70) (by decide +kernel) rfl (by decide) ?_
  refine z_iadd (q := 71) (by decide +kernel) rfl ?_
  refine z_putV (q := 74) zp_RX1_15 (fun z => by cases z) rfl rfl (by decide +kernel) rfl ?_
  exact z_vret (by decide +kernel)
def lb_X1_takeStep_3 (v0 : Nat) (v1 : Nat) (v2 : Int32) (v3 : Nat) (rec : (Int32) → zAH → Option (Unit × zAH)) (s : Int32) : zAH → Option (Unit × zAH) := fun h => (zgI 1 0 v0 h).bind fun x1 => if s < x1 then zbd (dn_X1_isDone v0 s h) fun x2 h3 => if x2 = 0 then (zaI 0 v3 s h3).bind fun x4 => if x4 = ((-1)) then (zgI 1 1 v0 h3).bind fun x6 => zbd (dn_X0_plannedPace v1 s x6 h3) fun x7 h8 => jn_X1_takeStep_46 rec v0 v1 v2 v3 s x7 h8 else (zaI 0 v3 s h3).bind fun x5 => jn_X1_takeStep_46 rec v0 v1 v2 v3 s x5 h3 else jn_X1_takeStep_58 rec v0 v1 v2 v3 s h3 else jn_X1_takeStep_64 v0 h
def lp_X1_takeStep_3 (v0 : Nat) (v1 : Nat) (v2 : Int32) (v3 : Nat) (s : Int32) : zAH → Option (Unit × zAH) := zlp (lb_X1_takeStep_3 v0 v1 v2 v3) 2000 s
theorem sl_X1_takeStep_3 (g : zG) (l : Launch) (v0 : Nat) (v1 : Nat) (v2 : Int32) (v3 : Nat) (s : Int32) : zSm g l cX1_takeStep 6 RX1 "takeStep" none 3 79 zrV 3 [(0, .ref v0), (1, .ref v1), (2, .int v2), (3, .ref v3), (4, .int s)] [] (lp_X1_takeStep_3 v0 v1 v2 v3 s) := by
  unfold lp_X1_takeStep_3
  refine z_loop (lvf := fun s => [(0, .ref v0), (1, .ref v1), (2, .int v2), (3, .ref v3), (4, .int s)]) (fun rec hrec s => ?_) 2000 s
  unfold lb_X1_takeStep_3
  refine z_iload (j := 4) (q := 5) (by decide +kernel) rfl 4 rfl ?_
  refine z_aload_n (j := 0) (q := 6) (by decide +kernel) rfl 0 rfl ?_
  refine z_getI (q := 9) zf_RX1_9 (by decide +kernel) rfl fun x1 => ?_
  refine z_icmp_ge (off := 55) (t := 64) (q := 12) (by decide +kernel) (by decide) rfl ?_ ?_
  · refine zsub [0] rfl ?_
    exact sj_X1_takeStep_64 g l v0
  · refine z_aload_n (j := 0) (q := 13) (by decide +kernel) rfl 0 rfl ?_
    refine z_iload (j := 4) (q := 15) (by decide +kernel) rfl 4 rfl ?_
    refine z_callVI (As := [.int s]) (st := []) (q := 18) (ct_X1_isDone g l v0 s) zm_RX1_74 (rc_X1_isDone v0 s) rfl (by decide) (by decide) (Nat.le_of_ble_eq_true rfl) rfl (by decide +kernel) rfl fun x2 => ?_
    refine z_if_ne (off := 40) (t := 58) (q := 21) (by decide +kernel) (by decide) rfl ?_ ?_
    · refine zsub [0, 1, 2, 3, 4] rfl ?_
      exact sj_X1_takeStep_58 g l rec v0 v1 v2 v3 s hrec
    · refine z_aload_n (j := 3) (q := 22) (by decide +kernel) rfl 3 rfl ?_
      refine z_iload (j := 4) (q := 24) (by decide +kernel) rfl 4 rfl ?_
      refine z_iald (q := 25) (Or.inl ⟨rfl, rfl⟩) (by decide +kernel) rfl fun x4 => ?_
      refine z_iconst (n := (-1)) (v := (-1)) (q := 26) (by decide +kernel) rfl (by decide) ?_
      refine z_icmp_ne (off := 16) (t := 42) (q := 29) (by decide +kernel) (by decide) rfl ?_ ?_
      · refine z_aload_n (j := 3) (q := 43) (by decide +kernel) rfl 3 rfl ?_
        refine z_iload (j := 4) (q := 45) (by decide +kernel) rfl 4 rfl ?_
        refine z_iald (q := 46) (Or.inl ⟨rfl, rfl⟩) (by decide +kernel) rfl fun x5 => ?_
        refine zsub [0, 1, 2, 3, 4] rfl ?_
        exact sj_X1_takeStep_46 g l rec v0 v1 v2 v3 s x5 hrec
      · refine z_aload_n (j := 1) (q := 30) (by decide +kernel) rfl 1 rfl ?_
        refine z_iload (j := 4) (q := 32) (by decide +kernel) rfl 4 rfl ?_
        refine z_aload_n (j := 0) (q := 33) (by decide +kernel) rfl 0 rfl ?_
        refine z_getI (q := 36) zf_RX1_15 (by decide +kernel) rfl fun x6 => ?_
        refine z_callVI (As := [.int s, .int x6]) (st := []) (q := 39) (ct_X0_plannedPace g l v1 s x6) zm_RX1_78 (rc_X0_plannedPace v1 s x6) rfl (by decide) (by decide) (Nat.le_of_ble_eq_true rfl) rfl (by decide +kernel) rfl fun x7 => ?_
        refine z_goto (off := 7) (t := 46) (by decide +kernel) (by decide) ?_
        refine zsub [0, 1, 2, 3, 4] rfl ?_
        exact sj_X1_takeStep_46 g l rec v0 v1 v2 v3 s x7 hrec
def dn_X1_takeStep (v0 : Nat) (v1 : Nat) (v2 : Int32) (v3 : Nat) : zAH → Option (Unit × zAH) := fun h => (zgO 1 v0 h).bind fun _ => lp_X1_takeStep_3 v0 v1 v2 v3 0 h
theorem ct_X1_takeStep (g : zG) (l : Launch) (v0 : Nat) (v1 : Nat) (v2 : Int32) (v3 : Nat) : zCt g l yX1_takeStep cX1_takeStep 6 none 3 79 zrV [.ref v0, .ref v1, .int v2, .ref v3] (dn_X1_takeStep v0 v1 v2 v3) := by
  refine zCt_of (lv := [(0, .ref v0), (1, .ref v1), (2, .int v2), (3, .ref v3)]) (by decide +kernel) (Nat.le_of_ble_eq_true rfl) rfl ?_
  show zSm g l cX1_takeStep 6 RX1 "takeStep" none 3 79 zrV 0 [(0, .ref v0), (1, .ref v1), (2, .int v2), (3, .ref v3)] [] (dn_X1_takeStep v0 v1 v2 v3)
  unfold dn_X1_takeStep
  refine z_rec ?_
  refine z_iconst (n := 0) (v := 0) (q := 1) (by decide +kernel) rfl (by decide) ?_
  refine z_istore (j := 4) (q := 3) (by decide +kernel) rfl (by decide) rfl ?_
  refine zsub [1, 2, 3, 4, 0] rfl ?_
  exact sl_X1_takeStep_3 g l v0 v1 v2 v3 0
theorem rc_X1_takeStep (v0 : Nat) (v1 : Nat) (v2 : Int32) (v3 : Nat) : ∀ h x, dn_X1_takeStep v0 v1 v2 v3 h = some x → ∃ fs, zgO 1 v0 h = some fs := fun h x hd => by
  obtain ⟨fs, e, -⟩ := Option.bind_eq_some_iff.mp hd
  exact ⟨fs, e⟩
def jn_X1_runOut_30 : zAH → Option (Unit × zAH) := fun h => some ((), h)
theorem sj_X1_runOut_30 (g : zG) (l : Launch) : zSm g l cX1_runOut 5 RX1 "runOut" none 4 104 zrV 30 [] [] (jn_X1_runOut_30) := by
  unfold jn_X1_runOut_30
  exact z_vret (by decide +kernel)
def lb_X1_runOut_3 (v0 : Nat) (v1 : Nat) (v2 : Int32) (v3 : Nat) (rec : (Int32) → zAH → Option (Unit × zAH)) (s : Int32) : zAH → Option (Unit × zAH) := fun h => if s < 60 then zbd (dn_X1_isOver v0 h) fun x1 h2 => if x1 = 0 then zbd (dn_X1_takeStep v0 v1 v2 v3 h2) fun x3 h4 => rec (s + 1) h4 else jn_X1_runOut_30 h2 else jn_X1_runOut_30 h
def lp_X1_runOut_3 (v0 : Nat) (v1 : Nat) (v2 : Int32) (v3 : Nat) (s : Int32) : zAH → Option (Unit × zAH) := zlp (lb_X1_runOut_3 v0 v1 v2 v3) 2000 s
theorem sl_X1_runOut_3 (g : zG) (l : Launch) (v0 : Nat) (v1 : Nat) (v2 : Int32) (v3 : Nat) (s : Int32) : zSm g l cX1_runOut 5 RX1 "runOut" none 4 104 zrV 3 [(0, .ref v0), (1, .ref v1), (2, .int v2), (3, .ref v3), (4, .int s)] [] (lp_X1_runOut_3 v0 v1 v2 v3 s) := by
  unfold lp_X1_runOut_3
  refine z_loop (lvf := fun s => [(0, .ref v0), (1, .ref v1), (2, .int v2), (3, .ref v3), (4, .int s)]) (fun rec hrec s => ?_) 2000 s
  unfold lb_X1_runOut_3
  refine z_iload (j := 4) (q := 5) (by decide +kernel) rfl 4 rfl ?_
  refine z_bipush (n := 60) (v := 60) (q := 7) (by decide +kernel) rfl (by decide) ?_
  refine z_icmp_ge (off := 23) (t := 30) (q := 10) (by decide +kernel) (by decide) rfl ?_ ?_
  · refine zsub [] rfl ?_
    exact sj_X1_runOut_30 g l 
  · refine z_aload_n (j := 0) (q := 11) (by decide +kernel) rfl 0 rfl ?_
    refine z_callVI (As := []) (st := []) (q := 14) (ct_X1_isOver g l v0) zm_RX1_66 (rc_X1_isOver v0) rfl (by decide) (by decide) (Nat.le_of_ble_eq_true rfl) rfl (by decide +kernel) rfl fun x1 => ?_
    refine z_if_ne (off := 16) (t := 30) (q := 17) (by decide +kernel) (by decide) rfl ?_ ?_
    · refine zsub [] rfl ?_
      exact sj_X1_runOut_30 g l 
    · refine z_aload_n (j := 0) (q := 18) (by decide +kernel) rfl 0 rfl ?_
      refine z_aload_n (j := 1) (q := 19) (by decide +kernel) rfl 1 rfl ?_
      refine z_iload_n (j := 2) (q := 20) (by decide +kernel) rfl 2 rfl ?_
      refine z_aload_n (j := 3) (q := 21) (by decide +kernel) rfl 3 rfl ?_
      refine z_callVU (As := [.ref v1, .int v2, .ref v3]) (st := []) (q := 24) (ct_X1_takeStep g l v0 v1 v2 v3) zm_RX1_70 (rc_X1_takeStep v0 v1 v2 v3) rfl (by decide) (by decide) (Nat.le_of_ble_eq_true rfl) rfl (by decide +kernel) rfl fun x3 => ?_
      refine z_iinc (j := 4) (n := 1) (v := 1) (q := 27) (by decide +kernel) rfl 4 rfl (by decide) (by decide) rfl ?_
      refine z_goto (off := (-24)) (t := 3) (by decide +kernel) (by decide) ?_
      refine zsub [1, 2, 3, 4, 0] rfl ?_
      exact hrec (s + 1)
def dn_X1_runOut (v0 : Nat) (v1 : Nat) (v2 : Int32) (v3 : Nat) : zAH → Option (Unit × zAH) := fun h => (zgO 1 v0 h).bind fun _ => lp_X1_runOut_3 v0 v1 v2 v3 0 h
theorem ct_X1_runOut (g : zG) (l : Launch) (v0 : Nat) (v1 : Nat) (v2 : Int32) (v3 : Nat) : zCt g l yX1_runOut cX1_runOut 5 none 4 104 zrV [.ref v0, .ref v1, .int v2, .ref v3] (dn_X1_runOut v0 v1 v2 v3) := by
  refine zCt_of (lv := [(0, .ref v0), (1, .ref v1), (2, .int v2), (3, .ref v3)]) (by decide +kernel) (Nat.le_of_ble_eq_true rfl) rfl ?_
  show zSm g l cX1_runOut 5 RX1 "runOut" none 4 104 zrV 0 [(0, .ref v0), (1, .ref v1), (2, .int v2), (3, .ref v3)] [] (dn_X1_runOut v0 v1 v2 v3)
  unfold dn_X1_runOut
  refine z_rec ?_
  refine z_iconst (n := 0) (v := 0) (q := 1) (by decide +kernel) rfl (by decide) ?_
  refine z_istore (j := 4) (q := 3) (by decide +kernel) rfl (by decide) rfl ?_
  refine zsub [1, 2, 3, 4, 0] rfl ?_
  exact sl_X1_runOut_3 g l v0 v1 v2 v3 0
theorem rc_X1_runOut (v0 : Nat) (v1 : Nat) (v2 : Int32) (v3 : Nat) : ∀ h x, dn_X1_runOut v0 v1 v2 v3 h = some x → ∃ fs, zgO 1 v0 h = some fs := fun h x hd => by
  obtain ⟨fs, e, -⟩ := Option.bind_eq_some_iff.mp hd
  exact ⟨fs, e⟩
def jn_X1_isAhead_62 (w0 : Int32) : zAH → Option (Int32 × zAH) := fun h => if w0 = 0 ∨ w0 = 1 then some (w0, h) else none
theorem sj_X1_isAhead_62 (g : zG) (l : Launch) (w0 : Int32) : zSm g l cX1_isAhead 3 RX1 "isAhead" (some .boolean) 1 21 zrI 62 [] [.int w0] (jn_X1_isAhead_62 w0) := by
  unfold jn_X1_isAhead_62
  exact z_zret (by decide +kernel)
def jn_X1_isAhead_106 (w0 : Int32) : zAH → Option (Int32 × zAH) := fun h => if w0 = 0 ∨ w0 = 1 then some (w0, h) else none
theorem sj_X1_isAhead_106 (g : zG) (l : Launch) (w0 : Int32) : zSm g l cX1_isAhead 3 RX1 "isAhead" (some .boolean) 1 21 zrI 106 [] [.int w0] (jn_X1_isAhead_106 w0) := by
  unfold jn_X1_isAhead_106
  exact z_zret (by decide +kernel)
def jn_X1_isAhead_117 (w0 : Int32) : zAH → Option (Int32 × zAH) := fun h => if w0 = 0 ∨ w0 = 1 then some (w0, h) else none
theorem sj_X1_isAhead_117 (g : zG) (l : Launch) (w0 : Int32) : zSm g l cX1_isAhead 3 RX1 "isAhead" (some .boolean) 1 21 zrI 117 [] [.int w0] (jn_X1_isAhead_117 w0) := by
  unfold jn_X1_isAhead_117
  exact z_zret (by decide +kernel)
def jn_X1_isAhead_107 (v1 : Int32) (v2 : Int32) : zAH → Option (Int32 × zAH) := fun h => if v1 < v2 then jn_X1_isAhead_117 1 h else jn_X1_isAhead_117 0 h
theorem sj_X1_isAhead_107 (g : zG) (l : Launch) (v1 : Int32) (v2 : Int32) : zSm g l cX1_isAhead 3 RX1 "isAhead" (some .boolean) 1 21 zrI 107 [(1, .int v1), (2, .int v2)] [] (jn_X1_isAhead_107 v1 v2) := by
  unfold jn_X1_isAhead_107
  refine z_iload_n (j := 1) (q := 108) (by decide +kernel) rfl 0 rfl ?_
  refine z_iload_n (j := 2) (q := 109) (by decide +kernel) rfl 1 rfl ?_
  refine z_icmp_ge (off := 7) (t := 116) (q := 112) (by decide +kernel) (by decide) rfl ?_ ?_
  · refine z_iconst (n := 0) (v := 0) (q := 117) (by decide +kernel) rfl (by decide) ?_
    refine zsub [] rfl ?_
    exact sj_X1_isAhead_117 g l 0
  · refine z_iconst (n := 1) (v := 1) (q := 113) (by decide +kernel) rfl (by decide) ?_
    refine z_goto (off := 4) (t := 117) (by decide +kernel) (by decide) ?_
    refine zsub [] rfl ?_
    exact sj_X1_isAhead_117 g l 1
def jn_X1_isAhead_63 (v0 : Nat) (v1 : Int32) (v2 : Int32) : zAH → Option (Int32 × zAH) := fun h => zbd (dn_X1_isDone v0 v1 h) fun x1 h2 => if x1 = 0 then (zgA 1 6 v0 h2).bind fun x3 => (zaI 0 x3 v1 h2).bind fun x4 => (zgA 1 6 v0 h2).bind fun x5 => (zaI 0 x5 v2 h2).bind fun x6 => if x4 = x6 then jn_X1_isAhead_107 v1 v2 h2 else (zgA 1 6 v0 h2).bind fun x7 => (zaI 0 x7 v1 h2).bind fun x8 => (zgA 1 6 v0 h2).bind fun x9 => (zaI 0 x9 v2 h2).bind fun x10 => if x10 < x8 then jn_X1_isAhead_106 1 h2 else jn_X1_isAhead_106 0 h2 else jn_X1_isAhead_107 v1 v2 h2
theorem sj_X1_isAhead_63 (g : zG) (l : Launch) (v0 : Nat) (v1 : Int32) (v2 : Int32) : zSm g l cX1_isAhead 3 RX1 "isAhead" (some .boolean) 1 21 zrI 63 [(0, .ref v0), (1, .int v1), (2, .int v2)] [] (jn_X1_isAhead_63 v0 v1 v2) := by
  unfold jn_X1_isAhead_63
  refine z_aload_n (j := 0) (q := 64) (by decide +kernel) rfl 0 rfl ?_
  refine z_iload_n (j := 1) (q := 65) (by decide +kernel) rfl 1 rfl ?_
  refine z_callVI (As := [.int v1]) (st := []) (q := 68) (ct_X1_isDone g l v0 v1) zm_RX1_74 (rc_X1_isDone v0 v1) rfl (by decide) (by decide) (Nat.le_of_ble_eq_true rfl) rfl (by decide +kernel) rfl fun x1 => ?_
  refine z_if_ne (off := 39) (t := 107) (q := 71) (by decide +kernel) (by decide) rfl ?_ ?_
  · refine zsub [1, 2] rfl ?_
    exact sj_X1_isAhead_107 g l v1 v2
  · refine z_aload_n (j := 0) (q := 72) (by decide +kernel) rfl 0 rfl ?_
    refine z_getA (q := 75) zf_RX1_31 (by decide +kernel) rfl fun x3 => ?_
    refine z_iload_n (j := 1) (q := 76) (by decide +kernel) rfl 1 rfl ?_
    refine z_iald (q := 77) (Or.inl ⟨rfl, rfl⟩) (by decide +kernel) rfl fun x4 => ?_
    refine z_aload_n (j := 0) (q := 78) (by decide +kernel) rfl 0 rfl ?_
    refine z_getA (q := 81) zf_RX1_31 (by decide +kernel) rfl fun x5 => ?_
    refine z_iload_n (j := 2) (q := 82) (by decide +kernel) rfl 2 rfl ?_
    refine z_iald (q := 83) (Or.inl ⟨rfl, rfl⟩) (by decide +kernel) rfl fun x6 => ?_
    refine z_icmp_eq (off := 24) (t := 107) (q := 86) (by decide +kernel) (by decide) rfl ?_ ?_
    · refine zsub [1, 2] rfl ?_
      exact sj_X1_isAhead_107 g l v1 v2
    · refine z_aload_n (j := 0) (q := 87) (by decide +kernel) rfl 0 rfl ?_
      refine z_getA (q := 90) zf_RX1_31 (by decide +kernel) rfl fun x7 => ?_
      refine z_iload_n (j := 1) (q := 91) (by decide +kernel) rfl 1 rfl ?_
      refine z_iald (q := 92) (Or.inl ⟨rfl, rfl⟩) (by decide +kernel) rfl fun x8 => ?_
      refine z_aload_n (j := 0) (q := 93) (by decide +kernel) rfl 0 rfl ?_
      refine z_getA (q := 96) zf_RX1_31 (by decide +kernel) rfl fun x9 => ?_
      refine z_iload_n (j := 2) (q := 97) (by decide +kernel) rfl 2 rfl ?_
      refine z_iald (q := 98) (Or.inl ⟨rfl, rfl⟩) (by decide +kernel) rfl fun x10 => ?_
      refine z_icmp_le (off := 7) (t := 105) (q := 101) (by decide +kernel) (by decide) rfl ?_ ?_
      · refine z_iconst (n := 0) (v := 0) (q := 106) (by decide +kernel) rfl (by decide) ?_
        refine zsub [] rfl ?_
        exact sj_X1_isAhead_106 g l 0
      · refine z_iconst (n := 1) (v := 1) (q := 102) (by decide +kernel) rfl (by decide) ?_
        refine z_goto (off := 4) (t := 106) (by decide +kernel) (by decide) ?_
        refine zsub [] rfl ?_
        exact sj_X1_isAhead_106 g l 1
def dn_X1_isAhead (v0 : Nat) (v1 : Int32) (v2 : Int32) : zAH → Option (Int32 × zAH) := fun h => (zgO 1 v0 h).bind fun _ => zbd (dn_X1_isDone v0 v1 h) fun x1 h2 => zbd (dn_X1_isDone v0 v2 h2) fun x3 h4 => if x1 = x3 then zbd (dn_X1_isDone v0 v1 h4) fun x5 h6 => if x5 = 0 then jn_X1_isAhead_63 v0 v1 v2 h6 else (zgA 1 9 v0 h6).bind fun x7 => (zaI 0 x7 v1 h6).bind fun x8 => (zgA 1 9 v0 h6).bind fun x9 => (zaI 0 x9 v2 h6).bind fun x10 => if x8 = x10 then jn_X1_isAhead_63 v0 v1 v2 h6 else (zgA 1 9 v0 h6).bind fun x11 => (zaI 0 x11 v1 h6).bind fun x12 => (zgA 1 9 v0 h6).bind fun x13 => (zaI 0 x13 v2 h6).bind fun x14 => if x12 < x14 then jn_X1_isAhead_62 1 h6 else jn_X1_isAhead_62 0 h6 else zbd (dn_X1_isDone v0 v1 h4) fun x15 h16 => if x15 = 0 ∨ x15 = 1 then some (x15, h16) else none
theorem ct_X1_isAhead (g : zG) (l : Launch) (v0 : Nat) (v1 : Int32) (v2 : Int32) : zCt g l yX1_isAhead cX1_isAhead 3 (some .boolean) 1 21 zrI [.ref v0, .int v1, .int v2] (dn_X1_isAhead v0 v1 v2) := by
  refine zCt_of (lv := [(0, .ref v0), (1, .int v1), (2, .int v2)]) (by decide +kernel) (Nat.le_of_ble_eq_true rfl) rfl ?_
  show zSm g l cX1_isAhead 3 RX1 "isAhead" (some .boolean) 1 21 zrI 0 [(0, .ref v0), (1, .int v1), (2, .int v2)] [] (dn_X1_isAhead v0 v1 v2)
  unfold dn_X1_isAhead
  refine z_rec ?_
  refine z_aload_n (j := 0) (q := 1) (by decide +kernel) rfl 0 rfl ?_
  refine z_iload_n (j := 1) (q := 2) (by decide +kernel) rfl 1 rfl ?_
  refine z_callVI (As := [.int v1]) (st := []) (q := 5) (ct_X1_isDone g l v0 v1) zm_RX1_74 (rc_X1_isDone v0 v1) rfl (by decide) (by decide) (Nat.le_of_ble_eq_true rfl) rfl (by decide +kernel) rfl fun x1 => ?_
  refine z_aload_n (j := 0) (q := 6) (by decide +kernel) rfl 0 rfl ?_
  refine z_iload_n (j := 2) (q := 7) (by decide +kernel) rfl 2 rfl ?_
  refine z_callVI (As := [.int v2]) (st := [.int x1]) (q := 10) (ct_X1_isDone g l v0 v2) zm_RX1_74 (rc_X1_isDone v0 v2) rfl (by decide) (by decide) (Nat.le_of_ble_eq_true rfl) rfl (by decide +kernel) rfl fun x3 => ?_
  refine z_icmp_eq (off := 9) (t := 19) (q := 13) (by decide +kernel) (by decide) rfl ?_ ?_
  · refine z_aload_n (j := 0) (q := 20) (by decide +kernel) rfl 0 rfl ?_
    refine z_iload_n (j := 1) (q := 21) (by decide +kernel) rfl 1 rfl ?_
    refine z_callVI (As := [.int v1]) (st := []) (q := 24) (ct_X1_isDone g l v0 v1) zm_RX1_74 (rc_X1_isDone v0 v1) rfl (by decide) (by decide) (Nat.le_of_ble_eq_true rfl) rfl (by decide +kernel) rfl fun x5 => ?_
    refine z_if_eq (off := 39) (t := 63) (q := 27) (by decide +kernel) (by decide) rfl ?_ ?_
    · refine zsub [0, 1, 2] rfl ?_
      exact sj_X1_isAhead_63 g l v0 v1 v2
    · refine z_aload_n (j := 0) (q := 28) (by decide +kernel) rfl 0 rfl ?_
      refine z_getA (q := 31) zf_RX1_41 (by decide +kernel) rfl fun x7 => ?_
      refine z_iload_n (j := 1) (q := 32) (by decide +kernel) rfl 1 rfl ?_
      refine z_iald (q := 33) (Or.inl ⟨rfl, rfl⟩) (by decide +kernel) rfl fun x8 => ?_
      refine z_aload_n (j := 0) (q := 34) (by decide +kernel) rfl 0 rfl ?_
      refine z_getA (q := 37) zf_RX1_41 (by decide +kernel) rfl fun x9 => ?_
      refine z_iload_n (j := 2) (q := 38) (by decide +kernel) rfl 2 rfl ?_
      refine z_iald (q := 39) (Or.inl ⟨rfl, rfl⟩) (by decide +kernel) rfl fun x10 => ?_
      refine z_icmp_eq (off := 24) (t := 63) (q := 42) (by decide +kernel) (by decide) rfl ?_ ?_
      · refine zsub [0, 1, 2] rfl ?_
        exact sj_X1_isAhead_63 g l v0 v1 v2
      · refine z_aload_n (j := 0) (q := 43) (by decide +kernel) rfl 0 rfl ?_
        refine z_getA (q := 46) zf_RX1_41 (by decide +kernel) rfl fun x11 => ?_
        refine z_iload_n (j := 1) (q := 47) (by decide +kernel) rfl 1 rfl ?_
        refine z_iald (q := 48) (Or.inl ⟨rfl, rfl⟩) (by decide +kernel) rfl fun x12 => ?_
        refine z_aload_n (j := 0) (q := 49) (by decide +kernel) rfl 0 rfl ?_
        refine z_getA (q := 52) zf_RX1_41 (by decide +kernel) rfl fun x13 => ?_
        refine z_iload_n (j := 2) (q := 53) (by decide +kernel) rfl 2 rfl ?_
        refine z_iald (q := 54) (Or.inl ⟨rfl, rfl⟩) (by decide +kernel) rfl fun x14 => ?_
        refine z_icmp_ge (off := 7) (t := 61) (q := 57) (by decide +kernel) (by decide) rfl ?_ ?_
        · refine z_iconst (n := 0) (v := 0) (q := 62) (by decide +kernel) rfl (by decide) ?_
          refine zsub [] rfl ?_
          exact sj_X1_isAhead_62 g l 0
        · refine z_iconst (n := 1) (v := 1) (q := 58) (by decide +kernel) rfl (by decide) ?_
          refine z_goto (off := 4) (t := 62) (by decide +kernel) (by decide) ?_
          refine zsub [] rfl ?_
          exact sj_X1_isAhead_62 g l 1
  · refine z_aload_n (j := 0) (q := 14) (by decide +kernel) rfl 0 rfl ?_
    refine z_iload_n (j := 1) (q := 15) (by decide +kernel) rfl 1 rfl ?_
    refine z_callVI (As := [.int v1]) (st := []) (q := 18) (ct_X1_isDone g l v0 v1) zm_RX1_74 (rc_X1_isDone v0 v1) rfl (by decide) (by decide) (Nat.le_of_ble_eq_true rfl) rfl (by decide +kernel) rfl fun x15 => ?_
    exact z_zret (by decide +kernel)
theorem rc_X1_isAhead (v0 : Nat) (v1 : Int32) (v2 : Int32) : ∀ h x, dn_X1_isAhead v0 v1 v2 h = some x → ∃ fs, zgO 1 v0 h = some fs := fun h x hd => by
  obtain ⟨fs, e, -⟩ := Option.bind_eq_some_iff.mp hd
  exact ⟨fs, e⟩
def jn_X1_rankOf_29 (kc4 : (Int32 × Int32) → zAH → Option (Int32 × zAH)) (v0 : Nat) (v1 : Int32) (v2 : Int32) (v3 : Int32) : zAH → Option (Int32 × zAH) := fun h => kc4 (v2, v3 + 1) h
theorem sj_X1_rankOf_29 (g : zG) (l : Launch) (kc4 : (Int32 × Int32) → zAH → Option (Int32 × zAH)) (v0 : Nat) (v1 : Int32) (v2 : Int32) (v3 : Int32) (hkc4 : ∀ s, zSm g l cX1_rankOf 4 RX1 "rankOf" (some .int) 2 43 zrI 4 [(0, .ref v0), (1, .int v1), (2, .int s.1), (3, .int s.2)] [] (kc4 s)) : zSm g l cX1_rankOf 4 RX1 "rankOf" (some .int) 2 43 zrI 29 [(0, .ref v0), (1, .int v1), (2, .int v2), (3, .int v3)] [] (jn_X1_rankOf_29 kc4 v0 v1 v2 v3) := by
  unfold jn_X1_rankOf_29
  refine z_iinc (j := 3) (n := 1) (v := 1) (q := 32) (by decide +kernel) rfl 3 rfl (by decide) (by decide) rfl ?_
  refine z_goto (off := (-28)) (t := 4) (by decide +kernel) (by decide) ?_
  refine zsub [1, 2, 3, 0] rfl ?_
  exact hkc4 (v2, v3 + 1)
def jn_X1_rankOf_35 (v2 : Int32) : zAH → Option (Int32 × zAH) := fun h => some (v2, h)
theorem sj_X1_rankOf_35 (g : zG) (l : Launch) (v2 : Int32) : zSm g l cX1_rankOf 4 RX1 "rankOf" (some .int) 2 43 zrI 35 [(2, .int v2)] [] (jn_X1_rankOf_35 v2) := by
  unfold jn_X1_rankOf_35
  refine z_iload_n (j := 2) (q := 36) (by decide +kernel) rfl 0 rfl ?_
  exact z_iret (by decide +kernel)
def lb_X1_rankOf_4 (v0 : Nat) (v1 : Int32) (rec : (Int32 × Int32) → zAH → Option (Int32 × zAH)) (s : Int32 × Int32) : zAH → Option (Int32 × zAH) := fun h => (zgI 1 0 v0 h).bind fun x1 => if s.2 < x1 then if s.2 = v1 then jn_X1_rankOf_29 rec v0 v1 s.1 s.2 h else zbd (dn_X1_isAhead v0 s.2 v1 h) fun x2 h3 => if x2 = 0 then jn_X1_rankOf_29 rec v0 v1 s.1 s.2 h3 else jn_X1_rankOf_29 rec v0 v1 (s.1 + 1) s.2 h3 else jn_X1_rankOf_35 s.1 h
def lp_X1_rankOf_4 (v0 : Nat) (v1 : Int32) (s : Int32 × Int32) : zAH → Option (Int32 × zAH) := zlp (lb_X1_rankOf_4 v0 v1) 2000 s
theorem sl_X1_rankOf_4 (g : zG) (l : Launch) (v0 : Nat) (v1 : Int32) (s : Int32 × Int32) : zSm g l cX1_rankOf 4 RX1 "rankOf" (some .int) 2 43 zrI 4 [(0, .ref v0), (1, .int v1), (2, .int s.1), (3, .int s.2)] [] (lp_X1_rankOf_4 v0 v1 s) := by
  unfold lp_X1_rankOf_4
  refine z_loop (lvf := fun s => [(0, .ref v0), (1, .int v1), (2, .int s.1), (3, .int s.2)]) (fun rec hrec s => ?_) 2000 s
  unfold lb_X1_rankOf_4
  refine z_iload_n (j := 3) (q := 5) (by decide +kernel) rfl 3 rfl ?_
  refine z_aload_n (j := 0) (q := 6) (by decide +kernel) rfl 0 rfl ?_
  refine z_getI (q := 9) zf_RX1_9 (by decide +kernel) rfl fun x1 => ?_
  refine z_icmp_ge (off := 26) (t := 35) (q := 12) (by decide +kernel) (by decide) rfl ?_ ?_
  · refine zsub [2] rfl ?_
    exact sj_X1_rankOf_35 g l s.1
  · refine z_iload_n (j := 3) (q := 13) (by decide +kernel) rfl 3 rfl ?_
    refine z_iload_n (j := 1) (q := 14) (by decide +kernel) rfl 1 rfl ?_
    refine z_icmp_eq (off := 15) (t := 29) (q := 17) (by decide +kernel) (by decide) rfl ?_ ?_
    · refine zsub [0, 1, 2, 3] rfl ?_
      exact sj_X1_rankOf_29 g l rec v0 v1 s.1 s.2 hrec
    · refine z_aload_n (j := 0) (q := 18) (by decide +kernel) rfl 0 rfl ?_
      refine z_iload_n (j := 3) (q := 19) (by decide +kernel) rfl 3 rfl ?_
      refine z_iload_n (j := 1) (q := 20) (by decide +kernel) rfl 1 rfl ?_
      refine z_callVI (As := [.int s.2, .int v1]) (st := []) (q := 23) (ct_X1_isAhead g l v0 s.2 v1) zm_RX1_111 (rc_X1_isAhead v0 s.2 v1) rfl (by decide) (by decide) (Nat.le_of_ble_eq_true rfl) rfl (by decide +kernel) rfl fun x2 => ?_
      refine z_if_eq (off := 6) (t := 29) (q := 26) (by decide +kernel) (by decide) rfl ?_ ?_
      · refine zsub [0, 1, 2, 3] rfl ?_
        exact sj_X1_rankOf_29 g l rec v0 v1 s.1 s.2 hrec
      · refine z_iinc (j := 2) (n := 1) (v := 1) (q := 29) (by decide +kernel) rfl 2 rfl (by decide) (by decide) rfl ?_
        refine zsub [1, 2, 0, 3] rfl ?_
        exact sj_X1_rankOf_29 g l rec v0 v1 (s.1 + 1) s.2 hrec
def dn_X1_rankOf (v0 : Nat) (v1 : Int32) : zAH → Option (Int32 × zAH) := fun h => (zgO 1 v0 h).bind fun _ => lp_X1_rankOf_4 v0 v1 (1, 0) h
theorem ct_X1_rankOf (g : zG) (l : Launch) (v0 : Nat) (v1 : Int32) : zCt g l yX1_rankOf cX1_rankOf 4 (some .int) 2 43 zrI [.ref v0, .int v1] (dn_X1_rankOf v0 v1) := by
  refine zCt_of (lv := [(0, .ref v0), (1, .int v1)]) (by decide +kernel) (Nat.le_of_ble_eq_true rfl) rfl ?_
  show zSm g l cX1_rankOf 4 RX1 "rankOf" (some .int) 2 43 zrI 0 [(0, .ref v0), (1, .int v1)] [] (dn_X1_rankOf v0 v1)
  unfold dn_X1_rankOf
  refine z_rec ?_
  refine z_iconst (n := 1) (v := 1) (q := 1) (by decide +kernel) rfl (by decide) ?_
  refine z_istore_n (j := 2) (q := 2) (by decide +kernel) rfl (by decide) rfl ?_
  refine z_iconst (n := 0) (v := 0) (q := 3) (by decide +kernel) rfl (by decide) ?_
  refine z_istore_n (j := 3) (q := 4) (by decide +kernel) rfl (by decide) rfl ?_
  refine zsub [2, 3, 1, 0] rfl ?_
  exact sl_X1_rankOf_4 g l v0 v1 (1, 0)
theorem rc_X1_rankOf (v0 : Nat) (v1 : Int32) : ∀ h x, dn_X1_rankOf v0 v1 h = some x → ∃ fs, zgO 1 v0 h = some fs := fun h x hd => by
  obtain ⟨fs, e, -⟩ := Option.bind_eq_some_iff.mp hd
  exact ⟨fs, e⟩
def jn_X1_apart_34 (kc7 : (Int32 × Int32 × Int32) → zAH → Option (Int32 × zAH)) (v0 : Nat) (v1 : Int32) (v2 : Int32) (v3 : Int32) (w0 : Int32) : zAH → Option (Int32 × zAH) := fun h => kc7 (zmn v1 w0, zmx v2 w0, v3 + 1) h
theorem sj_X1_apart_34 (g : zG) (l : Launch) (kc7 : (Int32 × Int32 × Int32) → zAH → Option (Int32 × zAH)) (v0 : Nat) (v1 : Int32) (v2 : Int32) (v3 : Int32) (w0 : Int32) (hkc7 : ∀ s, zSm g l cX1_apart 5 RX1 "apart" (some .int) 1 21 zrI 7 [(0, .ref v0), (1, .int s.1), (2, .int s.2.1), (3, .int s.2.2)] [] (kc7 s)) : zSm g l cX1_apart 5 RX1 "apart" (some .int) 1 21 zrI 34 [(0, .ref v0), (1, .int v1), (2, .int v2), (3, .int v3)] [.int w0] (jn_X1_apart_34 kc7 v0 v1 v2 v3 w0) := by
  unfold jn_X1_apart_34
  refine z_istore (j := 4) (q := 36) (by decide +kernel) rfl (by decide) rfl ?_
  refine z_iload_n (j := 1) (q := 37) (by decide +kernel) rfl 2 rfl ?_
  refine z_iload (j := 4) (q := 39) (by decide +kernel) rfl 0 rfl ?_
  refine z_mmin (st := []) (q := 42) zw413 zw414 zw81 zw415 (by decide) (by decide) (Nat.le_of_ble_eq_true rfl) (by decide +kernel) rfl ?_
  refine z_istore_n (j := 1) (q := 43) (by decide +kernel) rfl (by decide) rfl ?_
  refine z_iload_n (j := 2) (q := 44) (by decide +kernel) rfl 3 rfl ?_
  refine z_iload (j := 4) (q := 46) (by decide +kernel) rfl 1 rfl ?_
  refine z_mmax (st := []) (q := 49) zw653 zw654 zw81 zw655 (by decide) (by decide) (Nat.le_of_ble_eq_true rfl) (by decide +kernel) rfl ?_
  refine z_istore_n (j := 2) (q := 50) (by decide +kernel) rfl (by decide) rfl ?_
  refine z_iinc (j := 3) (n := 1) (v := 1) (q := 53) (by decide +kernel) rfl 4 rfl (by decide) (by decide) rfl ?_
  refine z_goto (off := (-46)) (t := 7) (by decide +kernel) (by decide) ?_
  refine zsub [4, 2, 1, 0] rfl ?_
  exact hkc7 (zmn v1 w0, zmx v2 w0, v3 + 1)
def jn_X1_apart_56 (v1 : Int32) (v2 : Int32) : zAH → Option (Int32 × zAH) := fun h => some (v2 - v1, h)
theorem sj_X1_apart_56 (g : zG) (l : Launch) (v1 : Int32) (v2 : Int32) : zSm g l cX1_apart 5 RX1 "apart" (some .int) 1 21 zrI 56 [(1, .int v1), (2, .int v2)] [] (jn_X1_apart_56 v1 v2) := by
  unfold jn_X1_apart_56
  refine z_iload_n (j := 2) (q := 57) (by decide +kernel) rfl 1 rfl ?_
  refine z_iload_n (j := 1) (q := 58) (by decide +kernel) rfl 0 rfl ?_
  refine z_isub (q := 59) (by decide +kernel) rfl ?_
  exact z_iret (by decide +kernel)
def lb_X1_apart_7 (v0 : Nat) (rec : (Int32 × Int32 × Int32) → zAH → Option (Int32 × zAH)) (s : Int32 × Int32 × Int32) : zAH → Option (Int32 × zAH) := fun h => (zgI 1 0 v0 h).bind fun x1 => if s.2.2 < x1 then zbd (dn_X1_isDone v0 s.2.2 h) fun x2 h3 => if x2 = 0 then jn_X1_apart_34 rec v0 s.1 s.2.1 s.2.2 60 h3 else (zgA 1 9 v0 h3).bind fun x4 => (zaI 0 x4 s.2.2 h3).bind fun x5 => jn_X1_apart_34 rec v0 s.1 s.2.1 s.2.2 x5 h3 else jn_X1_apart_56 s.1 s.2.1 h
def lp_X1_apart_7 (v0 : Nat) (s : Int32 × Int32 × Int32) : zAH → Option (Int32 × zAH) := zlp (lb_X1_apart_7 v0) 2000 s
theorem sl_X1_apart_7 (g : zG) (l : Launch) (v0 : Nat) (s : Int32 × Int32 × Int32) : zSm g l cX1_apart 5 RX1 "apart" (some .int) 1 21 zrI 7 [(0, .ref v0), (1, .int s.1), (2, .int s.2.1), (3, .int s.2.2)] [] (lp_X1_apart_7 v0 s) := by
  unfold lp_X1_apart_7
  refine z_loop (lvf := fun s => [(0, .ref v0), (1, .int s.1), (2, .int s.2.1), (3, .int s.2.2)]) (fun rec hrec s => ?_) 2000 s
  unfold lb_X1_apart_7
  refine z_iload_n (j := 3) (q := 8) (by decide +kernel) rfl 3 rfl ?_
  refine z_aload_n (j := 0) (q := 9) (by decide +kernel) rfl 0 rfl ?_
  refine z_getI (q := 12) zf_RX1_9 (by decide +kernel) rfl fun x1 => ?_
  refine z_icmp_ge (off := 44) (t := 56) (q := 15) (by decide +kernel) (by decide) rfl ?_ ?_
  · refine zsub [1, 2] rfl ?_
    exact sj_X1_apart_56 g l s.1 s.2.1
  · refine z_aload_n (j := 0) (q := 16) (by decide +kernel) rfl 0 rfl ?_
    refine z_iload_n (j := 3) (q := 17) (by decide +kernel) rfl 3 rfl ?_
    refine z_callVI (As := [.int s.2.2]) (st := []) (q := 20) (ct_X1_isDone g l v0 s.2.2) zm_RX1_74 (rc_X1_isDone v0 s.2.2) rfl (by decide) (by decide) (Nat.le_of_ble_eq_true rfl) rfl (by decide +kernel) rfl fun x2 => ?_
    refine z_if_eq (off := 12) (t := 32) (q := 23) (by decide +kernel) (by decide) rfl ?_ ?_
    · refine z_bipush (n := 60) (v := 60) (q := 34) (by decide +kernel) rfl (by decide) ?_
      refine zsub [0, 1, 2, 3] rfl ?_
      exact sj_X1_apart_34 g l rec v0 s.1 s.2.1 s.2.2 60 hrec
    · refine z_aload_n (j := 0) (q := 24) (by decide +kernel) rfl 0 rfl ?_
      refine z_getA (q := 27) zf_RX1_41 (by decide +kernel) rfl fun x4 => ?_
      refine z_iload_n (j := 3) (q := 28) (by decide +kernel) rfl 3 rfl ?_
      refine z_iald (q := 29) (Or.inl ⟨rfl, rfl⟩) (by decide +kernel) rfl fun x5 => ?_
      refine z_goto (off := 5) (t := 34) (by decide +kernel) (by decide) ?_
      refine zsub [0, 1, 2, 3] rfl ?_
      exact sj_X1_apart_34 g l rec v0 s.1 s.2.1 s.2.2 x5 hrec
def dn_X1_apart (v0 : Nat) : zAH → Option (Int32 × zAH) := fun h => (zgO 1 v0 h).bind fun _ => lp_X1_apart_7 v0 (60, 0, 0) h
theorem ct_X1_apart (g : zG) (l : Launch) (v0 : Nat) : zCt g l yX1_apart cX1_apart 5 (some .int) 1 21 zrI [.ref v0] (dn_X1_apart v0) := by
  refine zCt_of (lv := [(0, .ref v0)]) (by decide +kernel) (Nat.le_of_ble_eq_true rfl) rfl ?_
  show zSm g l cX1_apart 5 RX1 "apart" (some .int) 1 21 zrI 0 [(0, .ref v0)] [] (dn_X1_apart v0)
  unfold dn_X1_apart
  refine z_rec ?_
  refine z_bipush (n := 60) (v := 60) (q := 2) (by decide +kernel) rfl (by decide) ?_
  refine z_istore_n (j := 1) (q := 3) (by decide +kernel) rfl (by decide) rfl ?_
  refine z_iconst (n := 0) (v := 0) (q := 4) (by decide +kernel) rfl (by decide) ?_
  refine z_istore_n (j := 2) (q := 5) (by decide +kernel) rfl (by decide) rfl ?_
  refine z_iconst (n := 0) (v := 0) (q := 6) (by decide +kernel) rfl (by decide) ?_
  refine z_istore_n (j := 3) (q := 7) (by decide +kernel) rfl (by decide) rfl ?_
  refine zsub [3, 2, 1, 0] rfl ?_
  exact sl_X1_apart_7 g l v0 (60, 0, 0)
theorem rc_X1_apart (v0 : Nat) : ∀ h x, dn_X1_apart v0 h = some x → ∃ fs, zgO 1 v0 h = some fs := fun h x hd => by
  obtain ⟨fs, e, -⟩ := Option.bind_eq_some_iff.mp hd
  exact ⟨fs, e⟩
def dn_X1_detail (v0 : Nat) (v1 : Int32) (v2 : Int32) : zAH → Option (Int32 × zAH) := fun h => (zgO 1 v0 h).bind fun _ => if v2 = 0 then (zgA 1 6 v0 h).bind fun x1 => (zaI 0 x1 v1 h).bind fun x2 => some (x2, h) else if v2 = 1 then (zgA 1 7 v0 h).bind fun x4 => (zaI 0 x4 v1 h).bind fun x5 => some (x5, h) else if v2 = 2 then (zgA 1 9 v0 h).bind fun x7 => (zaI 0 x7 v1 h).bind fun x8 => some (x8, h) else if v2 = 3 then zbd (dn_X1_rankOf v0 v1 h) fun x10 h11 => some (x10, h11) else (zgA 1 10 v0 h).bind fun x13 => (zaI 0 x13 v1 h).bind fun x14 => some (x14, h)
theorem ct_X1_detail (g : zG) (l : Launch) (v0 : Nat) (v1 : Int32) (v2 : Int32) : zCt g l yX1_detail cX1_detail 3 (some .int) 3 66 zrI [.ref v0, .int v1, .int v2] (dn_X1_detail v0 v1 v2) := by
  refine zCt_of (lv := [(0, .ref v0), (1, .int v1), (2, .int v2)]) (by decide +kernel) (Nat.le_of_ble_eq_true rfl) rfl ?_
  show zSm g l cX1_detail 3 RX1 "detail" (some .int) 3 66 zrI 0 [(0, .ref v0), (1, .int v1), (2, .int v2)] [] (dn_X1_detail v0 v1 v2)
  unfold dn_X1_detail
  refine z_rec ?_
  refine z_iload_n (j := 2) (q := 1) (by decide +kernel) rfl 2 rfl ?_
  refine z_case (fun c3 => ?_) (fun c3 => ?_)
  · refine z_tabIn (v := 0) (off := 31) (t := 32) c3 (by decide +kernel : decode cX1_detail 1 = .ok (.tableswitch 58 0 3 #[31, 38, 45, 52], 31)) (by decide) (by decide) (by decide) (by decide) ?_
    refine z_aload_n (j := 0) (q := 33) (by decide +kernel) rfl 0 rfl ?_
    refine z_getA (q := 36) zf_RX1_31 (by decide +kernel) rfl fun x1 => ?_
    refine z_iload_n (j := 1) (q := 37) (by decide +kernel) rfl 1 rfl ?_
    refine z_iald (q := 38) (Or.inl ⟨rfl, rfl⟩) (by decide +kernel) rfl fun x2 => ?_
    exact z_iret (by decide +kernel)
  · skip
    refine z_case (fun c6 => ?_) (fun c6 => ?_)
    · refine z_tabIn (v := 1) (off := 38) (t := 39) c6 (by decide +kernel : decode cX1_detail 1 = .ok (.tableswitch 58 0 3 #[31, 38, 45, 52], 31)) (by decide) (by decide) (by decide) (by decide) ?_
      refine z_aload_n (j := 0) (q := 40) (by decide +kernel) rfl 0 rfl ?_
      refine z_getA (q := 43) zf_RX1_35 (by decide +kernel) rfl fun x4 => ?_
      refine z_iload_n (j := 1) (q := 44) (by decide +kernel) rfl 1 rfl ?_
      refine z_iald (q := 45) (Or.inl ⟨rfl, rfl⟩) (by decide +kernel) rfl fun x5 => ?_
      exact z_iret (by decide +kernel)
    · skip
      refine z_case (fun c9 => ?_) (fun c9 => ?_)
      · refine z_tabIn (v := 2) (off := 45) (t := 46) c9 (by decide +kernel : decode cX1_detail 1 = .ok (.tableswitch 58 0 3 #[31, 38, 45, 52], 31)) (by decide) (by decide) (by decide) (by decide) ?_
        refine z_aload_n (j := 0) (q := 47) (by decide +kernel) rfl 0 rfl ?_
        refine z_getA (q := 50) zf_RX1_41 (by decide +kernel) rfl fun x7 => ?_
        refine z_iload_n (j := 1) (q := 51) (by decide +kernel) rfl 1 rfl ?_
        refine z_iald (q := 52) (Or.inl ⟨rfl, rfl⟩) (by decide +kernel) rfl fun x8 => ?_
        exact z_iret (by decide +kernel)
      · skip
        refine z_case (fun c12 => ?_) (fun c12 => ?_)
        · refine z_tabIn (v := 3) (off := 52) (t := 53) c12 (by decide +kernel : decode cX1_detail 1 = .ok (.tableswitch 58 0 3 #[31, 38, 45, 52], 31)) (by decide) (by decide) (by decide) (by decide) ?_
          refine z_aload_n (j := 0) (q := 54) (by decide +kernel) rfl 0 rfl ?_
          refine z_iload_n (j := 1) (q := 55) (by decide +kernel) rfl 1 rfl ?_
          refine z_callVI (As := [.int v1]) (st := []) (q := 58) (ct_X1_rankOf g l v0 v1) zm_RX1_117 (rc_X1_rankOf v0 v1) rfl (by decide) (by decide) (Nat.le_of_ble_eq_true rfl) rfl (by decide +kernel) rfl fun x10 => ?_
          exact z_iret (by decide +kernel)
        · skip
          have nc3 := lv_neT (a := 0) c3 (by decide)
          have nc6 := lv_neT (a := 1) c6 (by decide)
          have nc9 := lv_neT (a := 2) c9 (by decide)
          have nc12 := lv_neT (a := 3) c12 (by decide)
          refine z_tabOut (t := 59) (by decide +kernel : decode cX1_detail 1 = .ok (.tableswitch 58 0 3 #[31, 38, 45, 52], 31)) (Or.inl (by omega)) (by decide) ?_
          refine z_aload_n (j := 0) (q := 60) (by decide +kernel) rfl 0 rfl ?_
          refine z_getA (q := 63) zf_RX1_44 (by decide +kernel) rfl fun x13 => ?_
          refine z_iload_n (j := 1) (q := 64) (by decide +kernel) rfl 1 rfl ?_
          refine z_iald (q := 65) (Or.inl ⟨rfl, rfl⟩) (by decide +kernel) rfl fun x14 => ?_
          exact z_iret (by decide +kernel)
theorem rc_X1_detail (v0 : Nat) (v1 : Int32) (v2 : Int32) : ∀ h x, dn_X1_detail v0 v1 v2 h = some x → ∃ fs, zgO 1 v0 h = some fs := fun h x hd => by
  obtain ⟨fs, e, -⟩ := Option.bind_eq_some_iff.mp hd
  exact ⟨fs, e⟩
def dn_X2_init (v0 : Nat) (v1 : Nat) (v2 : Nat) : zAH → Option (Unit × zAH) := fun h => (zgO 2 v0 h).bind fun _ => (zpF 2 2 v0 (.int 0) h).bind fun h1 => (zpF 2 0 v0 (.ref v1) h1).bind fun h2 => (zpF 2 1 v0 (.ref v2) h2).bind fun h3 => some ((), h3)
theorem ct_X2_init (g : zG) (l : Launch) (v0 : Nat) (v1 : Nat) (v2 : Nat) : zCt g l yX2_init cX2_init 3 none 1 12 zrV [.ref v0, .ref v1, .ref v2] (dn_X2_init v0 v1 v2) := by
  refine zCt_of (lv := [(0, .ref v0), (1, .ref v1), (2, .ref v2)]) (by decide +kernel) (Nat.le_of_ble_eq_true rfl) rfl ?_
  show zSm g l cX2_init 3 RX2 "<init>" none 1 12 zrV 0 [(0, .ref v0), (1, .ref v1), (2, .ref v2)] [] (dn_X2_init v0 v1 v2)
  unfold dn_X2_init
  refine z_rec ?_
  refine z_aload_n (j := 0) (q := 1) (by decide +kernel) rfl 0 rfl ?_
  refine z_obj (q := 4) zw355 zw89 zw90 (by decide) (by decide) (by decide +kernel) rfl ?_
  refine z_aload_n (j := 0) (q := 5) (by decide +kernel) rfl 0 rfl ?_
  refine z_iconst (n := 0) (v := 0) (q := 6) (by decide +kernel) rfl (by decide) ?_
  refine z_putV (q := 9) zp_RX2_9 (fun z => by cases z) rfl rfl (by decide +kernel) rfl ?_
  refine z_aload_n (j := 0) (q := 10) (by decide +kernel) rfl 0 rfl ?_
  refine z_aload_n (j := 1) (q := 11) (by decide +kernel) rfl 1 rfl ?_
  refine z_putV (q := 14) zp_RX2_15 (fun _ => rfl) rfl rfl (by decide +kernel) rfl ?_
  refine z_aload_n (j := 0) (q := 15) (by decide +kernel) rfl 0 rfl ?_
  refine z_aload_n (j := 2) (q := 16) (by decide +kernel) rfl 2 rfl ?_
  refine z_putV (q := 19) zp_RX2_19 (fun _ => rfl) rfl rfl (by decide +kernel) rfl ?_
  exact z_vret (by decide +kernel)
theorem rc_X2_init (v0 : Nat) (v1 : Nat) (v2 : Nat) : ∀ h x, dn_X2_init v0 v1 v2 h = some x → ∃ fs, zgO 2 v0 h = some fs := fun h x hd => by
  obtain ⟨fs, e, -⟩ := Option.bind_eq_some_iff.mp hd
  exact ⟨fs, e⟩
def jn_X3_has_17 (w0 : Int32) : zAH → Option (Int32 × zAH) := fun h => if w0 = 0 ∨ w0 = 1 then some (w0, h) else none
theorem sj_X3_has_17 (g : zG) (l : Launch) (w0 : Int32) : zSm g l cX3_has 2 RX3 "has" (some .boolean) 0 0 zrI 17 [] [.int w0] (jn_X3_has_17 w0) := by
  unfold jn_X3_has_17
  exact z_zret (by decide +kernel)
def jn_X3_has_16 : zAH → Option (Int32 × zAH) := fun h => jn_X3_has_17 0 h
theorem sj_X3_has_16 (g : zG) (l : Launch) : zSm g l cX3_has 2 RX3 "has" (some .boolean) 0 0 zrI 16 [] [] (jn_X3_has_16) := by
  unfold jn_X3_has_16
  refine z_iconst (n := 0) (v := 0) (q := 17) (by decide +kernel) rfl (by decide) ?_
  refine zsub [] rfl ?_
  exact sj_X3_has_17 g l 0
def dn_X3_has (v0 : Nat) (v1 : Int32) : zAH → Option (Int32 × zAH) := fun h => (zgO 3 v0 h).bind fun _ => if v1 < 0 then jn_X3_has_16 h else (zgI 3 1 v0 h).bind fun x1 => if v1 < x1 then jn_X3_has_17 1 h else jn_X3_has_16 h
theorem ct_X3_has (g : zG) (l : Launch) (v0 : Nat) (v1 : Int32) : zCt g l yX3_has cX3_has 2 (some .boolean) 0 0 zrI [.ref v0, .int v1] (dn_X3_has v0 v1) := by
  refine zCt_of (lv := [(0, .ref v0), (1, .int v1)]) (by decide +kernel) (Nat.le_of_ble_eq_true rfl) rfl ?_
  show zSm g l cX3_has 2 RX3 "has" (some .boolean) 0 0 zrI 0 [(0, .ref v0), (1, .int v1)] [] (dn_X3_has v0 v1)
  unfold dn_X3_has
  refine z_rec ?_
  refine z_iload_n (j := 1) (q := 1) (by decide +kernel) rfl 1 rfl ?_
  refine z_if_lt (off := 15) (t := 16) (q := 4) (by decide +kernel) (by decide) rfl ?_ ?_
  · refine zsub [] rfl ?_
    exact sj_X3_has_16 g l 
  · refine z_iload_n (j := 1) (q := 5) (by decide +kernel) rfl 1 rfl ?_
    refine z_aload_n (j := 0) (q := 6) (by decide +kernel) rfl 0 rfl ?_
    refine z_getI (q := 9) zf_RX3_9 (by decide +kernel) rfl fun x1 => ?_
    refine z_icmp_ge (off := 7) (t := 16) (q := 12) (by decide +kernel) (by decide) rfl ?_ ?_
    · refine zsub [] rfl ?_
      exact sj_X3_has_16 g l 
    · refine z_iconst (n := 1) (v := 1) (q := 13) (by decide +kernel) rfl (by decide) ?_
      refine z_goto (off := 4) (t := 17) (by decide +kernel) (by decide) ?_
      refine zsub [] rfl ?_
      exact sj_X3_has_17 g l 1
theorem rc_X3_has (v0 : Nat) (v1 : Int32) : ∀ h x, dn_X3_has v0 v1 h = some x → ∃ fs, zgO 3 v0 h = some fs := fun h x hd => by
  obtain ⟨fs, e, -⟩ := Option.bind_eq_some_iff.mp hd
  exact ⟨fs, e⟩
def jn_X2_sign_32 (w0 : Int32) : zAH → Option (Int32 × zAH) := fun h => some (w0, h)
theorem sj_X2_sign_32 (g : zG) (l : Launch) (w0 : Int32) : zSm g l cX2_sign 1 RX2 "sign" (some .int) 1 21 zrI 32 [] [.int w0] (jn_X2_sign_32 w0) := by
  unfold jn_X2_sign_32
  exact z_iret (by decide +kernel)
def dn_X2_sign (v0 : Nat) : zAH → Option (Int32 × zAH) := fun h => (zgO 2 v0 h).bind fun _ => (zgA 2 0 v0 h).bind fun x1 => (zgI 2 2 v0 h).bind fun x2 => zbd (dn_X3_has x1 x2 h) fun x3 h4 => if x3 = 0 then jn_X2_sign_32 ((-1000)) h4 else (zgA 2 0 v0 h4).bind fun x5 => (zgA 3 0 x5 h4).bind fun x6 => (zgI 2 2 v0 h4).bind fun x7 => (zaI 0 x6 x7 h4).bind fun x8 => jn_X2_sign_32 x8 h4
theorem ct_X2_sign (g : zG) (l : Launch) (v0 : Nat) : zCt g l yX2_sign cX2_sign 1 (some .int) 1 21 zrI [.ref v0] (dn_X2_sign v0) := by
  refine zCt_of (lv := [(0, .ref v0)]) (by decide +kernel) (Nat.le_of_ble_eq_true rfl) rfl ?_
  show zSm g l cX2_sign 1 RX2 "sign" (some .int) 1 21 zrI 0 [(0, .ref v0)] [] (dn_X2_sign v0)
  unfold dn_X2_sign
  refine z_rec ?_
  refine z_aload_n (j := 0) (q := 1) (by decide +kernel) rfl 0 rfl ?_
  refine z_getA (q := 4) zf_RX2_15 (by decide +kernel) rfl fun x1 => ?_
  refine z_aload_n (j := 0) (q := 5) (by decide +kernel) rfl 0 rfl ?_
  refine z_getI (q := 8) zf_RX2_9 (by decide +kernel) rfl fun x2 => ?_
  refine z_callVI (As := [.int x2]) (st := []) (q := 11) (ct_X3_has g l x1 x2) zm_RX2_47 (rc_X3_has x1 x2) rfl (by decide) (by decide) (Nat.le_of_ble_eq_true rfl) rfl (by decide +kernel) rfl fun x3 => ?_
  refine z_if_eq (off := 18) (t := 29) (q := 14) (by decide +kernel) (by decide) rfl ?_ ?_
  · refine z_sipush (n := (-1000)) (v := (-1000)) (q := 32) (by decide +kernel) rfl (by decide) ?_
    refine zsub [] rfl ?_
    exact sj_X2_sign_32 g l ((-1000))
  · refine z_aload_n (j := 0) (q := 15) (by decide +kernel) rfl 0 rfl ?_
    refine z_getA (q := 18) zf_RX2_15 (by decide +kernel) rfl fun x5 => ?_
    refine z_getA (q := 21) zf_RX2_51 (by decide +kernel) rfl fun x6 => ?_
    refine z_aload_n (j := 0) (q := 22) (by decide +kernel) rfl 0 rfl ?_
    refine z_getI (q := 25) zf_RX2_9 (by decide +kernel) rfl fun x7 => ?_
    refine z_iald (q := 26) (Or.inl ⟨rfl, rfl⟩) (by decide +kernel) rfl fun x8 => ?_
    refine z_goto (off := 6) (t := 32) (by decide +kernel) (by decide) ?_
    refine zsub [] rfl ?_
    exact sj_X2_sign_32 g l x8
theorem rc_X2_sign (v0 : Nat) : ∀ h x, dn_X2_sign v0 h = some x → ∃ fs, zgO 2 v0 h = some fs := fun h x hd => by
  obtain ⟨fs, e, -⟩ := Option.bind_eq_some_iff.mp hd
  exact ⟨fs, e⟩
def jn_X2_skipBlanks_36 : zAH → Option (Unit × zAH) := fun h => some ((), h)
theorem sj_X2_skipBlanks_36 (g : zG) (l : Launch) : zSm g l cX2_skipBlanks 1 RX2 "skipBlanks" none 2 41 zrV 36 [] [] (jn_X2_skipBlanks_36) := by
  unfold jn_X2_skipBlanks_36
  exact z_vret (by decide +kernel)
def lb_X2_skipBlanks_0 (v0 : Nat) (rec : (Unit) → zAH → Option (Unit × zAH)) (s : Unit) : zAH → Option (Unit × zAH) := fun h => (zgI 2 2 v0 h).bind fun x1 => (zgA 2 0 v0 h).bind fun x2 => (zgI 3 1 x2 h).bind fun x3 => if x1 < x3 then zbd (dn_X2_sign v0 h) fun x4 h5 => if x4 = 32 then (zgI 2 2 v0 h5).bind fun x6 => (zpF 2 2 v0 (.int (x6 + 1)) h5).bind fun h7 => rec () h7 else jn_X2_skipBlanks_36 h5 else jn_X2_skipBlanks_36 h
def lp_X2_skipBlanks_0 (v0 : Nat) (s : Unit) : zAH → Option (Unit × zAH) := zlp (lb_X2_skipBlanks_0 v0) 2000 s
theorem sl_X2_skipBlanks_0 (g : zG) (l : Launch) (v0 : Nat) (s : Unit) : zSm g l cX2_skipBlanks 1 RX2 "skipBlanks" none 2 41 zrV 0 [(0, .ref v0)] [] (lp_X2_skipBlanks_0 v0 s) := by
  unfold lp_X2_skipBlanks_0
  refine z_loop (lvf := fun s => [(0, .ref v0)]) (fun rec hrec s => ?_) 2000 s
  unfold lb_X2_skipBlanks_0
  refine z_aload_n (j := 0) (q := 1) (by decide +kernel) rfl 0 rfl ?_
  refine z_getI (q := 4) zf_RX2_9 (by decide +kernel) rfl fun x1 => ?_
  refine z_aload_n (j := 0) (q := 5) (by decide +kernel) rfl 0 rfl ?_
  refine z_getA (q := 8) zf_RX2_15 (by decide +kernel) rfl fun x2 => ?_
  refine z_getI (q := 11) zf_RX2_39 (by decide +kernel) rfl fun x3 => ?_
  refine z_icmp_ge (off := 25) (t := 36) (q := 14) (by decide +kernel) (by decide) rfl ?_ ?_
  · refine zsub [] rfl ?_
    exact sj_X2_skipBlanks_36 g l 
  · refine z_aload_n (j := 0) (q := 15) (by decide +kernel) rfl 0 rfl ?_
    refine z_callVI (As := []) (st := []) (q := 18) (ct_X2_sign g l v0) zm_RX2_31 (rc_X2_sign v0) rfl (by decide) (by decide) (Nat.le_of_ble_eq_true rfl) rfl (by decide +kernel) rfl fun x4 => ?_
    refine z_bipush (n := 32) (v := 32) (q := 20) (by decide +kernel) rfl (by decide) ?_
    refine z_icmp_ne (off := 16) (t := 36) (q := 23) (by decide +kernel) (by decide) rfl ?_ ?_
    · refine zsub [] rfl ?_
      exact sj_X2_skipBlanks_36 g l 
    · refine z_aload_n (j := 0) (q := 24) (by decide +kernel) rfl 0 rfl ?_
      refine z_dup (q := 25) (by decide +kernel) rfl rfl ?_
      refine z_getI (q := 28) zf_RX2_9 (by decide +kernel) rfl fun x6 => ?_
      refine z_iconst (n := 1) (v := 1) (q := 29) (by decide +kernel) rfl (by decide) ?_
      refine z_iadd (q := 30) (by decide +kernel) rfl ?_
      refine z_putV (q := 33) zp_RX2_9 (fun z => by cases z) rfl rfl (by decide +kernel) rfl ?_
      refine z_goto (off := (-33)) (t := 0) (by decide +kernel) (by decide) ?_
      refine zsub [0] rfl ?_
      exact hrec ()
def dn_X2_skipBlanks (v0 : Nat) : zAH → Option (Unit × zAH) := fun h => (zgO 2 v0 h).bind fun _ => lp_X2_skipBlanks_0 v0 () h
theorem ct_X2_skipBlanks (g : zG) (l : Launch) (v0 : Nat) : zCt g l yX2_skipBlanks cX2_skipBlanks 1 none 2 41 zrV [.ref v0] (dn_X2_skipBlanks v0) := by
  refine zCt_of (lv := [(0, .ref v0)]) (by decide +kernel) (Nat.le_of_ble_eq_true rfl) rfl ?_
  show zSm g l cX2_skipBlanks 1 RX2 "skipBlanks" none 2 41 zrV 0 [(0, .ref v0)] [] (dn_X2_skipBlanks v0)
  unfold dn_X2_skipBlanks
  refine z_rec ?_
  refine zsub [0] rfl ?_
  exact sl_X2_skipBlanks_0 g l v0 ()
theorem rc_X2_skipBlanks (v0 : Nat) : ∀ h x, dn_X2_skipBlanks v0 h = some x → ∃ fs, zgO 2 v0 h = some fs := fun h x hd => by
  obtain ⟨fs, e, -⟩ := Option.bind_eq_some_iff.mp hd
  exact ⟨fs, e⟩
def dn_X2_slopeOf (v0 : Int32) : zAH → Option (Int32 × zAH) := fun h => if v0 = 47 then some (1, h) else if v0 = 61 then some (0, h) else if v0 = 92 then some ((-1), h) else if v0 = 94 then some (2, h) else some ((-1000), h)
theorem ct_X2_slopeOf (g : zG) (l : Launch) (v0 : Int32) : zCt g l yX2_slopeOf cX2_slopeOf 1 (some .int) 0 0 zrI [.int v0] (dn_X2_slopeOf v0) := by
  refine zCt_of (lv := [(0, .int v0)]) (by decide +kernel) (Nat.le_of_ble_eq_true rfl) rfl ?_
  show zSm g l cX2_slopeOf 1 RX2 "slopeOf" (some .int) 0 0 zrI 0 [(0, .int v0)] [] (dn_X2_slopeOf v0)
  unfold dn_X2_slopeOf
  refine z_iload_n (j := 0) (q := 1) (by decide +kernel) rfl 0 rfl ?_
  refine z_case (fun c1 => ?_) (fun c1 => ?_)
  · refine z_look (off := 45) (t := 46) (by decide +kernel : decode cX2_slopeOf 1 = .ok (.lookupswitch 51 #[(47, 45), (61, 43), (92, 49), (94, 47)], 43)) (by decide) (by rw [c1]; decide) (by decide) ?_
    refine z_iconst (n := 1) (v := 1) (q := 47) (by decide +kernel) rfl (by decide) ?_
    exact z_iret (by decide +kernel)
  · skip
    refine z_case (fun c2 => ?_) (fun c2 => ?_)
    · refine z_look (off := 43) (t := 44) (by decide +kernel : decode cX2_slopeOf 1 = .ok (.lookupswitch 51 #[(47, 45), (61, 43), (92, 49), (94, 47)], 43)) (by decide) (by rw [c2]; decide) (by decide) ?_
      refine z_iconst (n := 0) (v := 0) (q := 45) (by decide +kernel) rfl (by decide) ?_
      exact z_iret (by decide +kernel)
    · skip
      refine z_case (fun c3 => ?_) (fun c3 => ?_)
      · refine z_look (off := 49) (t := 50) (by decide +kernel : decode cX2_slopeOf 1 = .ok (.lookupswitch 51 #[(47, 45), (61, 43), (92, 49), (94, 47)], 43)) (by decide) (by rw [c3]; decide) (by decide) ?_
        refine z_iconst (n := (-1)) (v := (-1)) (q := 51) (by decide +kernel) rfl (by decide) ?_
        exact z_iret (by decide +kernel)
      · skip
        refine z_case (fun c4 => ?_) (fun c4 => ?_)
        · refine z_look (off := 47) (t := 48) (by decide +kernel : decode cX2_slopeOf 1 = .ok (.lookupswitch 51 #[(47, 45), (61, 43), (92, 49), (94, 47)], 43)) (by decide) (by rw [c4]; decide) (by decide) ?_
          refine z_iconst (n := 2) (v := 2) (q := 49) (by decide +kernel) rfl (by decide) ?_
          exact z_iret (by decide +kernel)
        · skip
          refine z_look (off := 51) (t := 52) (by decide +kernel : decode cX2_slopeOf 1 = .ok (.lookupswitch 51 #[(47, 45), (61, 43), (92, 49), (94, 47)], 43)) (by decide) (by
              show Op.lookupswitch.offset [(47, 45), (61, 43), (92, 49), (94, 47)] 51 (v0).toInt = 51
              rw [lv_osw c1 (by decide), lv_osw c2 (by decide), lv_osw c3 (by decide), lv_osw c4 (by decide)]
              rfl) (by decide) ?_
          refine z_sipush (n := (-1000)) (v := (-1000)) (q := 55) (by decide +kernel) rfl (by decide) ?_
          exact z_iret (by decide +kernel)
def jn_X2_readYards_99 (w0 : Int32) : zAH → Option (Int32 × zAH) := fun h => if w0 = 0 ∨ w0 = 1 then some (w0, h) else none
theorem sj_X2_readYards_99 (g : zG) (l : Launch) (w0 : Int32) : zSm g l cX2_readYards 2 RX2 "readYards" (some .boolean) 2 41 zrI 99 [] [.int w0] (jn_X2_readYards_99 w0) := by
  unfold jn_X2_readYards_99
  exact z_zret (by decide +kernel)
def jn_X2_readYards_98 : zAH → Option (Int32 × zAH) := fun h => jn_X2_readYards_99 0 h
theorem sj_X2_readYards_98 (g : zG) (l : Launch) : zSm g l cX2_readYards 2 RX2 "readYards" (some .boolean) 2 41 zrI 98 [] [] (jn_X2_readYards_98) := by
  unfold jn_X2_readYards_98
  refine z_iconst (n := 0) (v := 0) (q := 99) (by decide +kernel) rfl (by decide) ?_
  refine zsub [] rfl ?_
  exact sj_X2_readYards_99 g l 0
def jn_X2_readYards_77 (v0 : Nat) (v1 : Int32) : zAH → Option (Int32 × zAH) := fun h => if v1 = ((-1000)) then (zgA 2 1 v0 h).bind fun x1 => (zgI 0 0 x1 h).bind fun x2 => if 0 < x2 then jn_X2_readYards_99 1 h else jn_X2_readYards_98 h else jn_X2_readYards_98 h
theorem sj_X2_readYards_77 (g : zG) (l : Launch) (v0 : Nat) (v1 : Int32) : zSm g l cX2_readYards 2 RX2 "readYards" (some .boolean) 2 41 zrI 77 [(0, .ref v0), (1, .int v1)] [] (jn_X2_readYards_77 v0 v1) := by
  unfold jn_X2_readYards_77
  refine z_iload_n (j := 1) (q := 78) (by decide +kernel) rfl 1 rfl ?_
  refine z_sipush (n := (-1000)) (v := (-1000)) (q := 81) (by decide +kernel) rfl (by decide) ?_
  refine z_icmp_ne (off := 17) (t := 98) (q := 84) (by decide +kernel) (by decide) rfl ?_ ?_
  · refine zsub [] rfl ?_
    exact sj_X2_readYards_98 g l 
  · refine z_aload_n (j := 0) (q := 85) (by decide +kernel) rfl 0 rfl ?_
    refine z_getA (q := 88) zf_RX2_19 (by decide +kernel) rfl fun x1 => ?_
    refine z_getI (q := 91) zf_RX2_59 (by decide +kernel) rfl fun x2 => ?_
    refine z_if_le (off := 7) (t := 98) (q := 94) (by decide +kernel) (by decide) rfl ?_ ?_
    · refine zsub [] rfl ?_
      exact sj_X2_readYards_98 g l 
    · refine z_iconst (n := 1) (v := 1) (q := 95) (by decide +kernel) rfl (by decide) ?_
      refine z_goto (off := 4) (t := 99) (by decide +kernel) (by decide) ?_
      refine zsub [] rfl ?_
      exact sj_X2_readYards_99 g l 1
def lb_X2_readYards_8 (v0 : Nat) (rec : (Int32) → zAH → Option (Int32 × zAH)) (s : Int32) : zAH → Option (Int32 × zAH) := fun h => if s = ((-1000)) then jn_X2_readYards_77 v0 s h else (zgA 2 1 v0 h).bind fun x1 => (zgI 0 0 x1 h).bind fun x2 => if x2 < 40 then (zgA 2 1 v0 h).bind fun x3 => (zgA 0 1 x3 h).bind fun x4 => (zgA 2 1 v0 h).bind fun x5 => (zgI 0 0 x5 h).bind fun x6 => (zaS 0 x4 x6 s h).bind fun h7 => (zgA 2 1 v0 h7).bind fun x8 => (zgI 0 0 x8 h7).bind fun x9 => (zpF 0 0 x8 (.int (x9 + 1)) h7).bind fun h10 => (zgI 2 2 v0 h10).bind fun x11 => (zpF 2 2 v0 (.int (x11 + 1)) h10).bind fun h12 => zbd (dn_X2_sign v0 h12) fun x13 h14 => zbd (dn_X2_slopeOf x13 h14) fun x15 h16 => rec x15 h16 else jn_X2_readYards_77 v0 s h
def lp_X2_readYards_8 (v0 : Nat) (s : Int32) : zAH → Option (Int32 × zAH) := zlp (lb_X2_readYards_8 v0) 2000 s
theorem sl_X2_readYards_8 (g : zG) (l : Launch) (v0 : Nat) (s : Int32) : zSm g l cX2_readYards 2 RX2 "readYards" (some .boolean) 2 41 zrI 8 [(0, .ref v0), (1, .int s)] [] (lp_X2_readYards_8 v0 s) := by
  unfold lp_X2_readYards_8
  refine z_loop (lvf := fun s => [(0, .ref v0), (1, .int s)]) (fun rec hrec s => ?_) 2000 s
  unfold lb_X2_readYards_8
  refine z_iload_n (j := 1) (q := 9) (by decide +kernel) rfl 1 rfl ?_
  refine z_sipush (n := (-1000)) (v := (-1000)) (q := 12) (by decide +kernel) rfl (by decide) ?_
  refine z_icmp_eq (off := 65) (t := 77) (q := 15) (by decide +kernel) (by decide) rfl ?_ ?_
  · refine zsub [0, 1] rfl ?_
    exact sj_X2_readYards_77 g l v0 s
  · refine z_aload_n (j := 0) (q := 16) (by decide +kernel) rfl 0 rfl ?_
    refine z_getA (q := 19) zf_RX2_19 (by decide +kernel) rfl fun x1 => ?_
    refine z_getI (q := 22) zf_RX2_59 (by decide +kernel) rfl fun x2 => ?_
    refine z_bipush (n := 40) (v := 40) (q := 24) (by decide +kernel) rfl (by decide) ?_
    refine z_icmp_ge (off := 53) (t := 77) (q := 27) (by decide +kernel) (by decide) rfl ?_ ?_
    · refine zsub [0, 1] rfl ?_
      exact sj_X2_readYards_77 g l v0 s
    · refine z_aload_n (j := 0) (q := 28) (by decide +kernel) rfl 0 rfl ?_
      refine z_getA (q := 31) zf_RX2_19 (by decide +kernel) rfl fun x3 => ?_
      refine z_getA (q := 34) zf_RX2_62 (by decide +kernel) rfl fun x4 => ?_
      refine z_aload_n (j := 0) (q := 35) (by decide +kernel) rfl 0 rfl ?_
      refine z_getA (q := 38) zf_RX2_19 (by decide +kernel) rfl fun x5 => ?_
      refine z_getI (q := 41) zf_RX2_59 (by decide +kernel) rfl fun x6 => ?_
      refine z_iload_n (j := 1) (q := 42) (by decide +kernel) rfl 1 rfl ?_
      refine z_iast (q := 43) (Or.inl ⟨rfl, rfl, rfl⟩) (by decide +kernel) rfl ?_
      refine z_aload_n (j := 0) (q := 44) (by decide +kernel) rfl 0 rfl ?_
      refine z_getA (q := 47) zf_RX2_19 (by decide +kernel) rfl fun x8 => ?_
      refine z_dup (q := 48) (by decide +kernel) rfl rfl ?_
      refine z_getI (q := 51) zf_RX2_59 (by decide +kernel) rfl fun x9 => ?_
      refine z_iconst (n := 1) (v := 1) (q := 52) (by decide +kernel) rfl (by decide) ?_
      refine z_iadd (q := 53) (by decide +kernel) rfl ?_
      refine z_putV (q := 56) zp_RX2_59 (fun z => by cases z) rfl rfl (by decide +kernel) rfl ?_
      refine z_aload_n (j := 0) (q := 57) (by decide +kernel) rfl 0 rfl ?_
      refine z_dup (q := 58) (by decide +kernel) rfl rfl ?_
      refine z_getI (q := 61) zf_RX2_9 (by decide +kernel) rfl fun x11 => ?_
      refine z_iconst (n := 1) (v := 1) (q := 62) (by decide +kernel) rfl (by decide) ?_
      refine z_iadd (q := 63) (by decide +kernel) rfl ?_
      refine z_putV (q := 66) zp_RX2_9 (fun z => by cases z) rfl rfl (by decide +kernel) rfl ?_
      refine z_aload_n (j := 0) (q := 67) (by decide +kernel) rfl 0 rfl ?_
      refine z_callVI (As := []) (st := []) (q := 70) (ct_X2_sign g l v0) zm_RX2_31 (rc_X2_sign v0) rfl (by decide) (by decide) (Nat.le_of_ble_eq_true rfl) rfl (by decide +kernel) rfl fun x13 => ?_
      refine z_callSI (As := [.int x13]) (st := []) (q := 73) (ct_X2_slopeOf g l x13) zm_RX2_55 rfl (by decide) (by decide) (Nat.le_of_ble_eq_true rfl) rfl (by decide +kernel) rfl fun x15 => ?_
      refine z_istore_n (j := 1) (q := 74) (by decide +kernel) rfl (by decide) rfl ?_
      refine z_goto (off := (-66)) (t := 8) (by decide +kernel) (by decide) ?_
      refine zsub [1, 0] rfl ?_
      exact hrec x15
def dn_X2_readYards (v0 : Nat) : zAH → Option (Int32 × zAH) := fun h => (zgO 2 v0 h).bind fun _ => zbd (dn_X2_sign v0 h) fun x1 h2 => zbd (dn_X2_slopeOf x1 h2) fun x3 h4 => lp_X2_readYards_8 v0 x3 h4
theorem ct_X2_readYards (g : zG) (l : Launch) (v0 : Nat) : zCt g l yX2_readYards cX2_readYards 2 (some .boolean) 2 41 zrI [.ref v0] (dn_X2_readYards v0) := by
  refine zCt_of (lv := [(0, .ref v0)]) (by decide +kernel) (Nat.le_of_ble_eq_true rfl) rfl ?_
  show zSm g l cX2_readYards 2 RX2 "readYards" (some .boolean) 2 41 zrI 0 [(0, .ref v0)] [] (dn_X2_readYards v0)
  unfold dn_X2_readYards
  refine z_rec ?_
  refine z_aload_n (j := 0) (q := 1) (by decide +kernel) rfl 0 rfl ?_
  refine z_callVI (As := []) (st := []) (q := 4) (ct_X2_sign g l v0) zm_RX2_31 (rc_X2_sign v0) rfl (by decide) (by decide) (Nat.le_of_ble_eq_true rfl) rfl (by decide +kernel) rfl fun x1 => ?_
  refine z_callSI (As := [.int x1]) (st := []) (q := 7) (ct_X2_slopeOf g l x1) zm_RX2_55 rfl (by decide) (by decide) (Nat.le_of_ble_eq_true rfl) rfl (by decide +kernel) rfl fun x3 => ?_
  refine z_istore_n (j := 1) (q := 8) (by decide +kernel) rfl (by decide) rfl ?_
  refine zsub [1, 0] rfl ?_
  exact sl_X2_readYards_8 g l v0 x3
theorem rc_X2_readYards (v0 : Nat) : ∀ h x, dn_X2_readYards v0 h = some x → ∃ fs, zgO 2 v0 h = some fs := fun h x hd => by
  obtain ⟨fs, e, -⟩ := Option.bind_eq_some_iff.mp hd
  exact ⟨fs, e⟩
def jn_X2_paceOf_60 : zAH → Option (Int32 × zAH) := fun h => some ((-1000), h)
theorem sj_X2_paceOf_60 (g : zG) (l : Launch) : zSm g l cX2_paceOf 1 RX2 "paceOf" (some .int) 0 0 zrI 60 [] [] (jn_X2_paceOf_60) := by
  unfold jn_X2_paceOf_60
  refine z_sipush (n := (-1000)) (v := (-1000)) (q := 63) (by decide +kernel) rfl (by decide) ?_
  exact z_iret (by decide +kernel)
def dn_X2_paceOf (v0 : Int32) : zAH → Option (Int32 × zAH) := fun h => if v0 = 114 then some (2, h) else if v0 = 115 then some (3, h) else if v0 = 119 then some (1, h) else if v0 = 122 then some (0, h) else jn_X2_paceOf_60 h
theorem ct_X2_paceOf (g : zG) (l : Launch) (v0 : Int32) : zCt g l yX2_paceOf cX2_paceOf 1 (some .int) 0 0 zrI [.int v0] (dn_X2_paceOf v0) := by
  refine zCt_of (lv := [(0, .int v0)]) (by decide +kernel) (Nat.le_of_ble_eq_true rfl) rfl ?_
  show zSm g l cX2_paceOf 1 RX2 "paceOf" (some .int) 0 0 zrI 0 [(0, .int v0)] [] (dn_X2_paceOf v0)
  unfold dn_X2_paceOf
  refine z_iload_n (j := 0) (q := 1) (by decide +kernel) rfl 0 rfl ?_
  refine z_case (fun c1 => ?_) (fun c1 => ?_)
  · refine z_tabIn (v := 114) (off := 55) (t := 56) c1 (by decide +kernel : decode cX2_paceOf 1 = .ok (.tableswitch 59 114 122 #[55, 57, 59, 59, 59, 53, 59, 59, 51], 51)) (by decide) (by decide) (by decide) (by decide) ?_
    refine z_iconst (n := 2) (v := 2) (q := 57) (by decide +kernel) rfl (by decide) ?_
    exact z_iret (by decide +kernel)
  · skip
    refine z_case (fun c2 => ?_) (fun c2 => ?_)
    · refine z_tabIn (v := 115) (off := 57) (t := 58) c2 (by decide +kernel : decode cX2_paceOf 1 = .ok (.tableswitch 59 114 122 #[55, 57, 59, 59, 59, 53, 59, 59, 51], 51)) (by decide) (by decide) (by decide) (by decide) ?_
      refine z_iconst (n := 3) (v := 3) (q := 59) (by decide +kernel) rfl (by decide) ?_
      exact z_iret (by decide +kernel)
    · skip
      refine z_case (fun c3 => ?_) (fun c3 => ?_)
      · refine z_tabIn (v := 119) (off := 53) (t := 54) c3 (by decide +kernel : decode cX2_paceOf 1 = .ok (.tableswitch 59 114 122 #[55, 57, 59, 59, 59, 53, 59, 59, 51], 51)) (by decide) (by decide) (by decide) (by decide) ?_
        refine z_iconst (n := 1) (v := 1) (q := 55) (by decide +kernel) rfl (by decide) ?_
        exact z_iret (by decide +kernel)
      · skip
        refine z_case (fun c4 => ?_) (fun c4 => ?_)
        · refine z_tabIn (v := 122) (off := 51) (t := 52) c4 (by decide +kernel : decode cX2_paceOf 1 = .ok (.tableswitch 59 114 122 #[55, 57, 59, 59, 59, 53, 59, 59, 51], 51)) (by decide) (by decide) (by decide) (by decide) ?_
          refine z_iconst (n := 0) (v := 0) (q := 53) (by decide +kernel) rfl (by decide) ?_
          exact z_iret (by decide +kernel)
        · skip
          have nc1 := lv_neT (a := 114) c1 (by decide)
          have nc2 := lv_neT (a := 115) c2 (by decide)
          have nc3 := lv_neT (a := 119) c3 (by decide)
          have nc4 := lv_neT (a := 122) c4 (by decide)
          refine z_tabOut (t := 60) (by decide +kernel : decode cX2_paceOf 1 = .ok (.tableswitch 59 114 122 #[55, 57, 59, 59, 59, 53, 59, 59, 51], 51)) (by
              by_cases ho : (v0).toInt < 114 ∨ 122 < (v0).toInt
              · exact Or.inl ho
              · refine Or.inr ⟨by omega, by omega, ?_⟩
                have hh : (v0).toInt = 116 ∨ (v0).toInt = 117 ∨ (v0).toInt = 118 ∨ (v0).toInt = 120 ∨ (v0).toInt = 121 := by omega
                rcases hh with hh | hh | hh | hh | hh <;> rw [hh] <;> rfl) (by decide) ?_
          refine zsub [] rfl ?_
          exact sj_X2_paceOf_60 g l 
def jn_X2_readPlan_88 (w0 : Int32) : zAH → Option (Int32 × zAH) := fun h => if w0 = 0 ∨ w0 = 1 then some (w0, h) else none
theorem sj_X2_readPlan_88 (g : zG) (l : Launch) (w0 : Int32) : zSm g l cX2_readPlan 4 RX2 "readPlan" (some .boolean) 2 41 zrI 88 [] [.int w0] (jn_X2_readPlan_88 w0) := by
  unfold jn_X2_readPlan_88
  exact z_zret (by decide +kernel)
def jn_X2_readPlan_87 : zAH → Option (Int32 × zAH) := fun h => jn_X2_readPlan_88 0 h
theorem sj_X2_readPlan_87 (g : zG) (l : Launch) : zSm g l cX2_readPlan 4 RX2 "readPlan" (some .boolean) 2 41 zrI 87 [] [] (jn_X2_readPlan_87) := by
  unfold jn_X2_readPlan_87
  refine z_iconst (n := 0) (v := 0) (q := 88) (by decide +kernel) rfl (by decide) ?_
  refine zsub [] rfl ?_
  exact sj_X2_readPlan_88 g l 0
def jn_X2_readPlan_62 (v0 : Nat) (v1 : Int32) (v2 : Int32) (v3 : Int32) : zAH → Option (Int32 × zAH) := fun h => (zgA 2 1 v0 h).bind fun x1 => (zgA 0 6 x1 h).bind fun x2 => (zaS 0 x2 v1 v2 h).bind fun h3 => if v3 = ((-1000)) then if 0 < v2 then jn_X2_readPlan_88 1 h3 else jn_X2_readPlan_87 h3 else jn_X2_readPlan_87 h3
theorem sj_X2_readPlan_62 (g : zG) (l : Launch) (v0 : Nat) (v1 : Int32) (v2 : Int32) (v3 : Int32) : zSm g l cX2_readPlan 4 RX2 "readPlan" (some .boolean) 2 41 zrI 62 [(0, .ref v0), (1, .int v1), (2, .int v2), (3, .int v3)] [] (jn_X2_readPlan_62 v0 v1 v2 v3) := by
  unfold jn_X2_readPlan_62
  refine z_aload_n (j := 0) (q := 63) (by decide +kernel) rfl 0 rfl ?_
  refine z_getA (q := 66) zf_RX2_19 (by decide +kernel) rfl fun x1 => ?_
  refine z_getA (q := 69) zf_RX2_86 (by decide +kernel) rfl fun x2 => ?_
  refine z_iload_n (j := 1) (q := 70) (by decide +kernel) rfl 1 rfl ?_
  refine z_iload_n (j := 2) (q := 71) (by decide +kernel) rfl 2 rfl ?_
  refine z_iast (q := 72) (Or.inl ⟨rfl, rfl, rfl⟩) (by decide +kernel) rfl ?_
  refine z_iload_n (j := 3) (q := 73) (by decide +kernel) rfl 3 rfl ?_
  refine z_sipush (n := (-1000)) (v := (-1000)) (q := 76) (by decide +kernel) rfl (by decide) ?_
  refine z_icmp_ne (off := 11) (t := 87) (q := 79) (by decide +kernel) (by decide) rfl ?_ ?_
  · refine zsub [] rfl ?_
    exact sj_X2_readPlan_87 g l 
  · refine z_iload_n (j := 2) (q := 80) (by decide +kernel) rfl 2 rfl ?_
    refine z_if_le (off := 7) (t := 87) (q := 83) (by decide +kernel) (by decide) rfl ?_ ?_
    · refine zsub [] rfl ?_
      exact sj_X2_readPlan_87 g l 
    · refine z_iconst (n := 1) (v := 1) (q := 84) (by decide +kernel) rfl (by decide) ?_
      refine z_goto (off := 4) (t := 88) (by decide +kernel) (by decide) ?_
      refine zsub [] rfl ?_
      exact sj_X2_readPlan_88 g l 1
def lb_X2_readPlan_10 (v0 : Nat) (v1 : Int32) (rec : (Int32 × Int32) → zAH → Option (Int32 × zAH)) (s : Int32 × Int32) : zAH → Option (Int32 × zAH) := fun h => if s.2 = ((-1000)) then jn_X2_readPlan_62 v0 v1 s.1 s.2 h else if s.1 < 8 then (zgA 2 1 v0 h).bind fun x1 => (zgA 0 7 x1 h).bind fun x2 => (zaS 0 x2 ((8 * v1) + s.1) s.2 h).bind fun h3 => (zgI 2 2 v0 h3).bind fun x4 => (zpF 2 2 v0 (.int (x4 + 1)) h3).bind fun h5 => zbd (dn_X2_sign v0 h5) fun x6 h7 => zbd (dn_X2_paceOf x6 h7) fun x8 h9 => rec (s.1 + 1, x8) h9 else jn_X2_readPlan_62 v0 v1 s.1 s.2 h
def lp_X2_readPlan_10 (v0 : Nat) (v1 : Int32) (s : Int32 × Int32) : zAH → Option (Int32 × zAH) := zlp (lb_X2_readPlan_10 v0 v1) 2000 s
theorem sl_X2_readPlan_10 (g : zG) (l : Launch) (v0 : Nat) (v1 : Int32) (s : Int32 × Int32) : zSm g l cX2_readPlan 4 RX2 "readPlan" (some .boolean) 2 41 zrI 10 [(0, .ref v0), (1, .int v1), (2, .int s.1), (3, .int s.2)] [] (lp_X2_readPlan_10 v0 v1 s) := by
  unfold lp_X2_readPlan_10
  refine z_loop (lvf := fun s => [(0, .ref v0), (1, .int v1), (2, .int s.1), (3, .int s.2)]) (fun rec hrec s => ?_) 2000 s
  unfold lb_X2_readPlan_10
  refine z_iload_n (j := 3) (q := 11) (by decide +kernel) rfl 3 rfl ?_
  refine z_sipush (n := (-1000)) (v := (-1000)) (q := 14) (by decide +kernel) rfl (by decide) ?_
  refine z_icmp_eq (off := 48) (t := 62) (q := 17) (by decide +kernel) (by decide) rfl ?_ ?_
  · refine zsub [0, 1, 2, 3] rfl ?_
    exact sj_X2_readPlan_62 g l v0 v1 s.1 s.2
  · refine z_iload_n (j := 2) (q := 18) (by decide +kernel) rfl 2 rfl ?_
    refine z_bipush (n := 8) (v := 8) (q := 20) (by decide +kernel) rfl (by decide) ?_
    refine z_icmp_ge (off := 42) (t := 62) (q := 23) (by decide +kernel) (by decide) rfl ?_ ?_
    · refine zsub [0, 1, 2, 3] rfl ?_
      exact sj_X2_readPlan_62 g l v0 v1 s.1 s.2
    · refine z_aload_n (j := 0) (q := 24) (by decide +kernel) rfl 0 rfl ?_
      refine z_getA (q := 27) zf_RX2_19 (by decide +kernel) rfl fun x1 => ?_
      refine z_getA (q := 30) zf_RX2_83 (by decide +kernel) rfl fun x2 => ?_
      refine z_bipush (n := 8) (v := 8) (q := 32) (by decide +kernel) rfl (by decide) ?_
      refine z_iload_n (j := 1) (q := 33) (by decide +kernel) rfl 1 rfl ?_
      refine z_imul (q := 34) (by decide +kernel) rfl ?_
      refine z_iload_n (j := 2) (q := 35) (by decide +kernel) rfl 2 rfl ?_
      refine z_iadd (q := 36) (by decide +kernel) rfl ?_
      refine z_iload_n (j := 3) (q := 37) (by decide +kernel) rfl 3 rfl ?_
      refine z_iast (q := 38) (Or.inl ⟨rfl, rfl, rfl⟩) (by decide +kernel) rfl ?_
      refine z_iinc (j := 2) (n := 1) (v := 1) (q := 41) (by decide +kernel) rfl 2 rfl (by decide) (by decide) rfl ?_
      refine z_aload_n (j := 0) (q := 42) (by decide +kernel) rfl 1 rfl ?_
      refine z_dup (q := 43) (by decide +kernel) rfl rfl ?_
      refine z_getI (q := 46) zf_RX2_9 (by decide +kernel) rfl fun x4 => ?_
      refine z_iconst (n := 1) (v := 1) (q := 47) (by decide +kernel) rfl (by decide) ?_
      refine z_iadd (q := 48) (by decide +kernel) rfl ?_
      refine z_putV (q := 51) zp_RX2_9 (fun z => by cases z) rfl rfl (by decide +kernel) rfl ?_
      refine z_aload_n (j := 0) (q := 52) (by decide +kernel) rfl 1 rfl ?_
      refine z_callVI (As := []) (st := []) (q := 55) (ct_X2_sign g l v0) zm_RX2_31 (rc_X2_sign v0) rfl (by decide) (by decide) (Nat.le_of_ble_eq_true rfl) rfl (by decide +kernel) rfl fun x6 => ?_
      refine z_callSI (As := [.int x6]) (st := []) (q := 58) (ct_X2_paceOf g l x6) zm_RX2_80 rfl (by decide) (by decide) (Nat.le_of_ble_eq_true rfl) rfl (by decide +kernel) rfl fun x8 => ?_
      refine z_istore_n (j := 3) (q := 59) (by decide +kernel) rfl (by decide) rfl ?_
      refine z_goto (off := (-49)) (t := 10) (by decide +kernel) (by decide) ?_
      refine zsub [2, 3, 1, 0] rfl ?_
      exact hrec (s.1 + 1, x8)
def dn_X2_readPlan (v0 : Nat) (v1 : Int32) : zAH → Option (Int32 × zAH) := fun h => (zgO 2 v0 h).bind fun _ => zbd (dn_X2_sign v0 h) fun x1 h2 => zbd (dn_X2_paceOf x1 h2) fun x3 h4 => lp_X2_readPlan_10 v0 v1 (0, x3) h4
theorem ct_X2_readPlan (g : zG) (l : Launch) (v0 : Nat) (v1 : Int32) : zCt g l yX2_readPlan cX2_readPlan 4 (some .boolean) 2 41 zrI [.ref v0, .int v1] (dn_X2_readPlan v0 v1) := by
  refine zCt_of (lv := [(0, .ref v0), (1, .int v1)]) (by decide +kernel) (Nat.le_of_ble_eq_true rfl) rfl ?_
  show zSm g l cX2_readPlan 4 RX2 "readPlan" (some .boolean) 2 41 zrI 0 [(0, .ref v0), (1, .int v1)] [] (dn_X2_readPlan v0 v1)
  unfold dn_X2_readPlan
  refine z_rec ?_
  refine z_iconst (n := 0) (v := 0) (q := 1) (by decide +kernel) rfl (by decide) ?_
  refine z_istore_n (j := 2) (q := 2) (by decide +kernel) rfl (by decide) rfl ?_
  refine z_aload_n (j := 0) (q := 3) (by decide +kernel) rfl 1 rfl ?_
  refine z_callVI (As := []) (st := []) (q := 6) (ct_X2_sign g l v0) zm_RX2_31 (rc_X2_sign v0) rfl (by decide) (by decide) (Nat.le_of_ble_eq_true rfl) rfl (by decide +kernel) rfl fun x1 => ?_
  refine z_callSI (As := [.int x1]) (st := []) (q := 9) (ct_X2_paceOf g l x1) zm_RX2_80 rfl (by decide) (by decide) (Nat.le_of_ble_eq_true rfl) rfl (by decide +kernel) rfl fun x3 => ?_
  refine z_istore_n (j := 3) (q := 10) (by decide +kernel) rfl (by decide) rfl ?_
  refine zsub [2, 3, 1, 0] rfl ?_
  exact sl_X2_readPlan_10 g l v0 v1 (0, x3)
theorem rc_X2_readPlan (v0 : Nat) (v1 : Int32) : ∀ h x, dn_X2_readPlan v0 v1 h = some x → ∃ fs, zgO 2 v0 h = some fs := fun h x hd => by
  obtain ⟨fs, e, -⟩ := Option.bind_eq_some_iff.mp hd
  exact ⟨fs, e⟩
